/-! the reference: a message taken off, a message comes -/
theorem sft : ∀ i : Fin 32, ((nI i.val &&& 31).toBitVec.smod 32).toNat = i.val := by decide +kernel
theorem shr_bit {lo i : Nat} (hlo : lo < 2 ^ 31) (hi : i < 32) : ((nI lo >>> (nI i &&& 31)) &&& 1) = 0 ↔ lo.testBit i = false := by
  rw [pk_shrN hlo _ i (sft ⟨i, hi⟩), ni_and _ 1 (by decide) (by decide), show (0 : Int32) = nI 0 from rfl, nI_eq (by omega) (by decide), Nat.testBit_eq_decide_div_mod_eq]
  simp
section MT
variable {c : Cf} {a : AS} {at_ : Nat → Int32}
theorem m_takeOff (h : sOK c a) (hr : mRep a at_) {i p : Nat} (hi : i < 8) (hp0 : p < ((sR a).getD i []).length) {post : (Nat → Int32) → Prop}
    (hp : ∀ at', mRep (sV a, sS a, sC a, sD a, (sR a).set i (aDel ((sR a).getD i []) p)) at' → post at') : wp_X8_takeOff at_ (nI i) (nI p) post := by
  show wp_X8_takeOff_0 post (nI i) (nI p) at_
  unfold wp_X8_takeOff_0
  show wp_X8_rowOf_0 _ (nI i)
  unfold wp_X8_rowOf_0
  rw [row17]
  refine ⟨vp_in_nI (by omega) (by decide), ?_⟩
  rw [nI_clamp (by omega), hr _ (by omega), mE_n]
  have h16 := h.len16 i
  generalize hR0 : 12 + 17 * i = R
  have hRlt : R + 17 ≤ 148 := by omega
  have eR : ∀ j, j < 16 → mE a (R + 1 + j) = ((sR a).getD i []).getD j 0 := fun j hj => by rw [← hR0]; exact mE_r i hj
  generalize hn : ((sR a).getD i []).length = N at *
  unfold wp_X8_takeOff_16
  refine ⟨fun k x5 at' => ∃ q, p ≤ q ∧ q < N ∧ k = N - q ∧ x5 = nI q ∧ (∀ k, k < 148 → at' k = nI (if R + 1 + p ≤ k ∧ k < R + 1 + q then mE a (k + 1) else mE a k)), N - p, ⟨p, Nat.le_refl _, hp0, rfl, rfl, fun k hk => ?_⟩, ?_⟩
  · rw [if_neg (by omega)]; exact hr k hk
  rintro k x5 at' ⟨q, hpq, hqN, rfl, rfl, hat⟩
  unfold bd_X8_takeOff_16
  rw [nI_inc q]
  refine pk_le N (q + 1) (fun hx => ?_) (fun hx => ?_) rfl rfl (by omega) (by omega)
  · have eq : q + 1 = N := by omega
    rw [nI_add, nI_s1 (by omega), i2b (by omega), nar (by omega), show (0 : Int32) = nI 0 from rfl, nar (by decide)]
    refine ⟨vp_in_nI (by omega) (by decide), vp_in_nI (by omega) (by decide), ?_⟩
    rw [nI_clamp (by omega), nI_clamp (by omega)]
    refine hp _ (fun k hk => ?_)
    have hput : (sR a |>.set i (aDel ((sR a).getD i []) p)).getD i [] = aDel ((sR a).getD i []) p := getD_set_eq (by rw [h.lR]; exact hi)
    have hlen : (aDel ((sR a).getD i []) p).length = N - 1 := by
      have := aDel_len (row := (sR a).getD i []) (p := p) (by omega)
      omega
    have hget : ∀ j, (aDel ((sR a).getD i []) p).getD j 0 = if j < p then ((sR a).getD i []).getD j 0 else ((sR a).getD i []).getD (j + 1) 0 := fun j => del_getD j (by omega)
    rcases mK hk with h12 | ⟨i', hi', rfl⟩ | ⟨i', j, hi', hj, rfl⟩
    · rw [pk_un (by omega), pk_un (by omega), hat k hk, if_neg (by omega)]; exact congrArg nI (mE_12 h12 rfl rfl rfl rfl)
    · by_cases e : i' = i
      · subst e
        rw [hR0, pk_us, ← hR0, mE_n]
        show nI (N - 1) = nI ((sR a |>.set i' (aDel ((sR a).getD i' []) p)).getD i' []).length
        rw [hput, hlen]
      · rw [pk_un (by omega), pk_un (by omega), hat _ hk, if_neg (by omega), mE_n, mE_n]
        show nI ((sR a).getD i' []).length = nI ((sR a |>.set i (aDel ((sR a).getD i []) p)).getD i' []).length
        rw [getD_set_ne (fun z => e z.symm)]
    · rw [mE_r i' hj]
      by_cases e : i' = i
      · subst e
        show _ = nI ((sR a |>.set i' (aDel ((sR a).getD i' []) p)).getD i' [] |>.getD j 0)
        rw [hput, hget, hR0, pk_un (by omega)]
        by_cases e2 : j + 1 = N
        · rw [show R + 1 + j = R + N by omega, pk_us, if_neg (by omega), getD_big (by omega)]
        · rw [pk_un (by omega), hat _ (by omega)]
          by_cases e3 : j < p
          · rw [if_pos e3, if_neg (by omega), eR j hj]
          · rw [if_neg e3]
            by_cases e4 : j < N
            · rw [if_pos (by omega), show R + 1 + j + 1 = R + 1 + (j + 1) by omega, eR _ (by omega)]
            · rw [if_neg (by omega), eR j hj, getD_big (by omega), getD_big (by omega)]
      · rw [pk_un (by omega), pk_un (by omega), hat _ hk, if_neg (by omega), mE_r i' hj]
        show _ = nI ((sR a |>.set i (aDel ((sR a).getD i []) p)).getD i' [] |>.getD j 0)
        rw [getD_set_ne (fun z => e z.symm)]
  · rw [show (2 : Int32) = nI 2 from rfl, nI_add, nI_add, nI_inc R, nI_add]
    refine ⟨vp_in_nI (by omega) (by decide), vp_in_nI (by omega) (by decide), N - (q + 1), by omega, q + 1, by omega, by omega, rfl, rfl, fun k hk => ?_⟩
    rw [nI_clamp (by omega), nI_clamp (by omega), hat _ (by omega), if_neg (by omega), nar (Nat.lt_trans (mE_lt h _) (by decide))]
    by_cases e5 : k = R + 1 + q
    · subst e5
      rw [pk_us, if_pos (by omega), show R + 2 + q = R + 1 + q + 1 by omega]
    · rw [pk_un e5, hat k hk]
      by_cases e6 : R + 1 + p ≤ k ∧ k < R + 1 + q
      · rw [if_pos e6, if_pos (by omega)]
      · rw [if_neg e6, if_neg (by omega)]
theorem mRep_set {k x : Nat} (hr : mRep a at_) {b : AS} (hk : mE b k = x) (ho : ∀ j, j < 148 → j ≠ k → mE b j = mE a j) : mRep b (upd at_ k (nI x)) := by
  intro j hj
  by_cases e : j = k
  · subst e; rw [pk_us, hk]
  · rw [pk_un e, hr j hj, ho j hj e]
theorem mE_setV (h : sOK c a) {v y j : Nat} (hv : v < 5) : mE ((sV a).set v y, sS a, sC a, sD a, sR a) j = if j = v then y else mE a j := by
  by_cases e : j = v
  · subst e
    rw [if_pos rfl, mE_v hv]
    exact getD_set_eq (by rw [h.lV]; exact hv)
  · rw [if_neg e]
    unfold mE
    show (if j < 5 then ((sV a).set v y).getD j 0 else _) = _
    rw [getD_set_ne (fun z => e z.symm)]
theorem mE_setS (h : sOK c a) {v y j : Nat} (hv : v < 5) : mE (sV a, (sS a).set v y, sC a, sD a, sR a) j = if j = 5 + v then y else mE a j := by
  by_cases e : j = 5 + v
  · subst e
    rw [if_pos rfl, mE_s hv]
    exact getD_set_eq (by rw [h.lS]; exact hv)
  · rw [if_neg e]
    unfold mE
    show (if j < 5 then (sV a).getD j 0 else if j < 10 then ((sS a).set v y).getD (j - 5) 0 else _) = _
    by_cases e2 : j < 5
    · rw [if_pos e2, if_pos e2]
    · rw [if_neg e2, if_neg e2, getD_set_ne (by omega)]
variable {ar : Int32} {fr wt st told : Nat → Int32} {lo : Nat}
theorem m_comes (hc : cOK c) (h : sOK c a) (hr : mRep a at_) (hst : rRep c st told) (har : ar = nI (cNA c)) (hfr : ∀ i, i < cNA c → fr i = nI (cFr c i)) (hwt : ∀ i, i < cNA c → wt i = nI (cWt c i)) (hlo : lo < 65536) {v m : Nat} (hv : v < 5) (hm : m < 16) {post : (Nat → Int32) → Prop}
    (hp : ∀ at', mRep (aDeliver c (fun i => !(lo.testBit i)) a v m) at' → post at') : wp_X8_comes ar fr wt st told at_ (nI v) (nI m) (nI lo) post := by
  show wp_X8_comes_0 ar fr wt st told post (nI v) (nI m) (nI lo) at_
  unfold wp_X8_comes_0
  rw [har]
  have hx := getD_all h.bV (by decide) v
  have hy := aFold_lt hc hx hm
  have h8 : cNA c ≤ 8 := hc.1.2.1
  have hn5 := hc.1.1
  obtain ⟨b0, b1, b2, b3, b4, b5, b6⟩ := hc.2.2.2.2.1
  have hinv : vp_in (nI v) 148 := vp_in_nI (by omega) (by decide)
  refine ⟨hinv, ?_⟩
  rw [nI_clamp (by omega), hr v (by omega), mE_v hv]
  refine m_folded hc hst hx hm ⟨hinv, ?_⟩
  rw [i2b (by omega), nar (by omega)]
  generalize hy0 : aFold c ((sV a).getD v 0) m = y at hy
  have hdel : aDeliver c (fun i => !(lo.testBit i)) a v m = if (y ≠ (sV a).getD v 0 ∨ cSet c 2 = 1) ∧ (sS a).getD v 0 < cSet c 3 then ((sV a).set v y, (sS a).set v ((sS a).getD v 0 + 1), sC a, sD a, aSend c (fun i => !(lo.testBit i)) v y (cNA c) (sR a)) else ((sV a).set v y, sS a, sC a, sD a, sR a) := by
    unfold aDeliver; rw [hy0]
  have h1 := sOK_setV h (v := v) hy
  have r1 : mRep ((sV a).set v y, sS a, sC a, sD a, sR a) (upd at_ v (nI y)) := mRep_set hr (by rw [mE_setV h hv, if_pos rfl]) (fun j hj hne => by rw [mE_setV h hv, if_neg hne])
  have no : ¬ ((y ≠ (sV a).getD v 0 ∨ cSet c 2 = 1) ∧ (sS a).getD v 0 < cSet c 3) → post (upd at_ v (nI y)) := fun q => hp _ (by rw [hdel, if_neg q]; exact r1)
  have h43 : (y ≠ (sV a).getD v 0 ∨ cSet c 2 = 1) → wp_X8_comes_43 (nI (cNA c)) fr wt st told post (nI v) (nI lo) (nI y) (upd at_ v (nI y)) := by
    intro q
    unfold wp_X8_comes_43
    rw [show (5 : Int32) + nI v = nI (5 + v) from nI_add 5 v]
    have hin5 : vp_in (nI (5 + v)) 148 := vp_in_nI (by omega) (by decide)
    refine ⟨hin5, by unfold vp_in; decide, ?_⟩
    rw [nI_clamp (by omega), r1 (5 + v) (by omega), mE_s hv, show st (3 : Int32).toNatClampNeg = nI (cSet c 3) from hst.1 3 (by decide)]
    show (nI (cSet c 3) ≤ nI ((sS a).getD v 0) → _) ∧ _
    have hs16 := getD_le h.bS v
    refine pk_le (cSet c 3) ((sS a).getD v 0) (fun q2 => ?_) (fun q2 => ?_) rfl rfl (by omega) (by omega)
    · exact no (fun z => by omega)
    · refine ⟨hin5, hin5, ?_⟩
      show wp_X8_comes_76 (nI (cNA c)) fr wt st told post (nI v) (nI lo) (nI y) 0 (upd (upd at_ v (nI y)) (5 + v) (vp_nar .byte ((nI ((sS a).getD v 0) + 1).toInt8.toInt32)))
      rw [nI_inc, i2b (by omega), nar (by omega)]
      unfold wp_X8_comes_76
      refine ⟨fun k x6 at' => ∃ i, i ≤ cNA c ∧ k = cNA c - i ∧ x6 = nI i ∧ mRep ((sV a).set v y, (sS a).set v ((sS a).getD v 0 + 1), sC a, sD a, aSend c (fun i => !(lo.testBit i)) v y i (sR a)) at', cNA c, ⟨0, by omega, rfl, rfl, ?_⟩, ?_⟩
      · refine mRep_set r1 ?_ (fun j hj hne => ?_)
        · have := mE_setS (y := (sS a).getD v 0 + 1) (j := 5 + v) h1 hv
          rw [if_pos rfl] at this; exact this
        · have := mE_setS (y := (sS a).getD v 0 + 1) (j := j) h1 hv
          rw [if_neg hne] at this; exact this
      rintro k x6 at' ⟨i, hi, rfl, rfl, hI⟩
      have hOK := sOK_send hc h (fun i => !(lo.testBit i)) hv hy (by omega) hi
      unfold bd_X8_comes_76 wp_X8_comes_124
      refine pk_le (cNA c) i (fun q3 => ?_) (fun q3 => ?_) rfl rfl (by omega) (by omega)
      · have e : i = cNA c := by omega
        subst e
        exact hp _ (by rw [hdel, if_pos ⟨q, q2⟩]; exact hI)
      · have hin : vp_in (nI i) 8 := vp_in_nI (by omega) (by decide)
        have hfi := (hc.2.2.1 i q3).1
        have hgi := aSend_get c (fun i => !(lo.testBit i)) v y (sR a) i (by rw [h.lR]; omega) i
        rw [if_neg (by omega)] at hgi
        refine ⟨hin, ?_⟩
        rw [nI_clamp (by omega), hfr i q3, hwt i q3]
        have skip : ¬ (cFr c i = v ∧ (!(lo.testBit i)) = true) → ∃ n', n' < cNA c - i ∧ ∃ i', i' ≤ cNA c ∧ n' = cNA c - i' ∧ nI i + 1 = nI i' ∧ mRep ((sV a).set v y, (sS a).set v ((sS a).getD v 0 + 1), sC a, sD a, aSend c (fun i => !(lo.testBit i)) v y i' (sR a)) at' := by
          intro q4
          refine ⟨cNA c - (i + 1), by omega, i + 1, by omega, rfl, nI_inc i, ?_⟩
          unfold aSend
          rw [if_neg q4]; exact hI
        refine ⟨fun q4 => skip (fun z => q4 (by rw [z.1])), fun q4 => ?_⟩
        have q4' : cFr c i = v := (nI_eq (by omega) (by omega)).mp q4
        rw [shr_bit (by omega) (by omega)]
        refine ⟨fun q5 => skip (fun z => q5 (by simpa using z.2)), fun q5 => ⟨hin, ?_⟩⟩
        refine m_outOf hc hst.1 hy (hc.2.2.1 i q3).2.2 ?_
        have hl := h.rS i q3
        rw [q4'] at hl
        refine m_send hOK hI (mode := cSet c 4) (hst.1 4 (by decide)) b5 (by omega) (by show ((aSend c (fun i => !(lo.testBit i)) v y i (sR a)).getD i []).length ≤ 15; rw [hgi]; omega) (aOut_lt hy (hc.2.2.1 i q3).2.2) (fun at2 hat2 => ?_)
        refine ⟨cNA c - (i + 1), by omega, i + 1, by omega, rfl, nI_inc i, ?_⟩
        unfold aSend
        rw [if_pos ⟨q4', by rw [q5]; rfl⟩]; exact hat2
  by_cases e1 : y = (sV a).getD v 0
  · refine ns_yes (by rw [e1]) ⟨by unfold vp_in; decide, ?_⟩
    rw [show st (2 : Int32).toNatClampNeg = nI (cSet c 2) from hst.1 2 (by decide)]
    by_cases e2 : cSet c 2 = 1
    · exact ns_yes (by rw [e2]; rfl) (h43 (Or.inr e2))
    · exact ns_no (fun z => e2 ((nI_eq (a := cSet c 2) (b := 1) (by omega) (by decide)).mp z)) (no (fun z => z.1.elim (fun y2 => y2 e1) (fun y2 => e2 y2)))
  · exact ns_no (fun z => e1 ((nI_eq (by omega) (by omega)).mp z)) (h43 (Or.inl e1))
end MT
