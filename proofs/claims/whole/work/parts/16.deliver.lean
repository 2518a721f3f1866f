/-! a message comes: the picture stays sound, and the class does it -/
theorem insP_le' (row : List Nat) (m : Nat) : insP row m row.length ≤ row.length := insP_le row m _
theorem aPutP_le (mode : Nat) (row : List Nat) (m : Nat) : aPutP mode row m ≤ row.length := by
  unfold aPutP
  by_cases h : mode = 1
  · rw [if_pos h]; exact Nat.le_refl _
  · rw [if_neg h]; exact insP_le' row m
theorem aPut_len (mode : Nat) (row : List Nat) (m : Nat) : (aPut mode row m).length = row.length + 1 := by
  have := aPutP_le mode row m
  unfold aPut
  rw [List.length_append, List.length_cons, List.length_take, List.length_drop]
  omega
theorem aPut_lt {mode : Nat} {row : List Nat} {m : Nat} (h : ∀ d ∈ row, d < 16) (hm : m < 16) : ∀ d ∈ aPut mode row m, d < 16 := by
  intro d hd
  unfold aPut at hd
  rcases List.mem_append.mp hd with h1 | h1
  · exact h d (List.mem_of_mem_take h1)
  · rcases List.mem_cons.mp h1 with h2 | h2
    · rw [h2]; exact hm
    · exact h d (List.mem_of_mem_drop h2)
theorem aDel_lt {row : List Nat} {p : Nat} (h : ∀ d ∈ row, d < 16) : ∀ d ∈ aDel row p, d < 16 := by
  intro d hd
  unfold aDel at hd
  rcases List.mem_append.mp hd with h1 | h1
  · exact h d (List.mem_of_mem_take h1)
  · exact h d (List.mem_of_mem_drop h1)
theorem aDel_len {row : List Nat} {p : Nat} (h : p < row.length) : (aDel row p).length + 1 = row.length := by
  unfold aDel
  rw [List.length_append, List.length_take, List.length_drop]
  omega
theorem aSend_len (c : Cf) (stay : Nat → Bool) (v y : Nat) (r : List (List Nat)) : ∀ n, (aSend c stay v y n r).length = r.length
  | 0 => rfl
  | n + 1 => by
    unfold aSend
    split
    · rw [List.length_set, aSend_len c stay v y r n]
    · exact aSend_len c stay v y r n
theorem aSend_get (c : Cf) (stay : Nat → Bool) (v y : Nat) (r : List (List Nat)) : ∀ n, n ≤ r.length → ∀ i, (aSend c stay v y n r).getD i [] = if i < n ∧ cFr c i = v ∧ stay i = true then aPut (cSet c 4) (r.getD i []) (aOut c y (cWt c i)) else r.getD i []
  | 0, _, i => by rw [if_neg (by omega)]; rfl
  | n + 1, hn, i => by
    have ih := aSend_get c stay v y r n (by omega)
    have hl := aSend_len c stay v y r n
    have hself := ih n
    rw [if_neg (by omega)] at hself
    unfold aSend
    by_cases h : cFr c n = v ∧ stay n = true
    · rw [if_pos h]
      by_cases e : i = n
      · subst e
        rw [getD_set_eq (by omega), if_pos ⟨by omega, h⟩, hself]
      · rw [getD_set_ne (fun z => e z.symm), ih i]
        by_cases q : i < n ∧ cFr c i = v ∧ stay i = true
        · rw [if_pos q, if_pos ⟨by omega, q.2⟩]
        · rw [if_neg q, if_neg (fun z => q ⟨by omega, z.2⟩)]
    · rw [if_neg h, ih i]
      by_cases q : i < n ∧ cFr c i = v ∧ stay i = true
      · rw [if_pos q, if_pos ⟨by omega, q.2⟩]
      · rw [if_neg q, if_neg (fun z => by
          by_cases e : i = n
          · subst e; exact h z.2
          · exact q ⟨by omega, z.2⟩)]
theorem mem_getD {α : Type} {l : List α} {x d : α} (h : x ∈ l) : ∃ i, i < l.length ∧ l.getD i d = x := by
  obtain ⟨i, hi, rfl⟩ := List.getElem_of_mem h
  exact ⟨i, hi, by rw [List.getD_eq_getElem?_getD, List.getElem?_eq_getElem hi]; rfl⟩
theorem set_all {l : List Nat} {B i x : Nat} (h : ∀ d ∈ l, d < B) (hx : x < B) : ∀ d ∈ l.set i x, d < B := by
  intro d hd
  rcases List.mem_or_eq_of_mem_set hd with h1 | h1
  · exact h d h1
  · rw [h1]; exact hx
section DL
variable {c : Cf} {a : AS}
/-- rows that fit beside how often each VERTEX SENT -/
theorem sOK_rows (h : sOK c a) {V S : List Nat} {R : List (List Nat)} (hV : V.length = 5) (hV2 : ∀ d ∈ V, d < 16) (hS : S.length = 5) (hS2 : ∀ d ∈ S, d ≤ 16) (hR : R.length = 8) (hR2 : ∀ i, i < 8 → ∀ d ∈ R.getD i [], d < 16) (h3 : ∀ i, i < cNA c → (R.getD i []).length ≤ S.getD (cFr c i) 0) (h4 : ∀ i, cNA c ≤ i → R.getD i [] = []) : sOK c (V, S, sC a, sD a, R) :=
  ⟨hV, hS, h.lC, hR, hV2, hS2, h.bC, h.bD, h.cHi, fun r hr d hd => by
    obtain ⟨i, hi, e⟩ := mem_getD (d := []) hr
    exact hR2 i (by rw [← hR]; exact hi) d (by rw [e]; exact hd), h3, h4⟩
theorem sOK_setV (h : sOK c a) {v y : Nat} (hy : y < 16) : sOK c ((sV a).set v y, sS a, sC a, sD a, sR a) :=
  ⟨by show ((sV a).set v y).length = 5; rw [List.length_set]; exact h.lV, h.lS, h.lC, h.lR, set_all h.bV hy, h.bS, h.bC, h.bD, h.cHi, h.bR, h.rS, h.rHi⟩
theorem sOK_send (hc : cOK c) (h : sOK c a) (stay : Nat → Bool) {v y : Nat} (hv : v < 5) (hy : y < 16) (hs : (sS a).getD v 0 < 16) {n : Nat} (hn : n ≤ cNA c) : sOK c ((sV a).set v y, (sS a).set v ((sS a).getD v 0 + 1), sC a, sD a, aSend c stay v y n (sR a)) := by
  have h8 : cNA c ≤ 8 := hc.1.2.1
  have hget := aSend_get c stay v y (sR a) n (by rw [h.lR]; omega)
  refine sOK_rows h (by rw [List.length_set]; exact h.lV) (set_all h.bV hy) (by rw [List.length_set]; exact h.lS) (fun d hd => ?_) (by rw [aSend_len]; exact h.lR) (fun i hi d hd => ?_) (fun i hi => ?_) (fun i hi => ?_)
  · rcases List.mem_or_eq_of_mem_set hd with h1 | h1
    · exact h.bS d h1
    · rw [h1]; omega
  · rw [hget i] at hd
    by_cases q : i < n ∧ cFr c i = v ∧ stay i = true
    · rw [if_pos q] at hd
      exact aPut_lt (h.rw16 i) (aOut_lt hy (hc.2.2.1 i (by omega)).2.2) d hd
    · rw [if_neg q] at hd; exact h.rw16 i d hd
  · have h1 := h.rS i hi
    rw [hget i]
    by_cases e : cFr c i = v
    · rw [e] at h1 ⊢
      rw [getD_set_eq (by rw [h.lS]; exact hv)]
      by_cases q : i < n ∧ v = v ∧ stay i = true
      · rw [if_pos q, aPut_len]; omega
      · rw [if_neg q]; omega
    · rw [getD_set_ne (fun z => e z.symm), if_neg (fun z => e z.2.1)]; exact h1
  · rw [hget i, if_neg (by omega)]; exact h.rHi i hi
theorem sOK_deliver (hc : cOK c) (h : sOK c a) (stay : Nat → Bool) {v m : Nat} (hv : v < 5) (hm : m < 16) : sOK c (aDeliver c stay a v m) := by
  have hy := aFold_lt hc (getD_all h.bV (by decide) v) hm
  unfold aDeliver
  split
  · rename_i q
    exact sOK_send hc h stay hv hy (by have := hc.2.2.2.2.1.2.2.2.2.1; omega) (Nat.le_refl _)
  · exact sOK_setV h hy
/-- the STEPS that can be -/
def vStep (c : Cf) (a : AS) (src p d : Nat) : Prop := ((100 ≤ src ∧ src - 100 < cNF c ∧ (sC a).getD (src - 100) 0 = 0 ∧ p = 0) ∨ (src < cNA c ∧ p < ((sR a).getD src []).length)) ∧ (d = 0 ∨ (d = 1 ∧ 0 < sD a))
theorem sOK_take (hc : cOK c) (h : sOK c a) {src p d : Nat} (hs : vStep c a src p d) : sOK c (aTake a src p d) := by
  have h8 : cNA c ≤ 8 := hc.1.2.1
  unfold aTake
  by_cases e : d = 1
  · rw [if_pos e]
    exact ⟨h.lV, h.lS, h.lC, h.lR, h.bV, h.bS, h.bC, by have := h.bD; show sD a - 1 ≤ 2; omega, h.cHi, h.bR, h.rS, h.rHi⟩
  · rw [if_neg e]
    by_cases e2 : 100 ≤ src
    · rw [if_pos e2]
      rcases hs.1 with q | q
      · refine ⟨h.lV, h.lS, by show ((sC a).set (src - 100) 1).length = 4; rw [List.length_set]; exact h.lC, h.lR, h.bV, h.bS, set_all h.bC (by decide), h.bD, fun i hi => ?_, h.bR, h.rS, h.rHi⟩
        show ((sC a).set (src - 100) 1).getD i 0 = 0
        rw [getD_set_ne (by omega)]; exact h.cHi i hi
      · omega
    · rw [if_neg e2]
      rcases hs.1 with q | q
      · exact absurd q.1 e2
      · refine sOK_rows h h.lV h.bV h.lS h.bS (by rw [List.length_set]; exact h.lR) (fun i hi d' hd' => ?_) (fun i hi => ?_) (fun i hi => ?_)
        · rw [rows_set h (by omega)] at hd'
          by_cases e3 : i = src
          · rw [if_pos e3] at hd'; exact aDel_lt (h.rw16 src) d' hd'
          · rw [if_neg e3] at hd'; exact h.rw16 i d' hd'
        · have h1 := h.rS i hi
          rw [rows_set h (by omega)]
          by_cases e3 : i = src
          · subst e3
            rw [if_pos rfl]
            have := aDel_len q.2
            omega
          · rw [if_neg e3]; exact h1
        · rw [rows_set h (by omega), if_neg (by omega)]; exact h.rHi i hi
theorem aTgt_lt (hc : cOK c) {src p d : Nat} (hs : vStep c a src p d) : aTgt c src < 5 := by
  have hn := hc.1.1
  unfold aTgt
  rcases hs.1 with q | q
  · rw [if_pos q.1]; have := (hc.2.2.2.1 _ q.2.1).1; omega
  · rw [if_neg (by have := hc.1.2.1; omega)]; have := (hc.2.2.1 _ q.1).2.1; omega
theorem aMsg_lt (hc : cOK c) (h : sOK c a) {src p d : Nat} (hs : vStep c a src p d) : aMsg c a src p < 16 := by
  unfold aMsg
  rcases hs.1 with q | q
  · rw [if_pos q.1]; exact (hc.2.2.2.1 _ q.2.1).2
  · rw [if_neg (by have := hc.1.2.1; omega)]; exact getD_all (h.rw16 src) (by decide) p
theorem sOK_step (hc : cOK c) (h : sOK c a) (stay : Nat → Bool) {src p d : Nat} (hs : vStep c a src p d) : sOK c (aStep c stay a src p d) := sOK_deliver hc (sOK_take hc h hs) stay (aTgt_lt hc hs) (aMsg_lt hc h hs)
end DL
theorem bit_iff {k j : Nat} (hk : k < 65536) (hj : j < 32) : (((nI k).toUInt32 >>> ((nI j).toUInt32 &&& Int32.toUInt32 31)).toInt32 &&& 1) = 1 ↔ k.testBit j = true := by
  rw [nx_ush hk hj, ni_and _ 1 (by decide) (by decide), show (1 : Int32) = nI 1 from rfl, nI_eq (by omega) (by decide), Nat.testBit_eq_decide_div_mod_eq, Nat.shiftRight_eq_div_pow]
  simp
section WD
variable {c : Cf} {a : AS} {hd ln : Int64} {rw : Nat → Int64} {st told fr wt : Nat → Int32} {sm : Nat}
theorem w_deliver (hc : cOK c) (h : sOK c a) (hr : cRep a hd ln rw) (hst : rRep c st told) (hfr : ∀ i, i < cNA c → fr i = nI (cFr c i)) (hwt : ∀ i, i < cNA c → wt i = nI (cWt c i)) (hsm : sm < 65536) {v m : Nat} (hv : v < 5) (hm : m < 16) {post : Int64 → Int64 → (Nat → Int64) → Prop}
    (hp : ∀ hd' ln' rw', cRep (aDeliver c (fun i => sm.testBit i) a v m) hd' ln' rw' → post hd' ln' rw') : wp_X3_deliver (nI sm) (nI (cNA c)) fr wt st told hd ln rw (nI v) (nI m) post := by
  show wp_X3_deliver_0 (nI sm) (nI (cNA c)) fr wt st told post (nI v) (nI m) hd ln rw
  unfold wp_X3_deliver_0
  have hx := getD_all h.bV (by decide) v
  have hy := aFold_lt hc hx hm
  have h8 : cNA c ≤ 8 := hc.1.2.1
  have hn5 := hc.1.1
  obtain ⟨b0, b1, b2, b3, b4, b5, b6⟩ := hc.2.2.2.2.1
  refine w_valueOf h hr.1 hv (w_folded hc hst hx hm (w_change h hr.1 hv hy ?_))
  have h1 := sOK_setV h (v := v) hy
  have r1 : cRep ((sV a).set v (aFold c ((sV a).getD v 0) m), sS a, sC a, sD a, sR a) (lN (eHead ((sV a).set v (aFold c ((sV a).getD v 0) m), sS a, sC a, sD a, sR a))) ln rw := ⟨rfl, hr.2.1, hr.2.2⟩
  have stay_no : ∀ t0 : Int32, ¬ ((aFold c ((sV a).getD v 0) m ≠ (sV a).getD v 0 ∨ cSet c 2 = 1) ∧ (sS a).getD v 0 < cSet c 3) → post (lN (eHead ((sV a).set v (aFold c ((sV a).getD v 0) m), sS a, sC a, sD a, sR a))) ln rw := by
    intro _ q
    refine hp _ _ _ ?_
    unfold aDeliver
    rw [if_neg q]; exact r1
  have h54n : ¬ (aFold c ((sV a).getD v 0) m ≠ (sV a).getD v 0 ∨ cSet c 2 = 1) → wp_X3_deliver_54 (nI sm) (nI (cNA c)) fr wt st told post (nI v) (nI (aFold c ((sV a).getD v 0) m)) 0 (lN (eHead ((sV a).set v (aFold c ((sV a).getD v 0) m), sS a, sC a, sD a, sR a))) ln rw := by
    intro q
    unfold wp_X3_deliver_54
    exact sw_yes rfl (stay_no 0 (fun z => q z.1))
  have h49 : (aFold c ((sV a).getD v 0) m ≠ (sV a).getD v 0 ∨ cSet c 2 = 1) → wp_X3_deliver_49 (nI sm) (nI (cNA c)) fr wt st told post (nI v) (nI (aFold c ((sV a).getD v 0) m)) (lN (eHead ((sV a).set v (aFold c ((sV a).getD v 0) m), sS a, sC a, sD a, sR a))) ln rw := by
    intro q
    unfold wp_X3_deliver_49 wp_X3_deliver_54
    refine sw_no (by decide) (w_sentBy h1 r1.1 hv ⟨by unfold vp_in; decide, ?_⟩)
    rw [show st (3 : Int32).toNatClampNeg = nI (cSet c 3) from hst.1 3 (by decide)]
    show (nI ((sS a).getD v 0) < nI (cSet c 3) → _) ∧ _
    have hs16 := getD_le h.bS v
    refine pk_lt ((sS a).getD v 0) (cSet c 3) (fun q2 => ?_) (fun q2 => ?_) rfl rfl (by omega) (by omega)
    · refine w_countSend h1 r1.1 hv ?_
      unfold wp_X3_deliver_93
      refine ⟨fun k x6 ln' rw' => ∃ i, i ≤ cNA c ∧ k = cNA c - i ∧ x6 = nI i ∧ cRep ((sV a).set v (aFold c ((sV a).getD v 0) m), (sS a).set v ((sS a).getD v 0 + 1), sC a, sD a, aSend c (fun i => sm.testBit i) v (aFold c ((sV a).getD v 0) m) i (sR a)) (lN (eHead ((sV a).set v (aFold c ((sV a).getD v 0) m), (sS a).set v ((sS a).getD v 0 + 1), sC a, sD a, sR a))) ln' rw', cNA c, ⟨0, by omega, rfl, rfl, ⟨rfl, hr.2.1, hr.2.2⟩⟩, ?_⟩
      rintro k x6 ln' rw' ⟨i, hi, rfl, rfl, hI⟩
      have hOK := sOK_send hc h (fun i => sm.testBit i) hv hy (by omega) hi
      unfold bd_X3_deliver_93
      refine pk_le (cNA c) i (fun q3 => ?_) (fun q3 => ?_) rfl rfl (by omega) (by omega)
      · have e : i = cNA c := by omega
        subst e
        refine hp _ _ _ ?_
        unfold aDeliver
        rw [if_pos ⟨q, q2⟩]; exact hI
      · have hin : vp_in (nI i) 8 := vp_in_nI (by omega) (by decide)
        have hfi := (hc.2.2.1 i q3).1
        have hgi := aSend_get c (fun i => sm.testBit i) v (aFold c ((sV a).getD v 0) m) (sR a) i (by rw [h.lR]; omega) i
        rw [if_neg (by omega)] at hgi
        refine ⟨hin, ?_⟩
        rw [nI_clamp (by omega), hfr i q3, hwt i q3]
        have skip : ¬ (cFr c i = v ∧ sm.testBit i = true) → wp_X3_deliver_178 (nI sm) (nI (cNA c)) fr wt st told post (fun x6' n_lengths' n_rows' => ∃ n', n' < cNA c - i ∧ ∃ i, i ≤ cNA c ∧ n' = cNA c - i ∧ x6' = nI i ∧ cRep ((sV a).set v (aFold c ((sV a).getD v 0) m), (sS a).set v ((sS a).getD v 0 + 1), sC a, sD a, aSend c (fun i => sm.testBit i) v (aFold c ((sV a).getD v 0) m) i (sR a)) (lN (eHead ((sV a).set v (aFold c ((sV a).getD v 0) m), (sS a).set v ((sS a).getD v 0 + 1), sC a, sD a, sR a))) n_lengths' n_rows') (nI v) (nI (aFold c ((sV a).getD v 0) m)) (nI i) (lN (eHead ((sV a).set v (aFold c ((sV a).getD v 0) m), (sS a).set v ((sS a).getD v 0 + 1), sC a, sD a, sR a))) ln' rw' := by
          intro q4
          unfold wp_X3_deliver_178
          refine ⟨cNA c - (i + 1), by omega, i + 1, by omega, rfl, nI_inc i, ?_⟩
          unfold aSend
          rw [if_neg q4]; exact hI
        refine ⟨fun q4 => skip (fun z => q4 (by rw [z.1])), fun q4 => ?_⟩
        have q4' : cFr c i = v := (nI_eq (by omega) (by omega)).mp q4
        rw [bit_iff hsm (by omega)]
        refine ⟨fun q5 => skip (fun z => q5 z.2), fun q5 => ⟨hin, ?_⟩⟩
        refine w_sentOut hc hst.1 hy (hc.2.2.1 i q3).2.2 ⟨by unfold vp_in; decide, ?_⟩
        rw [show st (4 : Int32).toNatClampNeg = nI (cSet c 4) from hst.1 4 (by decide)]
        have go : ∀ t0 : Int32, t0 = (if cSet c 4 = 1 then 1 else 0) → wp_X3_deliver_175 (nI sm) (nI (cNA c)) fr wt st told post (fun x6' n_lengths' n_rows' => ∃ n', n' < cNA c - i ∧ ∃ i, i ≤ cNA c ∧ n' = cNA c - i ∧ x6' = nI i ∧ cRep ((sV a).set v (aFold c ((sV a).getD v 0) m), (sS a).set v ((sS a).getD v 0 + 1), sC a, sD a, aSend c (fun i => sm.testBit i) v (aFold c ((sV a).getD v 0) m) i (sR a)) (lN (eHead ((sV a).set v (aFold c ((sV a).getD v 0) m), (sS a).set v ((sS a).getD v 0 + 1), sC a, sD a, sR a))) n_lengths' n_rows') (nI v) (nI (aFold c ((sV a).getD v 0) m)) (nI i) t0 (nI (aOut c (aFold c ((sV a).getD v 0) m) (cWt c i))) (nI i) (lN (eHead ((sV a).set v (aFold c ((sV a).getD v 0) m), (sS a).set v ((sS a).getD v 0 + 1), sC a, sD a, sR a))) ln' rw' := by
          intro t0 ht0
          unfold wp_X3_deliver_175
          have hl := h.rS i q3
          rw [q4'] at hl
          refine w_put hOK hI (by omega) (by show ((aSend c (fun i => sm.testBit i) v (aFold c ((sV a).getD v 0) m) i (sR a)).getD i []).length ≤ 15; rw [hgi]; omega) (aOut_lt hy (hc.2.2.1 i q3).2.2) ht0 (fun ln2 rw2 hc2 => ?_)
          unfold wp_X3_deliver_178
          refine ⟨cNA c - (i + 1), by omega, i + 1, by omega, rfl, nI_inc i, ?_⟩
          unfold aSend
          rw [if_pos ⟨q4', q5⟩]; exact hc2
        by_cases e4 : cSet c 4 = 1
        · exact ns_yes (by rw [e4]; rfl) (go 1 (by rw [if_pos e4]))
        · exact ns_no (fun z => e4 ((nI_eq (a := cSet c 4) (b := 1) (by omega) (by decide)).mp z)) (go 0 (by rw [if_neg e4]))
    · exact stay_no 0 (fun z => by omega)
  by_cases e1 : aFold c ((sV a).getD v 0) m = (sV a).getD v 0
  · refine ns_yes (by rw [e1]) ⟨by unfold vp_in; decide, ?_⟩
    rw [show st (2 : Int32).toNatClampNeg = nI (cSet c 2) from hst.1 2 (by decide)]
    by_cases e2 : cSet c 2 = 1
    · exact ns_yes (by rw [e2]; rfl) (h49 (Or.inr e2))
    · exact ns_no (fun z => e2 ((nI_eq (a := cSet c 2) (b := 1) (by omega) (by decide)).mp z)) (h54n (fun z => z.elim (fun y => y e1) (fun y => e2 y)))
  · exact ns_no (fun z => e1 ((nI_eq (by omega) (by omega)).mp z)) (h49 (Or.inl e1))
end WD
