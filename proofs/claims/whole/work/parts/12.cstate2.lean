/-! State: loops and rows -/
theorem nI_inc (i : Nat) : nI i + 1 = nI (i + 1) := nI_1 i
theorem nI_dec {i : Nat} (h : 0 < i) : nI i + (-1) = nI (i - 1) := sb_m1 h
theorem nI_s1 {i : Nat} (h : 0 < i) : nI i - 1 = nI (i - 1) := by
  rw [show (1 : Int32) = nI 1 from rfl, pk_sub (by omega)]
theorem w_fillL {n : Nat} (hn : n < 2 ^ 31) {f : Nat → Int64} {x : Int64} {post : (Nat → Int64) → Prop} (hp : ∀ g : Nat → Int64, (∀ j, j < n → g j = x) → post g) : wp_J7_fill_d0a16 n f x post := by
  show wp_J7_fill_d0a16_0 n post x f
  unfold wp_J7_fill_d0a16_0 wp_J7_fill_d0a16_6
  refine ⟨fun k x3 g => ∃ i, i ≤ n ∧ k = n - i ∧ x3 = nI i ∧ ∀ j, j < i → g j = x, n, ⟨0, by omega, rfl, rfl, fun j h => absurd h (Nat.not_lt_zero _)⟩, ?_⟩
  rintro k x3 g ⟨i, hi, rfl, rfl, hg⟩
  unfold bd_J7_fill_d0a16_6
  refine pk_le n i (fun h => ?_) (fun h => ?_) (show Int32.ofNat n = nI n from rfl) rfl hn (by omega)
  · exact hp g (fun j hj => hg j (by omega))
  · refine ⟨vp_in_nI h hn, n - (i + 1), by omega, i + 1, by omega, rfl, nI_inc i, fun j hj => ?_⟩
    rw [nI_clamp (by omega)]
    by_cases e : j = i
    · subst e; exact pk_uLs
    · rw [pk_uLn e]; exact hg j (by omega)
theorem w_fillI {n : Nat} (hn : n < 2 ^ 31) {f : Nat → Int32} {x : Int32} {post : (Nat → Int32) → Prop} (hp : ∀ g : Nat → Int32, (∀ j, j < n → g j = x) → post g) : wp_J7_fill_53178 n f x post := by
  show wp_J7_fill_53178_0 n post x f
  unfold wp_J7_fill_53178_0 wp_J7_fill_53178_5
  refine ⟨fun k x3 g => ∃ i, i ≤ n ∧ k = n - i ∧ x3 = nI i ∧ ∀ j, j < i → g j = x, n, ⟨0, by omega, rfl, rfl, fun j h => absurd h (Nat.not_lt_zero _)⟩, ?_⟩
  rintro k x3 g ⟨i, hi, rfl, rfl, hg⟩
  unfold bd_J7_fill_53178_5
  refine pk_le n i (fun h => ?_) (fun h => ?_) (show Int32.ofNat n = nI n from rfl) rfl hn (by omega)
  · exact hp g (fun j hj => hg j (by omega))
  · refine ⟨vp_in_nI h hn, n - (i + 1), by omega, i + 1, by omega, rfl, nI_inc i, fun j hj => ?_⟩
    rw [nI_clamp (by omega)]
    by_cases e : j = i
    · subst e; exact pk_us
    · rw [pk_un e]; exact hg j (by omega)
def cHi (rw : Nat → Int64) (x : Int64) : Nat → Int64
  | 0 => x
  | i + 1 => ((cHi rw x i ^^^ (((cHi rw x i).toUInt64 >>> ((29 : Int32).toInt64.toUInt64 &&& Int64.toUInt64 63)).toInt64)) ^^^ (rw i)) * (-7046029254386353131)
def cHash (hd ln : Int64) (rw : Nat → Int64) : Int32 := ((cHi rw ((hd ^^^ (ln * (-7046029254386353131))) * (-7046029254386353131)) 8).toUInt64 >>> ((33 : Int32).toInt64.toUInt64 &&& Int64.toUInt64 63)).toInt64.toInt32
theorem cHi_congr {rw rw' : Nat → Int64} (x : Int64) : ∀ {n : Nat}, (∀ i, i < n → rw i = rw' i) → cHi rw x n = cHi rw' x n
  | 0, _ => rfl
  | n + 1, h => by
    unfold cHi
    rw [cHi_congr x (n := n) (fun i hi => h i (by omega)), h n (by omega)]
theorem cHash_congr {hd ln : Int64} {rw rw' : Nat → Int64} (h : ∀ i, i < 8 → rw i = rw' i) : cHash hd ln rw = cHash hd ln rw' := by
  unfold cHash
  rw [cHi_congr _ h]
theorem w_hash {hd ln : Int64} {rw : Nat → Int64} {post : Int32 → Prop} (hp : post (cHash hd ln rw)) : wp_X4_hash hd ln rw post := by
  show wp_X4_hash_0 hd ln rw post
  unfold wp_X4_hash_0
  rintro y1 rfl
  unfold wp_X4_hash_20
  refine ⟨fun k x1 x3 => ∃ i, i ≤ 8 ∧ k = 8 - i ∧ x3 = nI i ∧ x1 = cHi rw ((hd ^^^ (ln * (-7046029254386353131))) * (-7046029254386353131)) i, 8, ⟨0, by omega, rfl, rfl, rfl⟩, ?_⟩
  rintro k x1 x3 ⟨i, hi, rfl, rfl, rfl⟩
  unfold bd_X4_hash_20
  refine pk_le 8 i (fun h => ?_) (fun h => ?_) rfl rfl (by decide) (by omega)
  · have : i = 8 := by omega
    subst this
    exact hp
  · refine ⟨vp_in_nI h (by decide), ?_⟩
    rintro y3 rfl
    rw [nI_clamp (by omega)]
    exact ⟨8 - (i + 1), by omega, i + 1, by omega, rfl, nI_inc i, rfl⟩
theorem sum_take {l : List (List Nat)} {i : Nat} (h : i < l.length) : ((l.take (i + 1)).map List.length).sum = ((l.take i).map List.length).sum + (l.getD i []).length := by
  rw [List.take_add_one, List.getElem?_eq_getElem h, List.map_append, List.sum_append, List.getD_eq_getElem?_getD, List.getElem?_eq_getElem h]
  simp
section CT
variable {c : Cf} {a : AS} {hd ln : Int64} {rw : Nat → Int64}
theorem sum_len_le (h : sOK c a) : ∀ {i : Nat}, i ≤ 8 → (((sR a).take i).map List.length).sum ≤ 16 * i
  | 0, _ => by simp
  | i + 1, hi => by
    rw [sum_take (by rw [h.lR]; omega)]
    have := sum_len_le h (i := i) (by omega)
    have := h.len16 i
    omega
theorem w_pending (hc : cOK c) (h : sOK c a) (hr : hd = lN (eHead a)) (hr2 : ln = lN (eLen a)) {post : Int32 → Prop} (hp : post (nI (aPend c a))) : wp_X4_pending hd ln (nI (cNF c)) post := by
  show wp_X4_pending_0 hd ln post (nI (cNF c))
  unfold wp_X4_pending_0
  have hC := eC_lt h
  have e1 : (((hd.toUInt64 >>> ((45 : Int32).toInt64.toUInt64 &&& Int64.toUInt64 63)).toInt64) &&& 15) = lN (dig 2 (sC a)) := by
    rw [hr, show (45 : Int32) = nI 45 from rfl, wb_shr (eH_64 h) (by omega), eH_d2 h, show (15 : Int64) = lN (2 ^ 4 - 1) from rfl, wb_mask (by unfold eH2; have := h.bD; omega) (by omega)]
    congr 1
    unfold eH2
    omega
  rw [e1]
  refine w_bitCount hC ?_
  have cc := came_count hc.1.2.2 h.lC h.bC h.cHi
  rw [pk_sub (by omega)]
  have e0 : ((List.range (cNF c)).filter (fun f => decide ((sC a).getD f 0 = 0))).length = cNF c - popc (dig 2 (sC a)) := by omega
  unfold wp_X4_pending_19
  refine ⟨fun k x2 x3 => ∃ i, i ≤ 8 ∧ k = 8 - i ∧ x3 = nI i ∧ x2 = nI (cNF c - popc (dig 2 (sC a)) + (((sR a).take i).map List.length).sum), 8, ⟨0, by omega, rfl, rfl, by simp⟩, ?_⟩
  rintro k x2 x3 ⟨i, hi, rfl, rfl, rfl⟩
  unfold bd_X4_pending_19
  refine pk_le 8 i (fun h8 => ?_) (fun h8 => ?_) rfl rfl (by decide) (by omega)
  · have : i = 8 := by omega
    subst this
    rw [List.take_of_length_le (by rw [h.lR]; omega), ← e0]
    exact hp
  · refine w_underWay h hr2 h8 ?_
    refine ⟨8 - (i + 1), by omega, i + 1, by omega, rfl, nI_inc i, ?_⟩
    rw [nI_add, sum_take (by rw [h.lR]; omega), Nat.add_assoc]
theorem map_set_len (l : List (List Nat)) (i : Nat) (r : List Nat) : (l.set i r).map List.length = (l.map List.length).set i r.length := by rw [List.map_set]
theorem rows_set (h : sOK c a) {i j : Nat} (hi : i < 8) (r : List Nat) : (sR a |>.set i r).getD j [] = if j = i then r else (sR a).getD j [] := by
  by_cases e : j = i
  · subst e; rw [if_pos rfl, getD_set_eq (by rw [h.lR]; exact hi)]
  · rw [if_neg e, getD_set_ne (fun z => e z.symm)]
theorem w_take (h : sOK c a) (hr : cRep a hd ln rw) {i p : Nat} (hi : i < 8) (hp0 : p < ((sR a).getD i []).length) {post : Int64 → (Nat → Int64) → Prop}
    (hp : ∀ ln' rw', cRep (sV a, sS a, sC a, sD a, (sR a).set i (aDel ((sR a).getD i []) p)) hd ln' rw' → post ln' rw') : wp_X4_take ln rw (nI i) (nI p) post := by
  show wp_X4_take_0 post (nI i) (nI p) ln rw
  unfold wp_X4_take_0
  have h16 := h.len16 i
  have hin : vp_in (nI i) 8 := vp_in_nI hi (by decide)
  refine ⟨hin, ?_⟩
  rintro y2 e2 y3 e3 y4 e4
  refine ⟨hin, ?_⟩
  rw [nI_clamp (by omega), hr.2.2 i hi] at e2
  have hR := eR_lt h i
  have hP : 2 ^ (4 * p) < 2 ^ 64 := Nat.pow_lt_pow_right (by decide) (by omega)
  have hP1 : 1 ≤ 2 ^ (4 * p) := Nat.one_le_two_pow
  have f3 : y3 = lN (dig 16 (((sR a).getD i []).take p)) := by
    rw [e3, e2, mul4, show (1 : Int64) = lN 1 from rfl, wb_shl _ (by omega), Nat.one_mul, lN_sub hP1, wb_mask hR (by omega), pow4]
    exact congrArg lN (dig_mod (by decide) (h.rw16 i) (by omega))
  have hdr : eRow a i / 2 ^ (4 * p) / 2 ^ 4 = dig 16 (((sR a).getD i []).drop (p + 1)) := by
    rw [Nat.div_div_eq_div_mul, ← Nat.pow_add, show 4 * p + 4 = 4 * (p + 1) by omega, pow4]
    exact dig_div (by decide) (h.rw16 i) (by omega)
  have f4 : y4 = lN (dig 16 (((sR a).getD i []).drop (p + 1)) * 2 ^ (4 * p)) := by
    rw [e4, e2, mul4, wb_shr hR (by omega), show (4 : Int32) = nI 4 from rfl, wb_shr (Nat.lt_of_le_of_lt (Nat.div_le_self _ _) hR) (by omega), wb_shl _ (by omega), hdr]
  have hb3 := dig_lt (B := 16) (by decide) (((sR a).getD i []).take p) (fun d hd => h.rw16 i d (List.mem_of_mem_take hd))
  rw [List.length_take, Nat.min_eq_left (by omega), ← pow4] at hb3
  have hsum : dig 16 (aDel ((sR a).getD i []) p) = dig 16 (((sR a).getD i []).take p) + dig 16 (((sR a).getD i []).drop (p + 1)) * 2 ^ (4 * p) := by
    unfold aDel
    rw [dig_del _ (by omega), pow4, Nat.mul_comm]
  have hlt : dig 16 (((sR a).getD i []).drop (p + 1)) * 2 ^ (4 * p) < 2 ^ 64 := by
    rw [← hdr]
    refine Nat.lt_of_le_of_lt (Nat.le_trans (Nat.mul_le_mul_right _ (Nat.div_le_self _ _)) ?_) hR
    exact Nat.div_mul_le_self _ _
  have f5 : y3 ||| y4 = lN (dig 16 (aDel ((sR a).getD i []) p)) := by
    rw [f3, f4, wb_or (Nat.lt_trans hb3 hP) hlt, nat_or_add hb3, hsum]
  refine hp _ _ ⟨hr.1, ?_, fun j hj => ?_⟩
  · have hl := eL_get h hi
    have e6 := dig_set 32 ((sR a).map List.length) i (aDel ((sR a).getD i []) p).length (by rw [List.length_map, h.lR]; exact hi)
    rw [map_getD_len, ← map_set_len] at e6
    have e7 : (aDel ((sR a).getD i []) p).length + 1 = ((sR a).getD i []).length := by
      unfold aDel
      rw [List.length_append, List.length_take, List.length_drop]
      omega
    rw [← e7, Nat.add_mul, Nat.one_mul, ← pow5] at e6
    rw [hr.2.1, mul5, show (1 : Int64) = lN 1 from rfl, wb_shl _ (by omega), Nat.one_mul, lN_sub (by unfold eLen; omega)]
    congr 1
    unfold eLen
    show dig 32 ((sR a).map List.length) - _ = dig 32 (((sR a).set i (aDel ((sR a).getD i []) p)).map List.length)
    omega
  · rw [nI_clamp (by omega)]
    show _ = lN (dig 16 (((sR a).set i (aDel ((sR a).getD i []) p)).getD j []))
    rw [rows_set h hi]
    by_cases e : j = i
    · subst e; rw [if_pos rfl, pk_uLs, f5]
    · rw [if_neg e, pk_uLn e]; exact hr.2.2 j hj
theorem w_put47 (h : sOK c a) (hr : cRep a hd ln rw) {i p m : Nat} (hi : i < 8) (hl15 : ((sR a).getD i []).length ≤ 15) (hp0 : p ≤ ((sR a).getD i []).length) (hm : m < 16) {post : Int64 → (Nat → Int64) → Prop}
    (hp : ∀ ln' rw', cRep (sV a, sS a, sC a, sD a, (sR a).set i (((sR a).getD i []).take p ++ m :: ((sR a).getD i []).drop p)) hd ln' rw' → post ln' rw') : wp_X4_put_47 post (nI i) (nI m) (nI p) ln rw := by
  unfold wp_X4_put_47
  have hin : vp_in (nI i) 8 := vp_in_nI hi (by decide)
  refine ⟨hin, ?_⟩
  rintro y4 e4 y5 e5 y6 e6
  refine ⟨hin, ?_⟩
  rw [nI_clamp (by omega), hr.2.2 i hi] at e4
  have hR := eR_lt h i
  have hP : 2 ^ (4 * p) < 2 ^ 64 := Nat.pow_lt_pow_right (by decide) (by omega)
  have hP1 : 1 ≤ 2 ^ (4 * p) := Nat.one_le_two_pow
  have f5 : y5 = lN (dig 16 (((sR a).getD i []).take p)) := by
    rw [e5, e4, mul4, show (1 : Int64) = lN 1 from rfl, wb_shl _ (by omega), Nat.one_mul, lN_sub hP1, wb_mask hR (by omega), pow4]
    exact congrArg lN (dig_mod (by decide) (h.rw16 i) (by omega))
  have hdr : eRow a i / 2 ^ (4 * p) = dig 16 (((sR a).getD i []).drop p) := by
    rw [pow4]; exact dig_div (by decide) (h.rw16 i) (by omega)
  have f6 : y6 = lN (dig 16 (((sR a).getD i []).drop p) * 2 ^ (4 * p + 4)) := by
    rw [e6, e4, mul4, wb_shr hR (by omega), wb_shl _ (by omega), show (4 : Int32) = nI 4 from rfl, wb_shl _ (by omega), hdr, Nat.mul_assoc, ← Nat.pow_add]
  have hb5 := dig_lt (B := 16) (by decide) (((sR a).getD i []).take p) (fun d hd => h.rw16 i d (List.mem_of_mem_take hd))
  rw [List.length_take, Nat.min_eq_left (by omega), ← pow4] at hb5
  have hmP : m * 2 ^ (4 * p) < 2 ^ 64 := by
    have h1 : m * 2 ^ (4 * p) < 2 ^ 4 * 2 ^ (4 * p) := Nat.mul_lt_mul_of_pos_right hm (Nat.pow_pos (by decide))
    rw [← Nat.pow_add] at h1
    exact Nat.lt_of_lt_of_le h1 (Nat.pow_le_pow_right (by decide) (by omega))
  have hb2 : dig 16 (((sR a).getD i []).take p) + m * 2 ^ (4 * p) < 2 ^ (4 * p + 4) := by
    have : (m + 1) * 2 ^ (4 * p) ≤ 2 ^ 4 * 2 ^ (4 * p) := Nat.mul_le_mul_right _ hm
    rw [Nat.add_mul, Nat.one_mul] at this
    rw [Nat.pow_add, Nat.mul_comm (2 ^ (4 * p))]
    omega
  have hdl := dig_lt (B := 16) (by decide) (((sR a).getD i []).drop p) (fun d hd => h.rw16 i d (List.mem_of_mem_drop hd))
  rw [List.length_drop, ← pow4] at hdl
  have hlt : dig 16 (((sR a).getD i []).drop p) * 2 ^ (4 * p + 4) < 2 ^ 64 := by
    have h1 : dig 16 (((sR a).getD i []).drop p) * 2 ^ (4 * p + 4) < 2 ^ (4 * (((sR a).getD i []).length - p)) * 2 ^ (4 * p + 4) := Nat.mul_lt_mul_of_pos_right hdl (Nat.pow_pos (by decide))
    rw [← Nat.pow_add] at h1
    exact Nat.lt_of_lt_of_le h1 (Nat.pow_le_pow_right (by decide) (by omega))
  have hP4 : 2 ^ (4 * p + 4) ≤ 2 ^ 64 := Nat.pow_le_pow_right (by decide) (by omega)
  have f7 : (y5 ||| ((nI m).toInt64 <<< (((4 : Int32) * nI p).toInt64 &&& 63))) ||| y6 = lN (dig 16 (((sR a).getD i []).take p ++ m :: ((sR a).getD i []).drop p)) := by
    rw [f5, f6, nI_l (by omega), mul4, wb_shl _ (by omega), wb_or (Nat.lt_trans hb5 hP) hmP, nat_or_add hb5, wb_or (Nat.lt_of_lt_of_le hb2 hP4) hlt, nat_or_add hb2, dig_ins _ _ hp0]
    congr 1
    rw [show 4 * p + 4 = 4 * (p + 1) by omega, pow4, pow4, Nat.mul_comm (16 ^ (p + 1))]
  refine hp _ _ ⟨hr.1, ?_, fun j hj => ?_⟩
  · have e8 := dig_set 32 ((sR a).map List.length) i (((sR a).getD i []).take p ++ m :: ((sR a).getD i []).drop p).length (by rw [List.length_map, h.lR]; exact hi)
    rw [map_getD_len, ← map_set_len] at e8
    have e7 : (((sR a).getD i []).take p ++ m :: ((sR a).getD i []).drop p).length = ((sR a).getD i []).length + 1 := by
      rw [List.length_append, List.length_cons, List.length_take, List.length_drop]
      omega
    rw [e7, Nat.add_mul, Nat.one_mul, ← pow5] at e8
    rw [hr.2.1, mul5, show (1 : Int64) = lN 1 from rfl, wb_shl _ (by omega), Nat.one_mul, lN_add]
    congr 1
    show dig 32 ((sR a).map List.length) + _ = dig 32 (((sR a).set i (((sR a).getD i []).take p ++ m :: ((sR a).getD i []).drop p)).map List.length)
    omega
  · rw [nI_clamp (by omega)]
    show _ = lN (dig 16 (((sR a).set i (((sR a).getD i []).take p ++ m :: ((sR a).getD i []).drop p)).getD j []))
    rw [rows_set h hi]
    by_cases e : j = i
    · subst e; rw [if_pos rfl, pk_uLs, f7]
    · rw [if_neg e, pk_uLn e]; exact hr.2.2 j hj
theorem insP_le (row : List Nat) (m : Nat) : ∀ p, insP row m p ≤ p
  | 0 => Nat.le_refl _
  | p + 1 => by
    unfold insP
    by_cases h : m < row.getD p 0
    · rw [if_pos h]; exact Nat.le_succ_of_le (insP_le row m p)
    · rw [if_neg h]; exact Nat.le_refl _
theorem w_put (h : sOK c a) (hr : cRep a hd ln rw) {i m mode : Nat} (hi : i < 8) (hl15 : ((sR a).getD i []).length ≤ 15) (hm : m < 16) {x3 : Int32} (hx3 : x3 = if mode = 1 then 1 else 0) {post : Int64 → (Nat → Int64) → Prop}
    (hp : ∀ ln' rw', cRep (sV a, sS a, sC a, sD a, (sR a).set i (aPut mode ((sR a).getD i []) m)) hd ln' rw' → post ln' rw') : wp_X4_put ln rw (nI i) (nI m) x3 post := by
  show wp_X4_put_0 post (nI i) (nI m) x3 ln rw
  unfold wp_X4_put_0
  refine w_underWay h hr.2.1 hi ?_
  refine ⟨fun _ => ⟨fun q => ?_, fun q => ?_⟩, fun q => absurd (nI_lt (show ((sR a).getD i []).length < 16 by omega) (by decide)) q⟩
  · have hmode : mode = 1 := by
      by_cases e : mode = 1
      · exact e
      · rw [if_neg e] at hx3; exact absurd hx3 q
    refine w_put47 h hr hi hl15 (Nat.le_refl _) hm (fun ln' rw' hc' => hp ln' rw' ?_)
    unfold aPut aPutP
    rw [if_pos hmode]; exact hc'
  · have hmode : ¬ mode = 1 := by
      intro e
      rw [if_pos e] at hx3; rw [hx3] at q; exact absurd q (by decide)
    unfold wp_X4_put_23
    refine ⟨fun k x5 => ∃ p, p ≤ ((sR a).getD i []).length ∧ k = p ∧ x5 = nI p ∧ insP ((sR a).getD i []) m p = insP ((sR a).getD i []) m ((sR a).getD i []).length, ((sR a).getD i []).length, ⟨_, Nat.le_refl _, rfl, rfl, rfl⟩, ?_⟩
    rintro k x5 ⟨p, hpl, rfl, rfl, hI⟩
    unfold bd_X4_put_23
    have fin : insP ((sR a).getD i []) m k = k → wp_X4_put_47 post (nI i) (nI m) (nI k) ln rw := by
      intro ek
      refine w_put47 h hr hi hl15 hpl hm (fun ln' rw' hc' => hp ln' rw' ?_)
      unfold aPut aPutP
      rw [if_neg hmode, ← hI, ek]; exact hc'
    refine pk_le k 0 (fun h0 => ?_) (fun h0 => ?_) rfl rfl (by omega) (by decide)
    · have : k = 0 := by omega
      subst this
      exact fin rfl
    · rw [nI_s1 h0]
      refine w_messageAt h hr.2.2 hi (by omega) ?_
      have hb := getD_all (h.rw16 i) (by decide) (k - 1)
      have es : insP ((sR a).getD i []) m k = if m < ((sR a).getD i []).getD (k - 1) 0 then insP ((sR a).getD i []) m (k - 1) else k := by
        obtain ⟨q, rfl⟩ : ∃ q, k = q + 1 := ⟨k - 1, by omega⟩
        rfl
      refine pk_le (((sR a).getD i []).getD (k - 1) 0) m (fun h1 => ?_) (fun h1 => ?_) rfl rfl (by omega) (by omega)
      · exact fin (by rw [es, if_neg (by omega)])
      · refine ⟨k - 1, by omega, k - 1, by omega, rfl, nI_dec h0, ?_⟩
        rw [← hI, es, if_pos h1]
end CT
