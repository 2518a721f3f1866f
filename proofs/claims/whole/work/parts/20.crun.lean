/-! the class's look, whole -/
theorem beg_dig (f : Nat → Nat) {k : Nat} (hk : k ≤ 5) : dig 16 ((List.range 5).map (fun v => if v < k then f v else 0)) = dig 16 ((List.range k).map f) := by
  rcases (show k = 0 ∨ k = 1 ∨ k = 2 ∨ k = 3 ∨ k = 4 ∨ k = 5 by omega) with e | e | e | e | e | e <;> subst e <;> simp [List.range, List.range.loop, dig]
theorem eH_begin {c : Cf} (hc : cOK c) : eHead (aBegin c) = dig 16 ((List.range (cNV c)).map (cBeg c)) + 2 ^ 49 * cSet c 5 := by
  have e : eHead (aBegin c) = dig 16 ((List.range 5).map (fun v => if v < cNV c then cBeg c v else 0)) + 2 ^ 20 * (dig 32 (List.replicate 5 0) + 2 ^ 25 * (dig 2 (List.replicate 4 0) + 2 ^ 4 * cSet c 5)) := rfl
  rw [e, beg_dig _ hc.1.1, show dig 32 (List.replicate 5 0) = 0 from rfl, show dig 2 (List.replicate 4 0) = 0 from rfl]
  omega
theorem rep_getD {α : Type} (n i : Nat) (d : α) : (List.replicate n d).getD i d = d := by
  rw [List.getD_eq_getElem?_getD, List.getElem?_replicate]
  split <;> rfl
theorem sOK_begin {c : Cf} (hc : cOK c) : sOK c (aBegin c) := by
  refine ⟨rfl, rfl, rfl, rfl, fun d hd => ?_, fun d hd => ?_, fun d hd => ?_, hc.2.2.2.2.1.2.2.2.2.2.2, fun i _ => rep_getD 4 i 0, fun r hr => ?_, fun i _ => ?_, fun i _ => rep_getD 8 i []⟩
  · obtain ⟨v, hv, rfl⟩ := List.mem_map.mp hd
    split
    · rename_i h; exact hc.2.1 v h
    · decide
  · rw [List.eq_of_mem_replicate hd]; omega
  · rw [List.eq_of_mem_replicate hd]; omega
  · rw [List.eq_of_mem_replicate hr]; intro d hd; cases hd
  · rw [show (sR (aBegin c)).getD i [] = [] from rep_getD 8 i []]; exact Nat.zero_le _
section RN
variable {c : Cf}
theorem w_begin (hc : cOK c) {hd ln : Int64} {rw : Nat → Int64} {gv : Int32} {beg : Nat → Int32} (hgv : gv = nI (cNV c)) (hbeg : ∀ i, i < cNV c → beg i = nI (cBeg c i)) {post : Int64 → Int64 → (Nat → Int64) → Prop} (hp : ∀ hd ln rw, cRep (aBegin c) hd ln rw → post hd ln rw) : wp_X4_begin hd ln rw gv beg (nI (cSet c 5)) post := by
  have h5 : cNV c ≤ 5 := hc.1.1
  have hd2 : cSet c 5 ≤ 2 := hc.2.2.2.2.1.2.2.2.2.2.2
  show wp_X4_begin_0 gv beg post (nI (cSet c 5)) hd ln rw
  unfold wp_X4_begin_0 wp_X4_begin_11
  rw [hgv]
  refine ⟨fun k x3 hd => ∃ v, v ≤ cNV c ∧ k = cNV c - v ∧ x3 = nI v ∧ hd = lN (dig 16 ((List.range v).map (cBeg c)) + 2 ^ 49 * cSet c 5), cNV c, ⟨0, by omega, rfl, rfl, ?_⟩, ?_⟩
  · rw [nI_l (by omega), show (49 : Int32) = nI 49 from rfl, wb_shl _ (by omega)]
    show lN _ = lN (0 + 2 ^ 49 * cSet c 5)
    congr 1; omega
  rintro k x3 hd ⟨v, hv, rfl, rfl, rfl⟩
  unfold bd_X4_begin_11
  refine pk_le (cNV c) v (fun q => ?_) (fun q => ?_) rfl rfl (by omega) (by omega)
  · have e : v = cNV c := by omega
    subst e
    refine w_fillL (by decide) (fun g hg => hp _ _ _ ⟨by rw [eH_begin hc], rfl, fun i hi => ?_⟩)
    rw [hg i hi]
    show (0 : Int64) = lN (dig 16 ((List.replicate 8 []).getD i []))
    rw [rep_getD]; rfl
  · refine ⟨vp_in_nI (by omega) (by decide), cNV c - (v + 1), by omega, v + 1, by omega, rfl, nI_inc v, ?_⟩
    have hb := hc.2.1 v q
    rw [nI_clamp (by omega), hbeg v q, nI_l (by omega), mul4, wb_shl _ (by omega)]
    have hlt := dig_lt (B := 16) (by decide) ((List.range v).map (cBeg c)) (fun d hd => by obtain ⟨w, hw, rfl⟩ := List.mem_map.mp hd; exact hc.2.1 w (by rw [List.mem_range] at hw; omega))
    rw [List.length_map, List.length_range] at hlt
    have hs : dig 16 ((List.range (v + 1)).map (cBeg c)) = dig 16 ((List.range v).map (cBeg c)) + cBeg c v * 2 ^ (4 * v) := by
      rw [map_range_succ, dig_app, List.length_map, List.length_range, pow4]
      show _ + 16 ^ v * (cBeg c v + 16 * 0) = _
      rw [Nat.mul_zero, Nat.add_zero, Nat.mul_comm]
    have hv5 : v = 0 ∨ v = 1 ∨ v = 2 ∨ v = 3 ∨ v = 4 := by omega
    have hz : (dig 16 ((List.range v).map (cBeg c)) + 2 ^ 49 * cSet c 5) / 2 ^ (4 * v) % 2 ^ 4 = 0 := by
      generalize dig 16 ((List.range v).map (cBeg c)) = z at hlt
      rcases hv5 with e | e | e | e | e <;> subst e <;> simp at hlt ⊢ <;> omega
    have b1 : dig 16 ((List.range v).map (cBeg c)) + 2 ^ 49 * cSet c 5 < 2 ^ 64 := by
      generalize dig 16 ((List.range v).map (cBeg c)) = z at hlt
      rcases hv5 with e | e | e | e | e <;> subst e <;> simp at hlt ⊢ <;> omega
    have b2 : cBeg c v * 2 ^ (4 * v) < 2 ^ 64 := by
      rcases hv5 with e | e | e | e | e <;> subst e <;> simp <;> omega
    rw [wb_or b1 b2, or_dig hz hb, hs]
    congr 1; omega
theorem fRep_0 {c : Cf} {heads lens rows : Nat → Int64} {slots : Nat → Int32} (h : ∀ j, j < 1024 → slots j = 0) : fRep c [] 0 heads lens rows slots :=
  ⟨rfl, by simp, fun i hi => absurd hi (Nat.not_lt_zero _), fun _ => 0, fun i hi => absurd hi (Nat.not_lt_zero _), fun p hp => Or.inl (h p hp), fun i hi => absurd hi (Nat.not_lt_zero _)⟩
theorem iRep_0 {c : Cf} {ev es pa sp : Nat → Int32} : iRep c [] 0 0 0 0 ev es pa sp :=
  ⟨rfl, rfl, rfl, ⟨rfl, by simp [aMost]⟩, fun k hk => absurd hk (Nat.not_lt_zero _), fun i hi => absurd hi (Nat.not_lt_zero _)⟩
theorem aLoop_s {stay : Nat → Bool} {n s : Nat} {B : BS} (hs : s ≤ 600) : aLoop c stay n (601 - s) s B = if s < B.1.length ∧ B.2 = false then aLoop c stay n (601 - (s + 1)) (s + 1) (aGo c stay n s (stt B.1 s) B (aSteps c (stt B.1 s))) else B := by
  obtain ⟨f, hf⟩ : ∃ f, 601 - s = f + 1 := ⟨600 - s, by omega⟩
  rw [hf, show 601 - (s + 1) = f by omega]
  rfl
variable {count isFull lim stg : Int32} {heads lens rows : Nat → Int64} {slots : Nat → Int32} {fs fvt fe fd fm fw : Int32} {ev es pa sp : Nat → Int32} {nh nl hh hl : Int64} {nr hrw : Nat → Int64} {gv ga gf : Int32} {beg fr to wt ft fv st told : Nat → Int32} {sm n : Nat}
theorem w_run (hc : cOK c) (hg : gRep c gv ga gf beg fr to wt ft fv) (hst : rRep c st told) (hsm : sm < 65536) (hn1 : 1 ≤ n) (hn6 : n ≤ 600)
    {post : Int32 → Int32 → Int32 → Int32 → (Nat → Int64) → (Nat → Int64) → (Nat → Int64) → (Nat → Int32) → Int64 → Int64 → (Nat → Int64) → Int64 → Int64 → (Nat → Int64) → Int32 → Int32 → Int32 → Int32 → Int32 → Int32 → (Nat → Int32) → (Nat → Int32) → (Nat → Int32) → (Nat → Int32) → Prop}
    (hp : ∀ isFull count heads lens rows slots hh hl hrw nh nl nr fs fe fd fm fw ev es pa sp, iRep c (aLook c (fun i => sm.testBit i) n).1 fs fe fd fm ev es pa sp → (∀ i, i < (aLook c (fun i => sm.testBit i) n).1.length → sOK c (stt (aLook c (fun i => sm.testBit i) n).1 i)) → (aLook c (fun i => sm.testBit i) n).1.length ≤ 600 → fw = (if (aLook c (fun i => sm.testBit i) n).2 = true then 0 else 1) → post (nI n) (nI sm) isFull count heads lens rows slots hh hl hrw nh nl nr fs gv fe fd fm fw ev es pa sp) :
    wp_X3_run lim stg isFull gv ga gf beg fr to wt ft fv st told count heads lens rows slots hh hl hrw nh nl nr fs fvt fe fd fm fw ev es pa sp (nI n) (nI sm) post := by
  obtain ⟨egv, ega, egf, gbeg, garcs, gfirsts⟩ := id hg
  show wp_X3_run_0 gv ga gf beg fr to wt ft fv st told post (nI n) (nI sm) lim stg isFull count heads lens rows slots hh hl hrw nh nl nr fs fvt fe fd fm fw ev es pa sp
  unfold wp_X3_run_0
  show wp_X5_clear_0 _ count slots
  unfold wp_X5_clear_0
  refine w_fillI (by decide) (fun slots hslots => ?_)
  show wp_X0_clear_0 _ gv fs fvt fe fd fm fw
  unfold wp_X0_clear_0
  refine ⟨by unfold vp_in; decide, ?_⟩
  rw [show st (5 : Int32).toNatClampNeg = nI (cSet c 5) from hst.1 5 (by decide)]
  refine w_begin hc egv gbeg (fun nh nl nr hr => ?_)
  rw [egf]
  refine w_keepNext (B := ([], false)) (x := (aBegin c, 0, 0, 0, 0)) (n := n) hc ⟨rfl, fRep_0 hslots, iRep_0⟩ rfl (Nat.zero_le _) hn6 (sOK_begin hc) hr (fun isFull count heads lens rows slots fs fe fd fm ev es pa sp hB => ?_)
  have e1 : aPush n ([], false) (aBegin c, 0, 0, 0, 0) = ([(aBegin c, 0, 0, 0, 0)], false) := by
    unfold aPush
    rw [if_neg (by simp), if_neg (by simp; omega)]; rfl
  rw [e1] at hB
  rw [← egf]
  unfold wp_X3_run_67
  refine ⟨fun k x4 isFull count heads lens rows slots hh hl hrw nh nl nr fs fe fd fm ev es pa sp => ∃ s B, s ≤ 600 ∧ k = 600 - s ∧ x4 = nI s ∧ B.1.length ≤ n ∧ aLoop c (fun i => sm.testBit i) n (601 - s) s B = aLook c (fun i => sm.testBit i) n ∧ bRep c B isFull count heads lens rows slots fs fe fd fm ev es pa sp, 600, ⟨0, _, by omega, rfl, rfl, by simp; omega, rfl, hB⟩, ?_⟩
  rintro k x4 isFull count heads lens rows slots hh hl hrw nh nl nr fs fe fd fm ev es pa sp ⟨s, B, hs, rfl, rfl, hlen, hL, hI⟩
  have fin : ¬ (s < B.1.length ∧ B.2 = false) → wp_X3_run_106 gv ga gf beg fr to wt ft fv st told post (nI n) (nI sm) isFull count heads lens rows slots hh hl hrw nh nl nr fs gv fe fd fm 0 ev es pa sp := by
    intro q
    rw [aLoop_s hs, if_neg q] at hL
    unfold wp_X3_run_106
    have hi := hI.2.2
    have hf := hI.2.1
    have h1 := hI.1
    rw [hL] at hi hf h1
    refine ⟨fun z => hp _ _ _ _ _ _ _ _ _ _ _ _ _ _ _ _ _ _ _ _ _ hi (fun i h => (hf.2.2.1 i h).1) hf.2.1 ?_, fun z => hp _ _ _ _ _ _ _ _ _ _ _ _ _ _ _ _ _ _ _ _ _ hi (fun i h => (hf.2.2.1 i h).1) hf.2.1 ?_⟩
    · by_cases e : (aLook c (fun i => sm.testBit i) n).2 = true
      · rw [if_pos e]
      · rw [if_neg e] at h1; exact absurd h1 z
    · by_cases e : (aLook c (fun i => sm.testBit i) n).2 = true
      · rw [if_pos e] at h1; rw [h1] at z; exact absurd z (by decide)
      · rw [if_neg e]
  unfold bd_X3_run_67
  rw [hI.2.1.1]
  refine pk_le B.1.length s (fun q => ?_) (fun q => ?_) rfl rfl (by omega) (by omega)
  · rw [← hI.2.1.1]
    exact fin (fun z => by omega)
  · rw [← hI.2.1.1]
    refine ⟨fun z => absurd z (nI_ge (a := s) (b := 600) (by omega) (by decide)), fun _ => ⟨fun z => fin (fun y => ?_), fun z => ?_⟩⟩
    · have := hI.1
      rw [y.2] at this
      exact z this
    · have h2 : B.2 = false := by
        cases h : B.2
        · rfl
        · have := hI.1; rw [h, z] at this; exact absurd this (by decide)
      refine w_goThrough hc hg hst hsm hI hlen hn6 q (fun isFull count heads lens rows slots hh hl hrw nh nl nr fs fe fd fm ev es pa sp hG => ⟨600 - (s + 1), by omega, s + 1, _, by omega, rfl, nI_inc s, aGo_len _ hlen, ?_, hG⟩)
      rw [aLoop_s hs, if_pos ⟨q, h2⟩] at hL
      exact hL
end RN
