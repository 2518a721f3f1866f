/-! the reference's look, whole -/
theorem mE_begin {c : Cf} (hc : cOK c) (k : Nat) : mE (aBegin c) k = if k < cNV c then cBeg c k else if k = 11 then cSet c 5 else 0 := by
  have h5 : cNV c ≤ 5 := hc.1.1
  have hv : ∀ j, j < 5 → ((List.range 5).map (fun v => if v < cNV c then cBeg c v else 0)).getD j 0 = if j < cNV c then cBeg c j else 0 := by
    intro j hj
    rw [List.getD_eq_getElem?_getD, List.getElem?_map, List.getElem?_range hj]; rfl
  unfold mE
  by_cases e1 : k < 5
  · rw [if_pos e1]
    show ((List.range 5).map (fun v => if v < cNV c then cBeg c v else 0)).getD k 0 = _
    rw [hv k e1]
    by_cases e2 : k < cNV c
    · rw [if_pos e2, if_pos e2]
    · rw [if_neg e2, if_neg e2, if_neg (by omega)]
  · rw [if_neg e1, if_neg (show ¬ k < cNV c by omega)]
    by_cases e2 : k < 10
    · rw [if_pos e2, if_neg (by omega)]; exact rep_getD 5 (k - 5) 0
    · rw [if_neg e2]
      by_cases e3 : k = 10
      · rw [if_pos e3, if_neg (by omega)]; rfl
      · rw [if_neg e3]
        by_cases e4 : k = 11
        · rw [if_pos e4, if_pos e4]; rfl
        · rw [if_neg e4, if_neg e4, show (sR (aBegin c)).getD ((k - 12) / 17) [] = [] from rep_getD 8 _ []]
          split <;> rfl
theorem pRep_0 {c : Cf} {found places : Nat → Int32} (h : ∀ j, j < 2048 → places j = 0) : pRep c [] found 0 places :=
  ⟨rfl, by simp, fun i hi => absurd hi (Nat.not_lt_zero _), fun _ => 0, fun i hi => absurd hi (Nat.not_lt_zero _), fun p hp => Or.inl (h p hp), fun i hi => absurd hi (Nat.not_lt_zero _)⟩
section MR
variable {c : Cf} {keeps states over ar vt nfi : Int32} {found places at_ par by_ val dbl fr to wt ft fv st told beg : Nat → Int32} {lo n : Nat}
theorem m_search (hc : cOK c) (hg : gRep c vt ar nfi beg fr to wt ft fv) (hst : rRep c st told) (hlo : lo < 65536) (hkp : keeps = 1 ∨ keeps = 0) (hn1 : 1 ≤ n) (hn6 : n ≤ 600)
    {post : Int32 → (Nat → Int32) → Int32 → (Nat → Int32) → (Nat → Int32) → (Nat → Int32) → (Nat → Int32) → (Nat → Int32) → (Nat → Int32) → Int32 → Prop}
    (hp : ∀ found' states' places' at' par' by' val' dbl' over', pRep c (aLook c (fun i => !(lo.testBit i)) n).1 found' states' places' → kRep keeps (aLook c (fun i => !(lo.testBit i)) n).1 par' by' val' dbl' par by_ val dbl → post (if (aLook c (fun i => !(lo.testBit i)) n).2 = true then 0 else 1) found' states' places' at' par' by' val' dbl' over') : wp_X8_search vt beg ar fr to wt nfi ft fv st told found states places at_ par by_ val dbl keeps over (nI n) (nI lo) post := by
  obtain ⟨egv, ega, egf, gbeg, garcs, gfirsts⟩ := id hg
  have h5 : cNV c ≤ 5 := hc.1.1
  have hd2 : cSet c 5 ≤ 2 := hc.2.2.2.2.1.2.2.2.2.2.2
  show wp_X8_search_0 vt beg ar fr to wt nfi ft fv st told keeps post (nI n) (nI lo) found states places at_ par by_ val dbl over
  unfold wp_X8_search_0 wp_X8_search_12
  refine ⟨fun k x3 places => ∃ j, j ≤ 2048 ∧ k = 2048 - j ∧ x3 = nI j ∧ ∀ i, i < j → places i = 0, 2048, ⟨0, by omega, rfl, rfl, fun i h => absurd h (Nat.not_lt_zero _)⟩, ?_⟩
  rintro k x3 places ⟨j, hj, rfl, rfl, hI⟩
  unfold bd_X8_search_12
  refine pk_le 2048 j (fun q => ?_) (fun q => ?_) rfl rfl (by decide) (by omega)
  rotate_left
  · refine ⟨vp_in_nI q (by decide), 2048 - (j + 1), by omega, j + 1, by omega, rfl, nI_inc j, fun i hi => ?_⟩
    rw [nI_clamp (by omega)]
    by_cases e : i = j
    · subst e; rw [pk_us]
    · rw [pk_un e]; exact hI i (by omega)
  have hpl : ∀ i, i < 2048 → places i = 0 := fun i hi => hI i (by omega)
  clear hI
  unfold wp_X8_search_34
  refine ⟨fun k x3 at_ => ∃ j, j ≤ 148 ∧ k = 148 - j ∧ x3 = nI j ∧ ∀ i, i < j → at_ i = nI (if i < cNV c then cBeg c i else 0), 148, ⟨0, by omega, rfl, rfl, fun i h => absurd h (Nat.not_lt_zero _)⟩, ?_⟩
  rintro k x3 at_ ⟨j, hj, rfl, rfl, hI⟩
  unfold bd_X8_search_34
  refine pk_le 148 j (fun q => ?_) (fun q => ?_) rfl rfl (by decide) (by omega)
  rotate_left
  · have next : ∀ t0 : Int32, t0 = nI (if j < cNV c then cBeg c j else 0) → wp_X8_search_65 vt beg ar fr to wt nfi ft fv st told keeps post (fun x3' m_at' => ∃ n', n' < 148 - j ∧ ∃ j, j ≤ 148 ∧ n' = 148 - j ∧ x3' = nI j ∧ ∀ i, i < j → m_at' i = nI (if i < cNV c then cBeg c i else 0)) (nI n) (nI lo) (nI j) t0 (nI j) found 0 places at_ par by_ val dbl 0 := by
      intro t0 ht0
      unfold wp_X8_search_65
      refine ⟨vp_in_nI q (by decide), 148 - (j + 1), by omega, j + 1, by omega, rfl, nI_inc j, fun i hi => ?_⟩
      have hb : (if j < cNV c then cBeg c j else 0) < 16 := by
        by_cases e : j < cNV c
        · rw [if_pos e]; exact hc.2.1 j e
        · rw [if_neg e]; decide
      rw [nI_clamp (by omega), ht0, nar (by omega)]
      by_cases e : i = j
      · subst e; rw [pk_us]
      · rw [pk_un e]; exact hI i (by omega)
    rw [egv]
    refine pk_le (cNV c) j (fun q2 => ?_) (fun q2 => ?_) rfl rfl (by omega) (by omega)
    · rw [← egv]; exact next 0 (by rw [if_neg (by omega)]; rfl)
    · rw [← egv]
      refine ⟨vp_in_nI (by omega) (by decide), next _ ?_⟩
      have := hc.2.1 j q2
      rw [nI_clamp (by omega), gbeg j q2, i2b (by omega), if_pos q2]
  refine ⟨by unfold vp_in; decide, by unfold vp_in; decide, ?_⟩
  rw [show st (5 : Int32).toNatClampNeg = nI (cSet c 5) from hst.1 5 (by decide), i2b (by omega), nar (by omega), show (11 : Int32).toNatClampNeg = 11 from rfl]
  have hr : mRep (aBegin c) (upd at_ 11 (nI (cSet c 5))) := by
    intro k hk
    rw [mE_begin hc]
    by_cases e : k = 11
    · subst e
      rw [pk_us, if_neg (by omega), if_pos rfl]
    · rw [pk_un e, hI k (by omega)]
      by_cases e2 : k < cNV c
      · rw [if_pos e2, if_pos e2]
      · rw [if_neg e2, if_neg e2, if_neg e]
  refine m_find (L := []) (pRep_0 hpl) (sOK_begin hc) hr (Nat.zero_le _) hn6 (fun h => by simp at h) (fun _ h => by simp at h; omega) (fun _ _ x hx found states places hP => ?_)
  have hP2 : pRep c [(aBegin c, 0, 0, 0, 0)] found states places := pRep_congr (by simp [hx]) hP
  unfold wp_X8_search_95
  refine ⟨fun k x4 found states places at_ par' by' val' dbl' over => ∃ s B, s ≤ 600 ∧ k = 600 - s ∧ x4 = nI s ∧ B.1.length ≤ n ∧ aLoop c (fun i => !(lo.testBit i)) n (601 - s) s B = aLook c (fun i => !(lo.testBit i)) n ∧ nRep c B keeps found states places par' by' val' dbl' over par by_ val dbl, 600, ⟨0, _, by omega, rfl, rfl, by simp; omega, rfl, hP2, rfl, ?_⟩, ?_⟩
  · rcases hkp with e | e
    · exact Or.inl ⟨e, rfl, fun i h1 h2 => by simp at h2; omega⟩
    · exact Or.inr ⟨e, rfl, rfl, rfl, rfl⟩
  rintro k x4 found states places at_ par' by' val' dbl' over ⟨s, B, hs, rfl, rfl, hlen, hL, hN⟩
  have fin : ¬ (s < B.1.length ∧ B.2 = false) → wp_X8_search_129 vt beg ar fr to wt nfi ft fv st told keeps post found states places at_ par' by' val' dbl' over := by
    intro q
    rw [aLoop_s hs, if_neg q] at hL
    unfold wp_X8_search_129
    rw [hL] at hN
    refine ⟨fun z => ?_, fun z => ?_⟩
    · have := hp found states places at_ par' by' val' dbl' over hN.1 hN.2.2
      rw [if_pos (over_t hN.2.1 z)] at this; exact this
    · have := hp found states places at_ par' by' val' dbl' over hN.1 hN.2.2
      rw [if_neg (by rw [over_f hN.2.1 z]; decide)] at this; exact this
  unfold bd_X8_search_95
  have es := hN.1.1
  have hl6 := hN.1.2.1
  rw [es]
  refine pk_le B.1.length s (fun q => ?_) (fun q => ?_) rfl rfl (by omega) (by omega)
  · rw [← es]; exact fin (fun z => by omega)
  · rw [← es]
    refine ⟨fun z => fin (fun y => by have := over_t hN.2.1 z; rw [y.2] at this; cases this), fun z => ⟨fun y => absurd y (by decide), fun _ => ?_⟩⟩
    have h2 := over_f hN.2.1 z
    refine m_goOn hc hg hst hlo hN hlen hn6 q (fun found states places at_ par' by' val' dbl' over hG => ⟨600 - (s + 1), by omega, s + 1, _, by omega, rfl, nI_inc s, aGo_len _ hlen, ?_, hG⟩)
    rw [aLoop_s hs, if_pos ⟨q, h2⟩] at hL
    exact hL
end MR
