/-! the reference's look: through a STATE, and whole -/
theorem aGo_full {c : Cf} {stay : Nat → Bool} {n s : Nat} {a : AS} : ∀ (l : List (Nat × Nat × Nat)) {B : BS}, B.2 = true → aGo c stay n s a B l = B
  | [], _, _ => rfl
  | t :: l, B, h => by
    have e : aVisit c stay n s a B t = B := by unfold aVisit; rw [if_pos h]
    show aGo c stay n s a (aVisit c stay n s a B t) l = B
    rw [e]; exact aGo_full l h
theorem over_t {B : BS} {over : Int32} (h : over = (if B.2 = true then 1 else 0)) (hz : ¬ over = 0) : B.2 = true := by
  by_cases e : B.2 = true
  · exact e
  · rw [if_neg e] at h; exact absurd h hz
theorem over_f {B : BS} {over : Int32} (h : over = (if B.2 = true then 1 else 0)) (hz : over = 0) : B.2 = false := by
  cases e : B.2
  · rfl
  · rw [e, hz] at h; exact absurd h (by decide)
section MG
variable {c : Cf} {B : BS} {keeps states over ar vt nfi : Int32} {found places at_ par by_ val dbl P0 Y0 V0 D0 fr to wt ft fv st told beg : Nat → Int32} {lo n s : Nat}
theorem m_stepBoth (hc : cOK c) (hg : gRep c vt ar nfi beg fr to wt ft fv) (hst : rRep c st told) (hlo : lo < 65536) (hB : nRep c B keeps found states places par by_ val dbl over P0 Y0 V0 D0) (hn : B.1.length ≤ n) (hn6 : n ≤ 600) (hs : s < B.1.length) {src p : Nat} (hv : ∀ d, d < mmn (stt B.1 s) → vStep c (stt B.1 s) src p d)
    {post : (Nat → Int32) → Int32 → (Nat → Int32) → (Nat → Int32) → (Nat → Int32) → (Nat → Int32) → (Nat → Int32) → (Nat → Int32) → Int32 → Prop}
    (hp : ∀ found states places at_ par by_ val dbl over, nRep c (aGo c (fun i => !(lo.testBit i)) n s (stt B.1 s) B ((List.range (mmn (stt B.1 s))).map (fun d => (src, p, d)))) keeps found states places par by_ val dbl over P0 Y0 V0 D0 → post found states places at_ par by_ val dbl over) : wp_X8_stepBoth ar fr to wt ft fv st told found states places at_ par by_ val dbl keeps over (nI s) (nI src) (nI p) (nI n) (nI lo) post := by
  obtain ⟨f0, f1, f2, f3⟩ := hB.1
  obtain ⟨ha, hf⟩ := f2 s hs
  show wp_X8_stepBoth_0 ar fr to wt ft fv st told keeps post (nI s) (nI src) (nI p) (nI n) (nI lo) found states places at_ par by_ val dbl over
  unfold wp_X8_stepBoth_0
  rw [m148, show (11 : Int32) = nI 11 from rfl, nI_add]
  refine ⟨vp_in_nI (by omega) (by decide), ?_⟩
  rintro y2 e2
  rw [nI_clamp (by omega), hf 11 (by decide)] at e2
  have e2 : y2 = nI (sD (stt B.1 s)) := e2
  subst e2
  generalize ea : stt B.1 s = a at *
  have hD := ha.bD
  have hmm : mmn a = if 0 < sD a then 2 else 1 := rfl
  unfold wp_X8_stepBoth_18
  refine ⟨fun k x7 found states places at_ par by_ val dbl over => ∃ j, j ≤ 2 ∧ k = 2 - j ∧ x7 = nI j ∧ nRep c (aGo c (fun i => !(lo.testBit i)) n s a B ((List.range (min j (mmn a))).map (fun d => (src, p, d)))) keeps found states places par by_ val dbl over P0 Y0 V0 D0, 2, ⟨0, by omega, rfl, rfl, by rw [Nat.zero_min]; exact hB⟩, ?_⟩
  rintro k x7 found states places at_ par by_ val dbl over ⟨j, hj, rfl, rfl, hI⟩
  unfold bd_X8_stepBoth_18
  have hlen := aGo_len (c := c) (stay := fun i => !(lo.testBit i)) (n := n) (s := s) (a := a) ((List.range (min j (mmn a))).map (fun d => (src, p, d))) hn
  obtain ⟨M, hM⟩ := aGo_ext (c := c) (stay := fun i => !(lo.testBit i)) (n := n) (s := s) (a := a) ((List.range (min j (mmn a))).map (fun d => (src, p, d))) (B := B)
  have hst2 : stt (aGo c (fun i => !(lo.testBit i)) n s a B ((List.range (min j (mmn a))).map (fun d => (src, p, d)))).1 s = a := by rw [hM, stt_ext hs]; exact ea
  have hs2 : s < (aGo c (fun i => !(lo.testBit i)) n s a B ((List.range (min j (mmn a))).map (fun d => (src, p, d)))).1.length := by rw [hM, List.length_append]; omega
  refine pk_le 2 j (fun q => ?_) (fun q => ?_) rfl rfl (by decide) (by omega)
  · have e : j = 2 := by omega
    subst e
    refine hp _ _ _ _ _ _ _ _ _ ?_
    rw [Nat.min_eq_right (by rw [hmm]; split <;> omega)] at hI
    exact hI
  · refine ⟨fun z => ?_, fun z => ?_⟩
    · refine hp _ _ _ _ _ _ _ _ _ ?_
      have hfull := over_t hI.2.1 z
      have split_l : (List.range (mmn a)).map (fun d => (src, p, d)) = (List.range (min j (mmn a))).map (fun d => (src, p, d)) ++ ((List.range (mmn a)).drop (min j (mmn a))).map (fun d => (src, p, d)) := by
        rw [← List.map_append]
        congr 1
        have : List.range (min j (mmn a)) = (List.range (mmn a)).take (min j (mmn a)) := by rw [List.take_range, Nat.min_assoc, Nat.min_self]
        rw [this, List.take_append_drop]
      rw [split_l, aGo_app, aGo_full _ hfull]
      exact hI
    · have hnf := over_f hI.2.1 z
      have go : j < mmn a → ∀ t0 : Int32, t0 = nI j → wp_X8_stepBoth_56 ar fr to wt ft fv st told keeps post (fun x7' m_found' m_states' m_places' m_at' m_parent' m_stepBy' m_stepValue' m_stepDouble' m_isOver' => ∃ n', n' < 2 - j ∧ ∃ j, j ≤ 2 ∧ n' = 2 - j ∧ x7' = nI j ∧ nRep c (aGo c (fun i => !(lo.testBit i)) n s a B ((List.range (min j (mmn a))).map (fun d => (src, p, d)))) keeps m_found' m_states' m_places' m_parent' m_stepBy' m_stepValue' m_stepDouble' m_isOver' P0 Y0 V0 D0) (nI s) (nI src) (nI p) (nI n) (nI lo) (nI (sD a)) (nI j) t0 (nI p) (nI src) (nI s) found states places at_ par by_ val dbl over := by
        intro hjm t0 ht0
        unfold wp_X8_stepBoth_56 wp_X8_stepBoth_63
        rw [ht0]
        refine m_step hc hg hst hlo hI hnf hlen hn6 hs2 (by rw [hst2]; exact hv j hjm) (fun found states places at_ par by_ val dbl over hV => ⟨2 - (j + 1), by omega, j + 1, by omega, rfl, nI_inc j, ?_⟩)
        rw [hst2] at hV
        rw [Nat.min_eq_left (by omega)] at hV ⊢
        rw [map_range_succ, aGo_app]; exact hV
      rcases (show j = 0 ∨ j = 1 by omega) with e | e
      · subst e
        refine sw_yes rfl ?_
        unfold wp_X8_stepBoth_41
        exact ns_no (by decide) (go (by rw [hmm]; split <;> omega) 0 rfl)
      · subst e
        refine sw_no (by decide) ?_
        refine pk_le (sD a) 0 (fun q2 => ?_) (fun q2 => ?_) rfl rfl (by omega) (by decide)
        · unfold wp_X8_stepBoth_63
          refine ⟨0, by omega, 2, by omega, rfl, rfl, ?_⟩
          have e1 : mmn a = 1 := by rw [hmm, if_neg (by omega)]
          rw [e1] at hI ⊢
          exact hI
        · unfold wp_X8_stepBoth_41
          exact ns_yes rfl (go (by rw [hmm, if_pos q2]; omega) 1 rfl)
theorem flat_min {α : Type} {f : Nat → List α} {k : Nat} (h : ∀ p, k ≤ p → f p = []) : ∀ m, (List.range m).flatMap f = (List.range (min k m)).flatMap f
  | 0 => by rw [Nat.min_zero]
  | m + 1 => by
    rw [flat_range_succ, flat_min h m]
    by_cases e : k ≤ m
    · rw [h m e, List.append_nil, Nat.min_eq_left e, Nat.min_eq_left (by omega)]
    · rw [Nat.min_eq_right (by omega), Nat.min_eq_right (by omega), flat_range_succ]
theorem m_goOn (hc : cOK c) (hg : gRep c vt ar nfi beg fr to wt ft fv) (hst : rRep c st told) (hlo : lo < 65536) (hB : nRep c B keeps found states places par by_ val dbl over P0 Y0 V0 D0) (hn : B.1.length ≤ n) (hn6 : n ≤ 600) (hs : s < B.1.length)
    {post : (Nat → Int32) → Int32 → (Nat → Int32) → (Nat → Int32) → (Nat → Int32) → (Nat → Int32) → (Nat → Int32) → (Nat → Int32) → Int32 → Prop}
    (hp : ∀ found states places at_ par by_ val dbl over, nRep c (aGo c (fun i => !(lo.testBit i)) n s (stt B.1 s) B (aSteps c (stt B.1 s))) keeps found states places par by_ val dbl over P0 Y0 V0 D0 → post found states places at_ par by_ val dbl over) : wp_X8_goOn ar fr to wt nfi ft fv st told found states places at_ par by_ val dbl keeps over (nI s) (nI n) (nI lo) post := by
  have ega : ar = nI (cNA c) := hg.2.1
  have egf : nfi = nI (cNF c) := hg.2.2.1
  have ha := (hB.1.2.2.1 s hs).1
  have hlen6 := hB.1.2.1
  have h8 : cNA c ≤ 8 := hc.1.2.1
  have h4 : cNF c ≤ 4 := hc.1.2.2
  generalize ea : stt B.1 s = a at *
  have look : ∀ (l : List (Nat × Nat × Nat)) {found states places par by_ val dbl over}, nRep c (aGo c (fun i => !(lo.testBit i)) n s a B l) keeps found states places par by_ val dbl over P0 Y0 V0 D0 → (∀ k, k < 148 → found (148 * s + k) = nI (mE a k)) ∧ stt (aGo c (fun i => !(lo.testBit i)) n s a B l).1 s = a ∧ s < (aGo c (fun i => !(lo.testBit i)) n s a B l).1.length ∧ (aGo c (fun i => !(lo.testBit i)) n s a B l).1.length ≤ n := by
    intro l found states places par by_ val dbl over h
    obtain ⟨M, hM⟩ := aGo_ext (c := c) (stay := fun i => !(lo.testBit i)) (n := n) (s := s) (a := a) l (B := B)
    have hs2 : s < (aGo c (fun i => !(lo.testBit i)) n s a B l).1.length := by rw [hM, List.length_append]; omega
    have hst2 : stt (aGo c (fun i => !(lo.testBit i)) n s a B l).1 s = a := by rw [hM, stt_ext hs]; exact ea
    refine ⟨fun k hk => ?_, hst2, hs2, aGo_len l hn⟩
    have := (h.1.2.2.1 s hs2).2 k hk
    rw [hst2] at this; exact this
  show wp_X8_goOn_0 ar fr to wt nfi ft fv st told keeps post (nI s) (nI n) (nI lo) found states places at_ par by_ val dbl over
  have arcs : ∀ found states places at_ par by_ val dbl over, nRep c (aGo c (fun i => !(lo.testBit i)) n s a B ((List.range (cNF c)).flatMap (aFirsts a))) keeps found states places par by_ val dbl over P0 Y0 V0 D0 → wp_X8_goOn_59 ar fr to wt nfi ft fv st told keeps post (nI s) (nI n) (nI lo) found states places at_ par by_ val dbl over := by
    intro found states places at_ par by_ val dbl over hB1
    unfold wp_X8_goOn_59 wp_X8_goOn_62
    refine ⟨fun k x4 found states places at_ par by_ val dbl over => ∃ i, i ≤ cNA c ∧ k = cNA c - i ∧ x4 = nI i ∧ nRep c (aGo c (fun i => !(lo.testBit i)) n s a B ((List.range (cNF c)).flatMap (aFirsts a) ++ (List.range i).flatMap (aArc c a))) keeps found states places par by_ val dbl over P0 Y0 V0 D0, cNA c, ⟨0, by omega, rfl, rfl, by simpa using hB1⟩, ?_⟩
    rintro k x4 found states places at_ par by_ val dbl over ⟨i, hi, rfl, rfl, hI⟩
    unfold bd_X8_goOn_62
    rw [ega]
    refine pk_le (cNA c) i (fun q => ?_) (fun q => ?_) rfl rfl (by omega) (by omega)
    · have e : i = cNA c := by omega
      subst e
      exact hp _ _ _ _ _ _ _ _ _ hI
    · rw [← ega]
      show wp_X8_rowOf_0 _ (nI i)
      unfold wp_X8_rowOf_0
      rw [row17]
      dsimp only
      refine ⟨by unfold vp_in; decide, ?_⟩
      rw [m148, nI_add, show st (4 : Int32).toNatClampNeg = nI (cSet c 4) from hst.1 4 (by decide)]
      obtain ⟨fnd, -, -, -⟩ := look _ hI
      have b4 := hc.2.2.2.2.1.2.2.2.2.2.1
      have h16 := ha.len16 i
      have eN : found (148 * s + (12 + 17 * i)) = nI ((sR a).getD i []).length := by rw [fnd _ (by omega), mE_n]
      have hinr : vp_in (nI (148 * s + (12 + 17 * i))) 88800 := vp_in_nI (by omega) (by decide)
      have main : ∀ m : Nat, m ≤ ((sR a).getD i []).length → (cSet c 4 = 0 ∨ m ≤ 1) → (List.range ((sR a).getD i []).length).flatMap (aPlace c a i) = (List.range m).flatMap (aPlace c a i) → wp_X8_goOn_116 ar fr to wt nfi ft fv st told keeps post (fun x4' m_found' m_states' m_places' m_at' m_parent' m_stepBy' m_stepValue' m_stepDouble' m_isOver' => ∃ n', n' < cNA c - i ∧ ∃ i, i ≤ cNA c ∧ n' = cNA c - i ∧ x4' = nI i ∧ nRep c (aGo c (fun i => !(lo.testBit i)) n s a B ((List.range (cNF c)).flatMap (aFirsts a) ++ (List.range i).flatMap (aArc c a))) keeps m_found' m_states' m_places' m_parent' m_stepBy' m_stepValue' m_stepDouble' m_isOver' P0 Y0 V0 D0) (nI s) (nI n) (nI lo) (nI i) (nI (148 * s + (12 + 17 * i))) (nI m) found states places at_ par by_ val dbl over := by
        intro m hm hm4 hflat
        unfold wp_X8_goOn_116 wp_X8_goOn_121
        refine ⟨fun k x7 found states places at_ par by_ val dbl over => ∃ p, p ≤ m ∧ k = m - p ∧ x7 = nI p ∧ nRep c (aGo c (fun i => !(lo.testBit i)) n s a B ((List.range (cNF c)).flatMap (aFirsts a) ++ (List.range i).flatMap (aArc c a) ++ (List.range p).flatMap (aPlace c a i))) keeps found states places par by_ val dbl over P0 Y0 V0 D0, m, ⟨0, by omega, rfl, rfl, by simpa using hI⟩, ?_⟩
        rintro k x7 found states places at_ par by_ val dbl over ⟨p, hpm, rfl, rfl, hJ⟩
        unfold bd_X8_goOn_121 wp_X8_goOn_182
        obtain ⟨fnd, hst2, hs2, hl2⟩ := look _ hJ
        have done : nRep c (aGo c (fun i => !(lo.testBit i)) n s a B ((List.range (cNF c)).flatMap (aFirsts a) ++ (List.range i).flatMap (aArc c a) ++ aArc c a i)) keeps found states places par by_ val dbl over P0 Y0 V0 D0 → ∃ n', n' < cNA c - i ∧ ∃ i', i' ≤ cNA c ∧ n' = cNA c - i' ∧ nI i + 1 = nI i' ∧ nRep c (aGo c (fun i => !(lo.testBit i)) n s a B ((List.range (cNF c)).flatMap (aFirsts a) ++ (List.range i').flatMap (aArc c a))) keeps found states places par by_ val dbl over P0 Y0 V0 D0 := by
          intro hD
          refine ⟨cNA c - (i + 1), by omega, i + 1, by omega, rfl, nI_inc i, ?_⟩
          rw [flat_range_succ, ← List.append_assoc]; exact hD
        have eA : aArc c a i = (List.range m).flatMap (aPlace c a i) := hflat
        refine pk_le m p (fun q2 => ?_) (fun q2 => ?_) rfl rfl (by omega) (by omega)
        · have e : p = m := by omega
          subst e
          refine done ?_
          rw [eA]; exact hJ
        · refine ⟨fun z => done ?_, fun z => ?_⟩
          · have hfull := over_t hJ.2.1 z
            have : (List.range m).flatMap (aPlace c a i) = (List.range p).flatMap (aPlace c a i) ++ ((List.range m).drop p).flatMap (aPlace c a i) := by
              rw [← List.flatMap_append]
              congr 1
              have : List.range p = (List.range m).take p := by rw [List.take_range, Nat.min_eq_left hpm]
              rw [this, List.take_append_drop]
            rw [eA, this, ← List.append_assoc, aGo_app, aGo_full _ hfull]
            exact hJ
          · have step : ∀ l, l = aPlace c a i p → nRep c (aGo c (fun i => !(lo.testBit i)) n s a B ((List.range (cNF c)).flatMap (aFirsts a) ++ (List.range i).flatMap (aArc c a) ++ (List.range p).flatMap (aPlace c a i) ++ l)) keeps found states places par by_ val dbl over P0 Y0 V0 D0 → ∃ n', n' < m - p ∧ ∃ p', p' ≤ m ∧ n' = m - p' ∧ nI p + 1 = nI p' ∧ nRep c (aGo c (fun i => !(lo.testBit i)) n s a B ((List.range (cNF c)).flatMap (aFirsts a) ++ (List.range i).flatMap (aArc c a) ++ (List.range p').flatMap (aPlace c a i))) keeps found states places par by_ val dbl over P0 Y0 V0 D0 := by
              intro l el h
              refine ⟨m - (p + 1), by omega, p + 1, by omega, rfl, nI_inc p, ?_⟩
              rw [flat_range_succ, ← List.append_assoc, ← el]; exact h
            have both : aIs c ((sR a).getD i []) p = true → wp_X8_goOn_165 ar fr to wt nfi ft fv st told keeps post (fun x4' m_found' m_states' m_places' m_at' m_parent' m_stepBy' m_stepValue' m_stepDouble' m_isOver' => ∃ n', n' < cNA c - i ∧ ∃ i, i ≤ cNA c ∧ n' = cNA c - i ∧ x4' = nI i ∧ nRep c (aGo c (fun i => !(lo.testBit i)) n s a B ((List.range (cNF c)).flatMap (aFirsts a) ++ (List.range i).flatMap (aArc c a))) keeps m_found' m_states' m_places' m_parent' m_stepBy' m_stepValue' m_stepDouble' m_isOver' P0 Y0 V0 D0) (fun x7' m_found' m_states' m_places' m_at' m_parent' m_stepBy' m_stepValue' m_stepDouble' m_isOver' => ∃ n', n' < m - p ∧ ∃ p, p ≤ m ∧ n' = m - p ∧ x7' = nI p ∧ nRep c (aGo c (fun i => !(lo.testBit i)) n s a B ((List.range (cNF c)).flatMap (aFirsts a) ++ (List.range i).flatMap (aArc c a) ++ (List.range p).flatMap (aPlace c a i))) keeps m_found' m_states' m_places' m_parent' m_stepBy' m_stepValue' m_stepDouble' m_isOver' P0 Y0 V0 D0) (nI s) (nI n) (nI lo) (nI i) (nI (148 * s + (12 + 17 * i))) (nI m) (nI p) found states places at_ par by_ val dbl over := by
              intro his
              unfold wp_X8_goOn_165 wp_X8_goOn_176
              refine m_stepBoth hc hg hst hlo hJ hl2 hn6 hs2 (fun d hd => by rw [hst2] at hd ⊢; exact ⟨Or.inr ⟨q, by omega⟩, mmn_step hd⟩) (fun found states places at_ par by_ val dbl over hV => ⟨m - (p + 1), by omega, p + 1, by omega, rfl, nI_inc p, ?_⟩)
              rw [hst2] at hV
              rw [flat_range_succ, ← List.append_assoc, aGo_app, aPlace_yes his]; exact hV
            have his : aIs c ((sR a).getD i []) p = true ↔ (p = 0 ∨ (cSet c 4 = 0 ∧ ((sR a).getD i []).getD p 0 ≠ ((sR a).getD i []).getD (p - 1) 0)) := by unfold aIs; rw [decide_eq_true_eq]
            by_cases e0 : p = 0
            · exact sw_yes (by rw [e0]; rfl) (both (his.mpr (Or.inl e0)))
            · refine sw_no (nI_ne0 (by omega) (by omega)) ?_
              rw [nI_inc, nI_add, nI_add]
              refine ⟨vp_in_nI (by omega) (by decide), vp_in_nI (by omega) (by decide), ?_⟩
              have g1 : found (148 * s + (12 + 17 * i) + 1 + p) = nI (((sR a).getD i []).getD p 0) := by
                rw [show 148 * s + (12 + 17 * i) + 1 + p = 148 * s + (12 + 17 * i + 1 + p) by omega, fnd _ (by omega), mE_r i (by omega)]
              have g2 : found (148 * s + (12 + 17 * i) + p) = nI (((sR a).getD i []).getD (p - 1) 0) := by
                rw [show 148 * s + (12 + 17 * i) + p = 148 * s + (12 + 17 * i + 1 + (p - 1)) by omega, fnd _ (by omega), mE_r i (by omega)]
              rw [nI_clamp (by omega), nI_clamp (by omega), g1, g2]
              have l1 := getD_all (ha.rw16 i) (by decide) p
              have l2 := getD_all (ha.rw16 i) (by decide) (p - 1)
              by_cases e5 : ((sR a).getD i []).getD p 0 = ((sR a).getD i []).getD (p - 1) 0
              · refine sw_yes (by rw [e5]) ?_
                unfold wp_X8_goOn_176
                refine step [] (aPlace_no (fun z => ?_)).symm (by rw [List.append_nil]; exact hJ)
                rcases his.mp z with y | y
                · exact e0 y
                · exact y.2 e5
              · refine sw_no (fun z => e5 ((nI_eq (by omega) (by omega)).mp z)) ?_
                by_cases e6 : cSet c 4 = 0
                · exact both (his.mpr (Or.inr ⟨e6, e5⟩))
                · exfalso
                  rcases hm4 with y | y
                  · exact e6 y
                  · omega
      have h109 : (cSet c 4 = 0 ∨ ((sR a).getD i []).length ≤ 1) → wp_X8_goOn_109 ar fr to wt nfi ft fv st told keeps post (fun x4' m_found' m_states' m_places' m_at' m_parent' m_stepBy' m_stepValue' m_stepDouble' m_isOver' => ∃ n', n' < cNA c - i ∧ ∃ i, i ≤ cNA c ∧ n' = cNA c - i ∧ x4' = nI i ∧ nRep c (aGo c (fun i => !(lo.testBit i)) n s a B ((List.range (cNF c)).flatMap (aFirsts a) ++ (List.range i).flatMap (aArc c a))) keeps m_found' m_states' m_places' m_parent' m_stepBy' m_stepValue' m_stepDouble' m_isOver' P0 Y0 V0 D0) (nI s) (nI n) (nI lo) (nI i) (nI (148 * s + (12 + 17 * i))) found states places at_ par by_ val dbl over := by
        intro h
        unfold wp_X8_goOn_109
        refine ⟨hinr, ?_⟩
        rw [nI_clamp (by omega), eN]
        exact main _ (Nat.le_refl _) h rfl
      by_cases e4 : cSet c 4 = 1
      · refine ns_yes (by rw [e4]; rfl) ⟨hinr, ?_⟩
        rw [nI_clamp (by omega), eN]
        refine pk_le ((sR a).getD i []).length 1 (fun q2 => ?_) (fun q2 => ?_) rfl rfl (by omega) (by decide)
        · exact h109 (Or.inr q2)
        · refine main 1 (by omega) (Or.inr (Nat.le_refl _)) ?_
          rw [flat_min (k := 1) (fun p hp => aPlace_no (fun z => ?_)) _, Nat.min_eq_left (by omega)]
          unfold aIs at z
          rw [decide_eq_true_eq] at z
          omega
      · exact ns_no (fun z => e4 ((nI_eq (a := cSet c 4) (b := 1) (by omega) (by decide)).mp z)) (h109 (Or.inl (by omega)))
  unfold wp_X8_goOn_0 wp_X8_goOn_3
  refine ⟨fun k x4 found states places at_ par by_ val dbl over => ∃ f, f ≤ cNF c ∧ k = cNF c - f ∧ x4 = nI f ∧ nRep c (aGo c (fun i => !(lo.testBit i)) n s a B ((List.range f).flatMap (aFirsts a))) keeps found states places par by_ val dbl over P0 Y0 V0 D0, cNF c, ⟨0, by omega, rfl, rfl, hB⟩, ?_⟩
  rintro k x4 found states places at_ par by_ val dbl over ⟨f, hf, rfl, rfl, hI⟩
  unfold bd_X8_goOn_3
  obtain ⟨fnd, hst2, hs2, hl2⟩ := look _ hI
  rw [egf]
  refine pk_le (cNF c) f (fun q => ?_) (fun q => ?_) rfl rfl (by omega) (by omega)
  · have e : f = cNF c := by omega
    subst e
    rw [← egf]
    exact arcs _ _ _ _ _ _ _ _ _ hI
  · rw [← egf]
    refine ⟨fun z => arcs _ _ _ _ _ _ _ _ _ ?_, fun z => ?_⟩
    · have hfull := over_t hI.2.1 z
      have : (List.range (cNF c)).flatMap (aFirsts a) = (List.range f).flatMap (aFirsts a) ++ ((List.range (cNF c)).drop f).flatMap (aFirsts a) := by
        rw [← List.flatMap_append]
        congr 1
        have : List.range f = (List.range (cNF c)).take f := by rw [List.take_range, Nat.min_eq_left hf]
        rw [this, List.take_append_drop]
      rw [this, aGo_app, aGo_full _ hfull]
      exact hI
    · rw [m148, show (10 : Int32) = nI 10 from rfl, nI_add]
      refine ⟨vp_in_nI (by omega) (by decide), ?_⟩
      have hC := eC_lt ha
      rw [nI_clamp (by omega), fnd 10 (by decide), mE_c, shr_bit (by omega) (by omega), Nat.testBit_eq_decide_div_mod_eq]
      have hget := dig_get0 (B := 2) (by decide) (i := f) ha.bC (by rw [ha.lC]; omega)
      rw [hget]
      have step : ∀ l, l = aFirsts a f → nRep c (aGo c (fun i => !(lo.testBit i)) n s a B ((List.range f).flatMap (aFirsts a) ++ l)) keeps found states places par by_ val dbl over P0 Y0 V0 D0 → ∃ n', n' < cNF c - f ∧ ∃ f', f' ≤ cNF c ∧ n' = cNF c - f' ∧ nI f + 1 = nI f' ∧ nRep c (aGo c (fun i => !(lo.testBit i)) n s a B ((List.range f').flatMap (aFirsts a))) keeps found states places par by_ val dbl over P0 Y0 V0 D0 := by
        intro l el h
        refine ⟨cNF c - (f + 1), by omega, f + 1, by omega, rfl, nI_inc f, ?_⟩
        rw [flat_range_succ, ← el]; exact h
      have hb := getD_all ha.bC (by decide) f
      refine ⟨fun z2 => ?_, fun z2 => ?_⟩
      · have hne : ¬ (sC a).getD f 0 = 0 := fun y => z2 (by rw [y]; decide)
        unfold wp_X8_goOn_53
        exact step [] (aFirsts_no hne).symm (by rw [List.append_nil]; exact hI)
      · have he : (sC a).getD f 0 = 0 := by
          rw [decide_eq_false_iff_not] at z2
          omega
        rw [show (100 : Int32) + nI f = nI (100 + f) from nI_add 100 f, show (0 : Int32) = nI 0 from rfl]
        refine m_stepBoth hc hg hst hlo hI hl2 hn6 hs2 (fun d hd => by rw [hst2] at hd ⊢; exact ⟨Or.inl ⟨by omega, by omega, by rw [show 100 + f - 100 = f by omega]; exact he, rfl⟩, mmn_step hd⟩) (fun found states places at_ par by_ val dbl over hV => ?_)
        unfold wp_X8_goOn_53
        refine ⟨cNF c - (f + 1), by omega, f + 1, by omega, rfl, nI_inc f, ?_⟩
        rw [hst2] at hV
        rw [flat_range_succ, aGo_app, aFirsts_yes he]; exact hV
end MG
