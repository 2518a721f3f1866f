/-! the class's look: through a STATE, and whole -/
theorem aManners_eq (a : AS) : aManners a = List.range (if 0 < sD a then 2 else 1) := by
  unfold aManners
  split <;> rfl
def mmn (a : AS) : Nat := if 0 < sD a then 2 else 1
theorem mmn_step {a : AS} {d : Nat} (h : d < mmn a) : d = 0 ∨ (d = 1 ∧ 0 < sD a) := by
  unfold mmn at h
  split at h <;> omega
theorem aFirsts_no {a : AS} {f : Nat} (h : ¬ (sC a).getD f 0 = 0) : aFirsts a f = [] := by unfold aFirsts; rw [if_neg h]
theorem aFirsts_yes {a : AS} {f : Nat} (h : (sC a).getD f 0 = 0) : aFirsts a f = (List.range (mmn a)).map (fun d => (100 + f, 0, d)) := by unfold aFirsts; rw [if_pos h, aManners_eq]; rfl
theorem aPlace_no {c : Cf} {a : AS} {i p : Nat} (h : ¬ aIs c ((sR a).getD i []) p = true) : aPlace c a i p = [] := by unfold aPlace; rw [if_neg h]
theorem aPlace_yes {c : Cf} {a : AS} {i p : Nat} (h : aIs c ((sR a).getD i []) p = true) : aPlace c a i p = (List.range (mmn a)).map (fun d => (i, p, d)) := by unfold aPlace; rw [if_pos h, aManners_eq]; rfl
theorem map_range_succ {α : Type} (f : Nat → α) (n : Nat) : (List.range (n + 1)).map f = (List.range n).map f ++ [f n] := by rw [List.range_succ, List.map_append]; rfl
theorem flat_range_succ {α : Type} (f : Nat → List α) (n : Nat) : (List.range (n + 1)).flatMap f = (List.range n).flatMap f ++ f n := by rw [List.range_succ, List.flatMap_append]; simp
section GT
variable {c : Cf} {B : BS} {isFull count : Int32} {heads lens rows : Nat → Int64} {slots : Nat → Int32} {fs fe fd fm : Int32} {ev es pa sp : Nat → Int32} {nh nl hh hl : Int64} {nr hrw : Nat → Int64} {gv ga gf : Int32} {beg fr to wt ft fv st told : Nat → Int32} {sm n s : Nat} {a : AS}
theorem w_isStep (hc : cOK c) (hst : rRep c st told) (ha : sOK c a) (hr : ∀ i, i < 8 → hrw i = lN (eRow a i)) {i p : Nat} (hi : i < 8) (hp0 : p < ((sR a).getD i []).length) {post : Int32 → Prop} (h1 : aIs c ((sR a).getD i []) p = true → post 1) (h0 : ¬ aIs c ((sR a).getD i []) p = true → post 0) : wp_X3_isStep st hrw (nI i) (nI p) post := by
  show wp_X3_isStep_0 st hrw post (nI i) (nI p)
  unfold wp_X3_isStep_0 wp_X3_isStep_45
  have h16 := ha.len16 i
  unfold aIs at h1 h0
  simp only [decide_eq_true_eq] at h1 h0
  by_cases e : p = 0
  · exact ns_yes (by rw [e]; rfl) (h1 (Or.inl e))
  · refine ns_no (nI_ne0 (by omega) (by omega)) ⟨by unfold vp_in; decide, ?_⟩
    rw [show st (4 : Int32).toNatClampNeg = nI (cSet c 4) from hst.1 4 (by decide)]
    have b4 := hc.2.2.2.2.1.2.2.2.2.2.1
    by_cases e4 : cSet c 4 = 0
    · refine ns_yes (by rw [e4]; rfl) (w_messageAt ha hr hi hp0 ?_)
      rw [nI_s1 (by omega)]
      refine w_messageAt ha hr hi (by omega) ?_
      have b1 := getD_all (ha.rw16 i) (by decide) p
      have b2 := getD_all (ha.rw16 i) (by decide) (p - 1)
      by_cases e5 : ((sR a).getD i []).getD p 0 = ((sR a).getD i []).getD (p - 1) 0
      · exact sw_yes (by rw [e5]) (h0 (fun z => z.elim e (fun y => y.2 e5)))
      · exact sw_no (fun z => e5 ((nI_eq (by omega) (by omega)).mp z)) (h1 (Or.inr ⟨e4, e5⟩))
    · exact ns_no (nI_ne0 (by omega) (by omega)) (h0 (fun z => z.elim e (fun y => e4 y.1)))
theorem w_goThrough (hc : cOK c) (hg : gRep c gv ga gf beg fr to wt ft fv) (hst : rRep c st told) (hsm : sm < 65536) (hB : bRep c B isFull count heads lens rows slots fs fe fd fm ev es pa sp) (hn : B.1.length ≤ n) (hn6 : n ≤ 600) (hs : s < B.1.length)
    {post : Int32 → Int32 → (Nat → Int64) → (Nat → Int64) → (Nat → Int64) → (Nat → Int32) → Int64 → Int64 → (Nat → Int64) → Int64 → Int64 → (Nat → Int64) → Int32 → Int32 → Int32 → Int32 → (Nat → Int32) → (Nat → Int32) → (Nat → Int32) → (Nat → Int32) → Prop}
    (hp : ∀ isFull count heads lens rows slots hh hl hrw nh nl nr fs fe fd fm ev es pa sp, bRep c (aGo c (fun i => sm.testBit i) n s (stt B.1 s) B (aSteps c (stt B.1 s))) isFull count heads lens rows slots fs fe fd fm ev es pa sp → post isFull count heads lens rows slots hh hl hrw nh nl nr fs fe fd fm ev es pa sp) : wp_X3_goThrough (nI n) (nI sm) isFull ga gf fr to wt ft fv st told count heads lens rows slots hh hl hrw nh nl nr fs fe fd fm ev es pa sp (nI s) post := by
  obtain ⟨f0, f1, f2, f3⟩ := hB.2.1
  have ega : ga = nI (cNA c) := hg.2.1
  have egf : gf = nI (cNF c) := hg.2.2.1
  show wp_X3_goThrough_0 (nI n) (nI sm) ga gf fr to wt ft fv st told post (nI s) isFull count heads lens rows slots hh hl hrw nh nl nr fs fe fd fm ev es pa sp
  unfold wp_X3_goThrough_0
  refine w_load f2 f1 hs (fun hh hl hrw hr => ?_)
  have ha := (f2 s hs).1
  generalize stt B.1 s = a at ha hr hp
  have h8 : cNA c ≤ 8 := hc.1.2.1
  have h4 : cNF c ≤ 4 := hc.1.2.2
  have hD2 := ha.bD
  refine w_doublesLeft ha hr.1 ?_
  have main : ∀ t0 : Int32, t0 = nI (mmn a) → wp_X3_goThrough_27 (nI n) (nI sm) ga gf fr to wt ft fv st told post (nI s) t0 isFull count heads lens rows slots hh hl hrw nh nl nr fs fe fd fm ev es pa sp := by
    intro t0 et0
    subst et0
    have hmm : mmn a ≤ 2 := by unfold mmn; split <;> omega
    have arcs : ∀ isFull count heads lens rows slots nh nl nr fs fe fd fm ev es pa sp, bRep c (aGo c (fun i => sm.testBit i) n s a B ((List.range (cNF c)).flatMap (aFirsts a))) isFull count heads lens rows slots fs fe fd fm ev es pa sp → wp_X3_goThrough_87 (nI n) (nI sm) ga gf fr to wt ft fv st told post (nI s) (nI (mmn a)) 0 isFull count heads lens rows slots hh hl hrw nh nl nr fs fe fd fm ev es pa sp := by
      intro isFull count heads lens rows slots nh nl nr fs fe fd fm ev es pa sp hB1
      have hp' : ∀ isFull count heads lens rows slots hh hl hrw nh nl nr fs fe fd fm ev es pa sp, bRep c (aGo c (fun i => sm.testBit i) n s a (aGo c (fun i => sm.testBit i) n s a B ((List.range (cNF c)).flatMap (aFirsts a))) ((List.range (cNA c)).flatMap (aArc c a))) isFull count heads lens rows slots fs fe fd fm ev es pa sp → post isFull count heads lens rows slots hh hl hrw nh nl nr fs fe fd fm ev es pa sp := fun isFull count heads lens rows slots hh hl hrw nh nl nr fs fe fd fm ev es pa sp h => hp _ _ _ _ _ _ _ _ _ _ _ _ _ _ _ _ _ _ _ _ (by unfold aSteps; rw [aGo_app]; exact h)
      have hn1 := aGo_len (c := c) (stay := fun i => sm.testBit i) (n := n) (s := s) (a := a) ((List.range (cNF c)).flatMap (aFirsts a)) hn
      generalize aGo c (fun i => sm.testBit i) n s a B ((List.range (cNF c)).flatMap (aFirsts a)) = B1 at hB1 hp' hn1
      unfold wp_X3_goThrough_87
      refine ⟨fun k x3 isFull count heads lens rows slots nh nl nr fs fe fd fm ev es pa sp => ∃ i, i ≤ cNA c ∧ k = cNA c - i ∧ x3 = nI i ∧ bRep c (aGo c (fun i => sm.testBit i) n s a B1 ((List.range i).flatMap (aArc c a))) isFull count heads lens rows slots fs fe fd fm ev es pa sp, cNA c, ⟨0, by omega, rfl, rfl, hB1⟩, ?_⟩
      rintro k x3 isFull count heads lens rows slots nh nl nr fs fe fd fm ev es pa sp ⟨i, hi, rfl, rfl, hI⟩
      unfold bd_X3_goThrough_87
      rw [ega]
      refine pk_le (cNA c) i (fun q => ?_) (fun q => ?_) rfl rfl (by omega) (by omega)
      · have e : i = cNA c := by omega
        subst e
        exact hp' _ _ _ _ _ _ _ _ _ _ _ _ _ _ _ _ _ _ _ _ hI
      · rw [← ega]
        refine w_underWay ha hr.2.1 (by omega) ?_
        have h16 := ha.len16 i
        have hn2 := aGo_len (c := c) (stay := fun i => sm.testBit i) (n := n) (s := s) (a := a) ((List.range i).flatMap (aArc c a)) hn1
        have fin : ∀ isFull count heads lens rows slots fs fe fd fm ev es pa sp, bRep c (aGo c (fun i => sm.testBit i) n s a (aGo c (fun i => sm.testBit i) n s a B1 ((List.range i).flatMap (aArc c a))) (aArc c a i)) isFull count heads lens rows slots fs fe fd fm ev es pa sp → ∃ n', n' < cNA c - i ∧ ∃ i', i' ≤ cNA c ∧ n' = cNA c - i' ∧ nI i + 1 = nI i' ∧ bRep c (aGo c (fun i => sm.testBit i) n s a B1 ((List.range i').flatMap (aArc c a))) isFull count heads lens rows slots fs fe fd fm ev es pa sp := by
          intro isFull count heads lens rows slots fs fe fd fm ev es pa sp h
          refine ⟨cNA c - (i + 1), by omega, i + 1, by omega, rfl, nI_inc i, ?_⟩
          rw [flat_range_succ, aGo_app]; exact h
        generalize aGo c (fun i => sm.testBit i) n s a B1 ((List.range i).flatMap (aArc c a)) = B2 at hI fin hn2
        unfold wp_X3_goThrough_111
        refine ⟨fun k x5 isFull count heads lens rows slots nh nl nr fs fe fd fm ev es pa sp => ∃ p, p ≤ ((sR a).getD i []).length ∧ k = ((sR a).getD i []).length - p ∧ x5 = nI p ∧ bRep c (aGo c (fun i => sm.testBit i) n s a B2 ((List.range p).flatMap (aPlace c a i))) isFull count heads lens rows slots fs fe fd fm ev es pa sp, ((sR a).getD i []).length, ⟨0, by omega, rfl, rfl, hI⟩, ?_⟩
        rintro k x5 isFull count heads lens rows slots nh nl nr fs fe fd fm ev es pa sp ⟨p, hpl, rfl, rfl, hJ⟩
        unfold bd_X3_goThrough_111
        refine pk_le ((sR a).getD i []).length p (fun q2 => ?_) (fun q2 => ?_) rfl rfl (by omega) (by omega)
        · have e : p = ((sR a).getD i []).length := by omega
          subst e
          exact fin _ _ _ _ _ _ _ _ _ _ _ _ _ _ hJ
        · have hn3 := aGo_len (c := c) (stay := fun i => sm.testBit i) (n := n) (s := s) (a := a) ((List.range p).flatMap (aPlace c a i)) hn2
          have fin2 : ∀ isFull count heads lens rows slots fs fe fd fm ev es pa sp l, l = aPlace c a i p → bRep c (aGo c (fun i => sm.testBit i) n s a (aGo c (fun i => sm.testBit i) n s a B2 ((List.range p).flatMap (aPlace c a i))) l) isFull count heads lens rows slots fs fe fd fm ev es pa sp → ∃ n', n' < ((sR a).getD i []).length - p ∧ ∃ p', p' ≤ ((sR a).getD i []).length ∧ n' = ((sR a).getD i []).length - p' ∧ nI p + 1 = nI p' ∧ bRep c (aGo c (fun i => sm.testBit i) n s a B2 ((List.range p').flatMap (aPlace c a i))) isFull count heads lens rows slots fs fe fd fm ev es pa sp := by
            intro isFull count heads lens rows slots fs fe fd fm ev es pa sp l el h
            refine ⟨((sR a).getD i []).length - (p + 1), by omega, p + 1, by omega, rfl, nI_inc p, ?_⟩
            rw [flat_range_succ, aGo_app, ← el]; exact h
          generalize aGo c (fun i => sm.testBit i) n s a B2 ((List.range p).flatMap (aPlace c a i)) = B3 at hJ fin2 hn3
          unfold wp_X3_goThrough_121
          refine ⟨fun k x6 isFull count heads lens rows slots nh nl nr fs fe fd fm ev es pa sp => ∃ d, d ≤ mmn a ∧ k = mmn a - d ∧ x6 = nI d ∧ bRep c (aGo c (fun i => sm.testBit i) n s a B3 (if aIs c ((sR a).getD i []) p = true then (List.range d).map (fun d => (i, p, d)) else [])) isFull count heads lens rows slots fs fe fd fm ev es pa sp, mmn a, ⟨0, by omega, rfl, rfl, by split <;> exact hJ⟩, ?_⟩
          rintro k x6 isFull count heads lens rows slots nh nl nr fs fe fd fm ev es pa sp ⟨d, hd, rfl, rfl, hM⟩
          unfold bd_X3_goThrough_121 wp_X3_goThrough_153
          refine pk_le (mmn a) d (fun q3 => ?_) (fun q3 => ?_) rfl rfl (by omega) (by omega)
          · have e : d = mmn a := by omega
            subst e
            refine fin2 _ _ _ _ _ _ _ _ _ _ _ _ _ _ _ ?_ hM
            by_cases e2 : aIs c ((sR a).getD i []) p = true
            · rw [if_pos e2, aPlace_yes e2]
            · rw [if_neg e2, aPlace_no e2]
          · refine w_isStep hc hst ha hr.2.2 (by omega) q2 (fun e2 => ?_) (fun e2 => ?_)
            · refine sw_no (by decide) ?_
              rw [if_pos e2] at hM
              have hlen := aGo_len (c := c) (stay := fun i => sm.testBit i) (n := n) (s := s) (a := a) ((List.range d).map (fun d => (i, p, d))) hn3
              refine w_takeS (s := s) hc hg hst hsm hM hlen hn6 ha hr ⟨Or.inr ⟨q, q2⟩, mmn_step q3⟩ (fun isFull count heads lens rows slots nh nl nr fs fe fd fm ev es pa sp hV => ⟨mmn a - (d + 1), by omega, d + 1, by omega, rfl, nI_inc d, ?_⟩)
              rw [if_pos e2, map_range_succ, aGo_app]; exact hV
            · rw [if_neg e2] at hM
              exact sw_yes rfl (fin2 _ _ _ _ _ _ _ _ _ _ _ _ _ _ _ (aPlace_no e2).symm hM)
    unfold wp_X3_goThrough_27 wp_X3_goThrough_30
    refine ⟨fun k x3 isFull count heads lens rows slots nh nl nr fs fe fd fm ev es pa sp => ∃ f, f ≤ cNF c ∧ k = cNF c - f ∧ x3 = nI f ∧ bRep c (aGo c (fun i => sm.testBit i) n s a B ((List.range f).flatMap (aFirsts a))) isFull count heads lens rows slots fs fe fd fm ev es pa sp, cNF c, ⟨0, by omega, rfl, rfl, hB⟩, ?_⟩
    rintro k x3 isFull count heads lens rows slots nh nl nr fs fe fd fm ev es pa sp ⟨f, hf, rfl, rfl, hI⟩
    unfold bd_X3_goThrough_30
    rw [egf]
    refine pk_le (cNF c) f (fun q => ?_) (fun q => ?_) rfl rfl (by omega) (by omega)
    · have e : f = cNF c := by omega
      subst e
      rw [← egf]
      exact arcs _ _ _ _ _ _ _ _ _ _ _ _ _ _ _ _ _ hI
    · rw [← egf]
      unfold wp_X3_goThrough_44
      refine ⟨fun k x4 isFull count heads lens rows slots nh nl nr fs fe fd fm ev es pa sp => ∃ d, d ≤ mmn a ∧ k = mmn a - d ∧ x4 = nI d ∧ bRep c (aGo c (fun i => sm.testBit i) n s a (aGo c (fun i => sm.testBit i) n s a B ((List.range f).flatMap (aFirsts a))) (if (sC a).getD f 0 = 0 then (List.range d).map (fun d => (100 + f, 0, d)) else [])) isFull count heads lens rows slots fs fe fd fm ev es pa sp, mmn a, ⟨0, by omega, rfl, rfl, by split <;> exact hI⟩, ?_⟩
      rintro k x4 isFull count heads lens rows slots nh nl nr fs fe fd fm ev es pa sp ⟨d, hd, rfl, rfl, hJ⟩
      unfold bd_X3_goThrough_44 wp_X3_goThrough_79
      have next : ∀ l, l = aFirsts a f → bRep c (aGo c (fun i => sm.testBit i) n s a (aGo c (fun i => sm.testBit i) n s a B ((List.range f).flatMap (aFirsts a))) l) isFull count heads lens rows slots fs fe fd fm ev es pa sp → ∃ n', n' < cNF c - f ∧ ∃ f', f' ≤ cNF c ∧ n' = cNF c - f' ∧ nI f + 1 = nI f' ∧ bRep c (aGo c (fun i => sm.testBit i) n s a B ((List.range f').flatMap (aFirsts a))) isFull count heads lens rows slots fs fe fd fm ev es pa sp := by
        intro l el hl2
        refine ⟨cNF c - (f + 1), by omega, f + 1, by omega, rfl, nI_inc f, ?_⟩
        rw [flat_range_succ, aGo_app, ← el]; exact hl2
      refine pk_le (mmn a) d (fun q2 => ?_) (fun q2 => ?_) rfl rfl (by omega) (by omega)
      · have e : d = mmn a := by omega
        subst e
        refine next _ ?_ hJ
        by_cases e2 : (sC a).getD f 0 = 0
        · rw [if_pos e2, aFirsts_yes e2]
        · rw [if_neg e2, aFirsts_no e2]
      · refine w_hasCome ha hr.1 (by omega) ?_
        by_cases e2 : (sC a).getD f 0 = 0
        · rw [if_pos e2] at hJ ⊢
          refine ns_yes rfl ?_
          rw [show (100 : Int32) + nI f = nI (100 + f) from nI_add 100 f]
          have hlen := aGo_len (c := c) (stay := fun i => sm.testBit i) (n := n) (s := s) (a := a) ((List.range d).map (fun d => (100 + f, 0, d))) (aGo_len (c := c) (stay := fun i => sm.testBit i) (n := n) (s := s) (a := a) ((List.range f).flatMap (aFirsts a)) hn)
          refine w_takeS (s := s) (p := 0) hc hg hst hsm hJ hlen hn6 ha hr ⟨Or.inl ⟨by omega, by omega, by rw [show 100 + f - 100 = f by omega]; exact e2, rfl⟩, mmn_step q2⟩ (fun isFull count heads lens rows slots nh nl nr fs fe fd fm ev es pa sp hV => ⟨mmn a - (d + 1), by omega, d + 1, by omega, rfl, nI_inc d, ?_⟩)
          rw [if_pos e2, map_range_succ, aGo_app]; exact hV
        · rw [if_neg e2] at hJ ⊢
          exact ns_no (by decide) (next _ (aFirsts_no e2).symm hJ)
  unfold mmn at main
  refine pk_le (sD a) 0 (fun q => ?_) (fun q => ?_) rfl rfl (by omega) (by decide)
  · exact main 1 (by rw [if_neg (by omega)]; rfl)
  · exact main 2 (by rw [if_pos (by omega)]; rfl)
end GT
