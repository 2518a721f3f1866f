/-! set, about, law -/
theorem nI_sub' {a b : Nat} (h : b ≤ a) : nI a - nI b = nI (a - b) := by
  have e : nI a = nI (a - b) + nI b := by rw [nI_add]; congr 1; omega
  rw [e]
  exact Int32.add_sub_cancel _ _
def sLo (i : Nat) : Nat := if i = 3 then 1 else 0
def sHi (i : Nat) : Nat := if i = 0 then 9 else if i = 1 then 4 else if i = 2 then 1 else if i = 3 then 16 else if i = 4 then 1 else 2
def oSet (c : Cf) (x y : Int32) : Int32 × Cf := match natQ 6 x with
  | none => (-102, c)
  | some i => match natQ (sHi i + 1) y with
    | none => (-102, c)
    | some v => if v < sLo i then (-102, c) else (nI (cSet c i), cup c 7 i v)
theorem sHi_le {i : Nat} : sHi i ≤ 16 := by unfold sHi; repeat' split
                                            all_goals omega
section OPS2
variable {c : Cf} {gv ga gf : Int32} {beg fr to wt ft fv st told : Nat → Int32}
theorem oSet_ok (hc : cOK c) (x y : Int32) : cOK (oSet c x y).2 := by
  obtain ⟨h1, h4, h5, h6, h7, h8⟩ := id hc
  unfold oSet
  cases e1 : natQ 6 x with
  | none => exact hc
  | some i =>
    obtain ⟨hi, -⟩ := natQ_some (by decide) e1
    cases e2 : natQ (sHi i + 1) y with
    | none => simp only [e2]; exact hc
    | some v =>
      simp only [e2]
      obtain ⟨hv, -⟩ := natQ_some (by have := sHi_le (i := i); omega) e2
      by_cases q : v < sLo i
      · rw [if_pos q]; exact hc
      · rw [if_neg q]
        refine ⟨h1, h4, h5, h6, ?_, h8⟩
        show (if 7 = 7 ∧ 0 = i then v else c 7 0) ≤ 9 ∧ (if 7 = 7 ∧ 1 = i then v else c 7 1) ≤ 4 ∧ (if 7 = 7 ∧ 2 = i then v else c 7 2) ≤ 1 ∧ 1 ≤ (if 7 = 7 ∧ 3 = i then v else c 7 3) ∧ (if 7 = 7 ∧ 3 = i then v else c 7 3) ≤ 16 ∧ (if 7 = 7 ∧ 4 = i then v else c 7 4) ≤ 1 ∧ (if 7 = 7 ∧ 5 = i then v else c 7 5) ≤ 2
        obtain ⟨a0, a1, a2, a3, a3', a4, a5⟩ := h7
        have a0 : c 7 0 ≤ 9 := a0
        have a1 : c 7 1 ≤ 4 := a1
        have a2 : c 7 2 ≤ 1 := a2
        have a3 : 1 ≤ c 7 3 := a3
        have a3' : c 7 3 ≤ 16 := a3'
        have a4 : c 7 4 ≤ 1 := a4
        have a5 : c 7 5 ≤ 2 := a5
        unfold sHi at hv
        unfold sLo at q
        rcases (show i = 0 ∨ i = 1 ∨ i = 2 ∨ i = 3 ∨ i = 4 ∨ i = 5 by omega) with e | e | e | e | e | e <;> subst e <;> simp at hv q ⊢ <;> omega
theorem rRep_set (hr : rRep c st told) {k w : Nat} : rRep (cup c 7 k w) (upd st k (nI w)) told := by
  obtain ⟨e1, e2⟩ := hr
  refine ⟨fun i hi => ?_, e2⟩
  rw [upd_1 (g := cSet c) e1 i hi]
  show nI _ = nI (if 7 = 7 ∧ i = k then w else c 7 i)
  by_cases e : i = k
  · simp [e]
  · simp [e]
theorem set_bnd {i : Nat} (hi : i < 6) : tb_LEAST_SETTING i = nI (sLo i) ∧ tb_GREATEST_SETTING i = nI (sHi i) := by
  rcases (show i = 0 ∨ i = 1 ∨ i = 2 ∨ i = 3 ∨ i = 4 ∨ i = 5 by omega) with e | e | e | e | e | e <;> subst e <;> exact ⟨rfl, rfl⟩
theorem oSet_in {x y : Int32} {i : Nat} (hx : natQ 6 x = some i) (a : ¬ y < nI (sLo i)) (b : ¬ nI (sHi i) < y) : ∃ v, y = nI v ∧ oSet c x y = (nI (cSet c i), cup c 7 i v) := by
  have h16 := sHi_le (i := i)
  have hlo : sLo i < 2 := by unfold sLo; split <;> omega
  have a0 : ¬ y < 0 := fun z => a (Int32.lt_of_lt_of_le z (nI_pos' (by omega)))
  obtain ⟨j, hj, e⟩ := within_n (n := sHi i) (nI_toInt (by omega)) a0 b
  refine ⟨j, e, ?_⟩
  subst e
  unfold oSet
  have e2 : natQ (sHi i + 1) (nI j) = some j := by
    unfold natQ
    rw [nI_clamp (by omega), if_pos ⟨nI_pos' (by omega), by omega⟩]
  have q : ¬ j < sLo i := fun z => a (nI_lt z (by omega))
  simp only [hx, e2, if_neg q]
theorem oSet_out {x y : Int32} {i : Nat} (hx : natQ 6 x = some i) (a : y < nI (sLo i) ∨ nI (sHi i) < y) : oSet c x y = (-102, c) := by
  have h16 := sHi_le (i := i)
  have hlo : sLo i < 2 := by unfold sLo; split <;> omega
  unfold oSet
  simp only [hx]
  cases e2 : natQ (sHi i + 1) y with
  | none => rfl
  | some v =>
    obtain ⟨hv, rfl⟩ := natQ_some (by omega) e2
    simp only []
    rcases a with a | a
    · have : v < sLo i := by
        apply Classical.byContradiction
        intro z
        exact absurd a (nI_nlt (by omega) (by omega))
      rw [if_pos this]
    · exact absurd a (nI_nlt (by omega) (by omega))
theorem w_set (hr : rRep c st told) {x y : Int32} {post : Int32 → (Nat → Int32) → Prop} (hp : ∀ st', rRep (oSet c x y).2 st' told → post (oSet c x y).1 st') : wp_X7_set st x y post := by
  show wp_X7_set_0 post x y st
  unfold wp_X7_set_0
  refine within_q (n := 6) (by decide) rfl (fun i h1 => ns_no (by decide) ?_) (fun h1 => ?_)
  · have h2 := fun a b => oSet_in (c := c) (y := y) h1 a b
    have h3 := fun a => oSet_out (c := c) (y := y) h1 a
    obtain ⟨hi, rfl⟩ := natQ_some (by decide) h1
    refine ⟨vp_in_nI hi (by decide), vp_in_nI hi (by decide), ?_⟩
    rw [nI_clamp (by omega), (set_bnd hi).1, (set_bnd hi).2]
    refine isWithin_i (fun a b => ns_no (by decide) ?_) (fun q => ns_yes rfl ?_)
    · obtain ⟨v, rfl, e⟩ := h2 a b
      refine ⟨vp_in_nI hi (by decide), fun y6 e6 => ⟨vp_in_nI hi (by decide), ?_⟩⟩
      rw [e6, hr.1 i hi]
      rw [e] at hp
      exact hp _ (rRep_set hr)
    · rw [h3 q] at hp
      exact hp _ hr
  · refine ns_yes rfl ?_
    unfold oSet at hp
    rw [h1] at hp
    exact hp _ hr
theorem m_set20 (hr : rRep c st told) {y : Int32} {i : Nat} (hi : i < 6) (h1 : natQ 6 (nI i) = some i) {post : Int32 → (Nat → Int32) → Prop} (hp : ∀ st', rRep (oSet c (nI i) y).2 st' told → post (oSet c (nI i) y).1 st') {lo : Int32} (hlo : lo = nI (sLo i)) : wp_X8_set_20 post (nI i) y lo y st := by
  have h2 := fun a b => oSet_in (c := c) (y := y) h1 a b
  have h3 := fun a => oSet_out (c := c) (y := y) h1 a
  subst hlo
  unfold wp_X8_set_20
  have hg : ∀ {Q : Int32 → Prop}, Q (nI (sHi i)) → wp_X8_greatestOf (nI i) Q := by
    intro Q hQ
    show wp_X8_greatestOf_0 Q (nI i)
    unfold wp_X8_greatestOf_0
    rcases (show i = 0 ∨ i = 1 ∨ i = 2 ∨ i = 3 ∨ i = 4 ∨ i = 5 by omega) with e | e | e | e | e | e <;> subst e <;> (repeat (first | refine sw_yes (by decide) ?_ | refine sw_no (by decide) ?_)) <;> exact hQ
  refine hg ?_
  refine in_i (fun a b => ns_no (by decide) ?_) (fun q => ns_yes rfl ?_)
  · obtain ⟨v, rfl, e⟩ := h2 a b
    refine ⟨vp_in_nI hi (by decide), fun y6 e6 => ⟨vp_in_nI hi (by decide), ?_⟩⟩
    rw [nI_clamp (by omega)] at e6 ⊢
    rw [e6, hr.1 i hi]
    rw [e] at hp
    exact hp _ (rRep_set hr)
  · rw [h3 q] at hp
    exact hp _ hr
theorem m_set (hr : rRep c st told) {x y : Int32} {post : Int32 → (Nat → Int32) → Prop} (hp : ∀ st', rRep (oSet c x y).2 st' told → post (oSet c x y).1 st') : wp_X8_set st x y post := by
  show wp_X8_set_0 post x y st
  unfold wp_X8_set_0
  refine in_q (n := 6) (by decide) rfl (fun i h1 => sw_no (by decide) ?_) (fun h1 => ?_)
  · obtain ⟨hi, rfl⟩ := natQ_some (by decide) h1
    by_cases e : i = 3
    · exact ns_yes (by rw [e]; rfl) (m_set20 hr hi h1 hp (by rw [e]; rfl))
    · exact ns_no (fun z => e ((nI_eq (a := i) (b := 3) (by omega) (by decide)).mp z)) (m_set20 hr hi h1 hp (by unfold sLo; rw [if_neg e]; rfl))
  · refine sw_yes rfl ?_
    unfold oSet at hp
    rw [h1] at hp
    exact hp _ hr
def oAbout (c : Cf) (x : Int32) : Int32 := if x = 0 then nI (cNV c) else if x = 1 then nI (cNA c) else if x = 2 then nI (cNF c) else match natQ 9 x with
  | none => -102
  | some i => nI (cSet c (i - 3))
theorem ab_in {x : Int32} (h0 : ¬ x = 0) (h1 : ¬ x = 1) (h2 : ¬ x = 2) (a : ¬ x < 3) (b : ¬ 8 < x) : ∃ i, i < 6 ∧ x - 3 = nI i ∧ oAbout c x = nI (cSet c i) := by
  have a0 : ¬ x < 0 := fun z => a (Int32.lt_trans z (by decide))
  obtain ⟨j, hj, e⟩ := within_n (n := 8) (by decide) a0 b
  subst e
  have : 3 ≤ j := by
    apply Classical.byContradiction
    intro z
    exact a (nI_lt (a := j) (b := 3) (by omega) (by decide))
  refine ⟨j - 3, by omega, ?_, ?_⟩
  · rw [← nI_sub' this]; rfl
  · unfold oAbout
    rw [if_neg h0, if_neg h1, if_neg h2]
    have e2 : natQ 9 (nI j) = some j := by
      unfold natQ
      rw [nI_clamp (by omega), if_pos ⟨nI_pos' (by omega), by omega⟩]
    rw [e2]
theorem ab_out {x : Int32} (h0 : ¬ x = 0) (h1 : ¬ x = 1) (h2 : ¬ x = 2) (a : x < 3 ∨ 8 < x) : oAbout c x = -102 := by
  unfold oAbout
  rw [if_neg h0, if_neg h1, if_neg h2]
  cases e : natQ 9 x with
  | none => rfl
  | some j =>
    exfalso
    obtain ⟨hj, rfl⟩ := natQ_some (by decide) e
    rcases a with a | a
    · have : j < 3 := by
        apply Classical.byContradiction
        intro z
        exact absurd a (nI_nlt (a := j) (b := 3) (by omega) (by omega))
      rcases (show j = 0 ∨ j = 1 ∨ j = 2 by omega) with e | e | e <;> subst e
      · exact h0 rfl
      · exact h1 rfl
      · exact h2 rfl
    · exact absurd a (nI_nlt (a := 8) (b := j) (by omega) (by decide))
theorem w_about (hg : gRep c gv ga gf beg fr to wt ft fv) (hr : rRep c st told) {x : Int32} {post : Int32 → Prop} (hp : post (oAbout c x)) : wp_X7_about gv ga gf st x post := by
  show wp_X7_about_0 gv ga gf st post x
  unfold wp_X7_about_0
  refine ⟨fun h0 => ?_, fun h0 => ⟨fun h1 => ?_, fun h1 => ⟨fun h2 => ?_, fun h2 => ?_⟩⟩⟩
  · subst h0; rw [hg.1]; exact hp
  · subst h1; rw [hg.2.1]; exact hp
  · subst h2; rw [hg.2.2.1]; exact hp
  · refine isWithin_i (fun a b => sw_no (by decide) ?_) (fun q => sw_yes rfl ?_)
    · obtain ⟨i, hi, e, e2⟩ := ab_in (c := c) h0 h1 h2 a b
      rw [e, nI_clamp (by omega), hr.1 i hi]
      rw [e2] at hp
      exact ⟨vp_in_nI hi (by decide), hp⟩
    · rw [ab_out h0 h1 h2 q] at hp; exact hp
theorem m_about (hg : gRep c gv ga gf beg fr to wt ft fv) (hr : rRep c st told) {x : Int32} {post : Int32 → Prop} (hp : post (oAbout c x)) : wp_X8_about gv ga gf st x post := by
  show wp_X8_about_0 gv ga gf st post x
  unfold wp_X8_about_0
  refine ⟨fun h0 => ?_, fun h0 => ⟨fun h1 => ?_, fun h1 => ⟨fun h2 => ?_, fun h2 => ?_⟩⟩⟩
  · subst h0; rw [hg.1]; exact hp
  · subst h1; rw [hg.2.1]; exact hp
  · subst h2; rw [hg.2.2.1]; exact hp
  · refine in_i (fun a b => sw_no (by decide) ?_) (fun q => sw_yes rfl ?_)
    · obtain ⟨i, hi, e, e2⟩ := ab_in (c := c) h0 h1 h2 a b
      rw [e, nI_clamp (by omega), hr.1 i hi]
      rw [e2] at hp
      exact ⟨vp_in_nI hi (by decide), hp⟩
    · rw [ab_out h0 h1 h2 q] at hp; exact hp
def oLaw (c : Cf) (x : Int32) : Int32 := match natQ 7 x with
  | none => -102
  | some w => aLaw c w
theorem oLaw_in {x : Int32} {w : Nat} (hw : w ≤ 6) (e : x = nI w) : oLaw c x = aLaw c w := by
  subst e
  unfold oLaw
  have e2 : natQ 7 (nI w) = some w := by
    unfold natQ
    rw [nI_clamp (by omega), if_pos ⟨nI_pos' (by omega), by omega⟩]
  rw [e2]
theorem oLaw_out {x : Int32} (h : x < 0 ∨ 6 < x) : oLaw c x = -102 := by
  unfold oLaw
  cases e : natQ 7 x with
  | none => rfl
  | some j =>
    obtain ⟨hj, rfl⟩ := natQ_some (by decide) e
    rcases h with h | h
    · exact absurd h (nI_pos (by omega))
    · exact absurd h (nI_nlt (a := 6) (b := j) (by omega) (by decide))
theorem w_lawO (hc : cOK c) (hr : rRep c st told) {x : Int32} {post : Int32 → Prop} (hp : post (oLaw c x)) : wp_X7_law st told x post :=
  w_law hc hr (fun w hw e => by rw [oLaw_in hw e] at hp; exact hp) (fun h => by rw [oLaw_out h] at hp; exact hp)
theorem m_lawO (hc : cOK c) (hr : rRep c st told) {x : Int32} {post : Int32 → Prop} (hp : post (oLaw c x)) : wp_X8_law st told x post :=
  m_law hc hr (fun w hw e => by rw [oLaw_in hw e] at hp; exact hp) (fun h => by rw [oLaw_out h] at hp; exact hp)
end OPS2
