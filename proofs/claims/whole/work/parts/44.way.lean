/-! THE WAY to an END, both sides -/
def wUp (L : List AE) (s : Nat) : Nat → Nat
  | 0 => s
  | j + 1 => (en L (wUp L s j)).2.1
def wl (L : List AE) : Nat → Nat → Nat
  | 0, _ => 0
  | f + 1, s => if s = 0 then 0 else wl L f (en L s).2.1 + 1
theorem wUp_s (L : List AE) (s : Nat) : ∀ j, wUp L s (j + 1) = wUp L (en L s).2.1 j
  | 0 => rfl
  | j + 1 => by
    show (en L (wUp L s (j + 1))).2.1 = (en L (wUp L (en L s).2.1 j)).2.1
    rw [wUp_s L s j]
def isW (L : List AE) (s k : Nat) : Prop := wUp L s k = 0 ∧ (∀ j, j < k → 0 < wUp L s j) ∧ k ≤ s ∧ ∀ j, wUp L s j ≤ s ∨ k < j
theorem wl_ok {c : Cf} {L : List AE} (hL : gOK c L) : ∀ (f s : Nat), s ≤ f → s < L.length → isW L s (wl L f s)
  | 0, s, h, _ => by
    have e : s = 0 := by omega
    subst e
    refine ⟨rfl, fun j hj => absurd hj (Nat.not_lt_zero _), Nat.le_refl _, fun j => ?_⟩
    cases j with
    | zero => exact Or.inl (Nat.le_refl _)
    | succ j => exact Or.inr (Nat.succ_pos j)
  | f + 1, s, h, hs => by
    unfold wl
    by_cases e : s = 0
    · rw [if_pos e]
      subst e
      refine ⟨rfl, fun j hj => absurd hj (Nat.not_lt_zero _), Nat.le_refl _, fun j => ?_⟩
      cases j with
      | zero => exact Or.inl (Nat.le_refl _)
      | succ j => exact Or.inr (Nat.succ_pos j)
    · rw [if_neg e]
      have hp := ((hL.2 s hs).2 (by omega)).1
      obtain ⟨h1, h2, h3, h4⟩ := wl_ok hL f (en L s).2.1 (by omega) (by omega)
      refine ⟨by rw [wUp_s]; exact h1, fun j hj => ?_, by omega, fun j => ?_⟩
      · cases j with
        | zero => show 0 < s; omega
        | succ j => rw [wUp_s]; exact h2 j (by omega)
      · cases j with
        | zero => exact Or.inl (Nat.le_refl _)
        | succ j =>
          rw [wUp_s]
          rcases h4 j with q | q
          · exact Or.inl (by omega)
          · exact Or.inr (by omega)
theorem isW_le {L : List AE} {s k j : Nat} (h : isW L s k) (hj : j ≤ k) : wUp L s j ≤ s := (h.2.2.2 j).elim id (fun q => by omega)
section WAY
variable {L : List AE} {s k : Nat} {es pa sp : Nat → Int32}
theorem w_wayLength (hW : isW L s k) (hs : s < L.length) (hl6 : L.length ≤ 600) {e : Nat} (he : e < 600) (hes : es e = nI s) (hpa : ∀ i, i < L.length → pa i = nI (en L i).2.1) {post : Int32 → Prop} (hp : post (nI k)) : wp_X0_wayLength es pa (nI e) post := by
  show wp_X0_wayLength_0 es pa post (nI e)
  unfold wp_X0_wayLength_0
  refine ⟨vp_in_nI he (by decide), ?_⟩
  intro y2 ey
  rw [nI_clamp (by omega), hes] at ey
  subst ey
  unfold wp_X0_wayLength_9
  refine ⟨fun m x2 x3 => ∃ j, j ≤ k ∧ m = k - j ∧ x2 = nI j ∧ x3 = nI (wUp L s j), k, ⟨0, by omega, rfl, rfl, rfl⟩, ?_⟩
  rintro m x2 x3 ⟨j, hj, rfl, rfl, rfl⟩
  have hu := isW_le hW hj
  have hk := hW.2.2.1
  unfold bd_X0_wayLength_9
  refine pk_le (wUp L s j) 0 (fun q => ?_) (fun q => ?_) rfl rfl (by omega) (by omega)
  · have e : j = k := by
      apply Classical.byContradiction
      intro z
      have := hW.2.1 j (by omega)
      omega
    subst e
    exact hp
  · have e : j ≠ k := by
      intro z
      subst z
      have := hW.1
      omega
    refine ⟨fun z => absurd z (nI_ge (a := j) (b := 600) (by omega) (by decide)), fun _ => ⟨vp_in_nI (by omega) (by decide), fun y4 e4 => ⟨k - (j + 1), by omega, j + 1, by omega, rfl, nI_inc j, ?_⟩⟩⟩
    rw [nI_clamp (by omega), hpa _ (by omega)] at e4
    exact e4
theorem w_stepBefore (hW : isW L s k) (hs : s < L.length) (hl6 : L.length ≤ 600) {e : Nat} (he : e < 600) (hes : es e = nI s) (hpa : ∀ i, i < L.length → pa i = nI (en L i).2.1 ∧ sp i = nI (scode (en L i))) {b : Nat} (hb : b < k) {post : Int32 → Prop} (hp : post (nI (scode (en L (wUp L s b))))) : wp_X0_stepBefore es pa sp (nI e) (nI b) post := by
  show wp_X0_stepBefore_0 es pa sp post (nI e) (nI b)
  unfold wp_X0_stepBefore_0
  refine ⟨vp_in_nI he (by decide), ?_⟩
  intro y2 ey
  rw [nI_clamp (by omega), hes] at ey
  subst ey
  have hk := hW.2.2.1
  unfold wp_X0_stepBefore_10
  refine ⟨fun m x3 x4 => ∃ j, j ≤ b ∧ m = b - j ∧ x4 = nI j ∧ x3 = nI (wUp L s j), b, ⟨0, by omega, rfl, rfl, rfl⟩, ?_⟩
  rintro m x3 x4 ⟨j, hj, rfl, rfl, rfl⟩
  have hu := isW_le hW (j := j) (by omega)
  unfold bd_X0_stepBefore_10
  refine pk_le b j (fun q => ?_) (fun q => ?_) rfl rfl (by omega) (by omega)
  · have e : j = b := by omega
    subst e
    unfold wp_X0_stepBefore_33
    rw [nI_clamp (by omega), (hpa _ (by omega)).2]
    exact ⟨vp_in_nI (by omega) (by decide), hp⟩
  · have := hW.2.1 j (by omega)
    refine ⟨fun z => absurd z (nI_nle this (by omega)), fun _ => ⟨vp_in_nI (by omega) (by decide), fun y4 e4 => ⟨b - (j + 1), by omega, j + 1, by omega, rfl, nI_inc j, ?_⟩⟩⟩
    rw [nI_clamp (by omega), (hpa _ (by omega)).1] at e4
    exact e4
variable {par by_ val dbl : Nat → Int32} {hl nd : Int32}
def oWayS (L : List AE) (s k : Nat) (y z : Int32) : Int32 := if y = -1 then nI k else match natQ k y with
  | none => -101
  | some i => if z = 0 then nI (en L (wUp L s (k - 1 - i))).2.2.1 else if z = 1 then nI (en L (wUp L s (k - 1 - i))).2.2.2.1 else if z = 2 then nI (en L (wUp L s (k - 1 - i))).2.2.2.2 else -102
theorem m_way109 (hW : isW L s k) (hs : s < L.length) (hl6 : L.length ≤ 600) (hK : pK L par by_ val dbl) {i : Nat} (hi : i < k) {x3 : Int32} (hx3 : x3 = 0 ∨ x3 = 1 ∨ x3 = 2) {post : Int32 → Prop} (hp : post (oWayS L s k (nI i) x3)) : wp_X8_way_109 hl nd es par by_ val dbl post (nI i) x3 (nI s) (nI (k - 1)) := by
  have hk := hW.2.2.1
  have hp : post (if x3 = 0 then nI (en L (wUp L s (k - 1 - i))).2.2.1 else if x3 = 1 then nI (en L (wUp L s (k - 1 - i))).2.2.2.1 else if x3 = 2 then nI (en L (wUp L s (k - 1 - i))).2.2.2.2 else -102) := by
    unfold oWayS at hp
    rw [if_neg (fun z => by have := nI_pos' (n := i) (by omega); rw [z] at this; exact absurd this (by decide))] at hp
    have e2 : natQ k (nI i) = some i := by
      unfold natQ
      rw [nI_clamp (by omega), if_pos ⟨nI_pos' (by omega), by omega⟩]
    rw [e2] at hp
    exact hp
  unfold wp_X8_way_109
  refine ⟨fun m x5 x6 => ∃ j, j + i ≤ k - 1 ∧ m = k - 1 - i - j ∧ x5 = nI (wUp L s j) ∧ x6 = nI (k - 1 - j), k - 1 - i, ⟨0, by omega, rfl, rfl, rfl⟩, ?_⟩
  rintro m x5 x6 ⟨j, hj, rfl, rfl, rfl⟩
  have hu := isW_le hW (j := j) (by omega)
  have hu0 := hW.2.1 j (by omega)
  obtain ⟨k1, k2, k3, k4⟩ := hK.2 (wUp L s j) hu0 (by omega)
  unfold bd_X8_way_109
  refine pk_le (k - 1 - j) i (fun q => ?_) (fun q => ?_) rfl rfl (by omega) (by omega)
  · have e : k - 1 - i = j := by omega
    rw [e] at hp
    rw [nI_clamp (by omega), k2, k3, k4]
    have hv : vp_in (nI (wUp L s j)) 600 := vp_in_nI (by omega) (by decide)
    rcases hx3 with e | e | e <;> subst e
    · exact ns_yes rfl ⟨hv, hp⟩
    · exact ns_no (by decide) (ns_yes rfl ⟨hv, hp⟩)
    · exact ns_no (by decide) (ns_no (by decide) ⟨hv, hp⟩)
  · refine ⟨vp_in_nI (by omega) (by decide), fun y14 e14 => ⟨k - 1 - i - (j + 1), by omega, j + 1, by omega, rfl, ?_, ?_⟩⟩
    · rw [nI_clamp (by omega), k1] at e14; exact e14
    · rw [nI_dec (by omega)]; congr 1
theorem m_way40 (hW : isW L s k) (hs : s < L.length) (hl6 : L.length ≤ 600) (hK : pK L par by_ val dbl) {e : Nat} (he : e < 600) (hes : es e = nI s) {y z : Int32} (hy : -1 ≤ y) {post : Int32 → Prop} (hp : post (oWayS L s k y z)) : wp_X8_way_40 hl nd es par by_ val dbl post (nI e) y z 0 (nI s) := by
  have hk := hW.2.2.1
  unfold wp_X8_way_40
  refine ⟨fun m x4 x5 => ∃ j, j ≤ k ∧ m = k - j ∧ x4 = nI j ∧ x5 = nI (wUp L s j), k, ⟨0, by omega, rfl, rfl, rfl⟩, ?_⟩
  rintro m x4 x5 ⟨j, hj, rfl, rfl, rfl⟩
  have hu := isW_le hW hj
  unfold bd_X8_way_40
  refine ⟨vp_in_nI (by omega) (by decide), ?_⟩
  rw [nI_clamp (by omega)]
  by_cases ej : j = k
  · subst ej
    rw [hW.1]
    refine sw_yes hK.1 ?_
    by_cases ey : y = -1
    · refine ns_yes ey ?_
      unfold oWayS at hp
      rw [if_pos ey] at hp
      exact hp
    · refine ns_no ey ?_
      cases e1 : natQ j y with
      | none =>
        have hp : post (-101) := by
          unfold oWayS at hp
          rw [if_neg ey, e1] at hp
          exact hp
        refine ⟨fun q => ?_, fun _ => hp⟩
        exfalso
        rcases natQ_out (by omega) e1 with q2 | q2
        · have a1 := Int32.lt_iff_toInt_lt.mp q2
          have a2 := Int32.le_iff_toInt_le.mp hy
          have a3 : y.toInt ≠ (-1 : Int32).toInt := fun z => ey (Int32.toInt_inj.mp z)
          have a4 : (-1 : Int32).toInt = -1 := by decide
          have a5 : (0 : Int32).toInt = 0 := by decide
          omega
        · exact absurd q (Int32.not_lt.mpr q2)
      | some i =>
        obtain ⟨hi, rfl⟩ := natQ_some (by omega) e1
        refine ⟨fun _ => ?_, fun q => absurd (nI_lt hi (by omega)) q⟩
        refine in_q (n := 3) (by decide) rfl (fun w h3 => ns_no (by decide) ?_) (fun h3 => ns_yes rfl ?_)
        · obtain ⟨hw, rfl⟩ := natQ_some (by decide) h3
          refine ⟨vp_in_nI he (by decide), fun y7 e7 => ?_⟩
          rw [nI_clamp (by omega), hes] at e7
          subst e7
          rw [nI_s1 (by omega)]
          refine m_way109 hW hs hl6 hK hi ?_ hp
          rcases (show w = 0 ∨ w = 1 ∨ w = 2 by omega) with e | e | e <;> subst e
          · exact Or.inl rfl
          · exact Or.inr (Or.inl rfl)
          · exact Or.inr (Or.inr rfl)
        · unfold oWayS at hp
          rw [if_neg ey, e1] at hp
          simp only [] at hp
          rw [if_neg (show ¬ z = 0 from natQ_none h3 (j := 0) (by decide) (by decide)), if_neg (show ¬ z = 1 from natQ_none h3 (j := 1) (by decide) (by decide)), if_neg (show ¬ z = 2 from natQ_none h3 (j := 2) (by decide) (by decide))] at hp
          exact hp
  · have hu0 := hW.2.1 j (by omega)
    obtain ⟨k1, k2, k3, k4⟩ := hK.2 (wUp L s j) hu0 (by omega)
    refine sw_no ?_ ⟨vp_in_nI (by omega) (by decide), fun y9 e9 => ⟨k - (j + 1), by omega, j + 1, by omega, rfl, nI_inc j, ?_⟩⟩
    · rw [k1]
      intro z
      have hle : wUp L s (j + 1) ≤ s := isW_le hW (by omega)
      have := nI_pos' (n := (en L (wUp L s j)).2.1) (by
        have : (en L (wUp L s j)).2.1 = wUp L s (j + 1) := rfl
        omega)
      rw [z] at this
      exact absurd this (by decide)
    · rw [e9, k1]; rfl
theorem sc_src {x : AE} (h1 : x.2.2.1 < 256) (h2 : x.2.2.2.1 < 16) (h3 : x.2.2.2.2 < 2) : scode x % 256 = x.2.2.1 ∧ scode x / 256 % 16 = x.2.2.2.1 ∧ scode x / 4096 % 2 = x.2.2.2.2 ∧ scode x < 65536 := by
  unfold scode
  omega
def oWay (o : LK) (x y z : Int32) : Int32 := match o with
  | none => -101
  | some (c, R) => match natQ (aE c R.1).length x with
    | none => -101
    | some e => oWayS R.1 ((aE c R.1).getD e 0) (wl R.1 600 ((aE c R.1).getD e 0)) y z
end WAY
section WAY2
variable {o : LK} {fs fvt fe fd fm fw : Int32} {ev es pa sp : Nat → Int32} {hl ww lv dm gr nd : Int32} {mes mev par by_ val dbl : Nat → Int32} {x y z : Int32} {post : Int32 → Prop}
theorem w_way (hO : lkOK o) (ho : cLk o fs fvt fe fd fm fw ev es pa sp) (hp : post (oWay o x y z)) : wp_X7_way fe es pa sp x y z post := by
  show wp_X7_way_0 fe es pa sp post x y z
  unfold wp_X7_way_0
  unfold oWay at hp
  cases o with
  | none =>
    rw [show fe = nI 0 from ho.2]
    exact hasE_q (by decide) (fun v h => by rw [natQ_0] at h; cases h) (fun h => ns_yes rfl hp)
  | some cr =>
    obtain ⟨c, R⟩ := cr
    obtain ⟨ho1, ho2, ho3⟩ := ho
    obtain ⟨e1, e2, e3, -, e5, e6⟩ := ho1
    obtain ⟨hc, hg, hl6⟩ := hO
    have hlE := aE_len c R.1
    rw [e2]
    refine hasE_q (by omega) (fun e h1 => ns_no (by decide) ?_) (fun h1 => ns_yes rfl ?_)
    · simp only [h1] at hp
      obtain ⟨he, rfl⟩ := natQ_some (by omega) h1
      have hs := ((aE_ok c R.1).1 e he).1
      have hes := (e5 e he).1
      have hW := wl_ok hg 600 ((aE c R.1).getD e 0) (by omega) hs
      generalize (aE c R.1).getD e 0 = s at *
      generalize wl R.1 600 s = k at *
      have hk := hW.2.2.1
      refine w_wayLength hW hs hl6 (by omega) hes (fun i hi => (e6 i hi).1) ?_
      unfold oWayS at hp
      by_cases ey : y = -1
      · rw [if_pos ey] at hp; exact ns_yes ey hp
      · rw [if_neg ey] at hp
        refine ns_no ey (within_q0 (by omega) (fun i h2 => ns_no (by decide) ?_) (fun h2 => ns_yes rfl ?_))
        · simp only [h2] at hp
          obtain ⟨hi, rfl⟩ := natQ_some (by omega) h2
          rw [nI_s1 (by omega), nI_sub' (by omega)]
          refine w_stepBefore hW hs hl6 (by omega) hes e6 (by omega) ?_
          have hu := isW_le hW (j := k - 1 - i) (by omega)
          have hu0 := hW.2.1 (k - 1 - i) (by omega)
          obtain ⟨-, g2, g3, g4⟩ := (hg.2 (wUp R.1 s (k - 1 - i)) (by omega)).2 hu0
          generalize en R.1 (wUp R.1 s (k - 1 - i)) = X at *
          obtain ⟨q1, q2, q3, q4⟩ := sc_src g2 g3 g4
          by_cases z0 : z = 0
          · refine sw_yes z0 ?_
            rw [if_pos z0] at hp
            show wp_X6_source_0 _ (nI (scode X))
            unfold wp_X6_source_0
            rw [ni_and _ 8 (by decide) (by decide), show (2 : Nat) ^ 8 = 256 from rfl, q1]
            exact hp
          · rw [if_neg z0] at hp
            refine sw_no z0 ?_
            by_cases z1 : z = 1
            · refine sw_yes z1 ?_
              rw [if_pos z1] at hp
              show wp_X6_message_0 _ (nI (scode X))
              unfold wp_X6_message_0
              rw [show (8 : Int32) = nI 8 from rfl, shr32 (by omega) (by decide), ni_and _ 4 (by decide) (by decide), show (2 : Nat) ^ 8 = 256 from rfl, show (2 : Nat) ^ 4 = 16 from rfl, q2]
              exact hp
            · rw [if_neg z1] at hp
              refine sw_no z1 ?_
              by_cases z2 : z = 2
              · refine sw_yes z2 ?_
                rw [if_pos z2] at hp
                show wp_X6_doubled_0 _ (nI (scode X))
                unfold wp_X6_doubled_0
                rw [show (12 : Int32) = nI 12 from rfl, shr32 (by omega) (by decide), ni_and _ 1 (by decide) (by decide), show (2 : Nat) ^ 12 = 4096 from rfl, show (2 : Nat) ^ 1 = 2 from rfl, q3]
                exact hp
              · rw [if_neg z2] at hp
                exact sw_no z2 hp
        · simp only [h2] at hp; exact hp
    · simp only [h1] at hp; exact hp
theorem m_way (hO : lkOK o) (ho : mLk o hl ww lv dm gr nd mes mev par by_ val dbl) (hp : post (oWay o x y z)) : wp_X8_way hl nd mes par by_ val dbl x y z post := by
  show wp_X8_way_0 hl nd mes par by_ val dbl post x y z
  unfold wp_X8_way_0
  unfold oWay at hp
  cases o with
  | none => exact sw_yes ho hp
  | some cr =>
    obtain ⟨c, R⟩ := cr
    obtain ⟨e1, e2, e3, e4, e5, e6, e7, e8⟩ := ho
    obtain ⟨hc, hg, hl6⟩ := hO
    have hlE := aE_len c R.1
    refine sw_no (by rw [e1]; decide) ?_
    rw [e6]
    refine in_q0 (by omega) (fun e h1 => sw_no (by decide) ?_) (fun h1 => sw_yes rfl ?_)
    · simp only [h1] at hp
      obtain ⟨he, rfl⟩ := natQ_some (by omega) h1
      have hs := ((aE_ok c R.1).1 e he).1
      have hes := (e7 e he).1
      have hW := wl_ok hg 600 ((aE c R.1).getD e 0) (by omega) hs
      generalize (aE c R.1).getD e 0 = s at *
      generalize wl R.1 600 s = k at *
      refine ⟨fun hy => ⟨vp_in_nI (by omega) (by decide), fun y3 e3 => ?_⟩, fun hy => ?_⟩
      · rw [nI_clamp (by omega), hes] at e3
        subst e3
        exact m_way40 hW hs hl6 e8 (by omega) hes hy hp
      · unfold oWayS at hp
        rw [if_neg (fun q => hy (by rw [q]; exact Int32.le_refl _))] at hp
        cases h2 : natQ k y with
        | none => simp only [h2] at hp; exact hp
        | some i =>
          have hk := hW.2.2.1
          obtain ⟨hi, rfl⟩ := natQ_some (by omega) h2
          exact absurd (Int32.le_trans (by decide) (nI_pos' (n := i) (by omega))) hy
    · simp only [h1] at hp; exact hp
end WAY2
