/-! the small calls, on both sides, by one picture -/
def natQ (n : Nat) (x : Int32) : Option Nat := if 0 ≤ x ∧ x.toNatClampNeg < n then some x.toNatClampNeg else none
theorem natQ_some {n : Nat} (hn : n < 2 ^ 31) {x : Int32} {j : Nat} (h : natQ n x = some j) : j < n ∧ x = nI j := by
  unfold natQ at h
  split at h
  · rename_i q
    obtain ⟨k, hk, e⟩ := nI_of (x := x) (Int32.not_lt.mpr q.1)
    subst e
    rw [nI_clamp hk] at q h
    have : k = j := Option.some.inj h
    subst this
    exact ⟨q.2, rfl⟩
  · cases h
theorem natQ_none {n : Nat} {x : Int32} (h : natQ n x = none) {j : Nat} (hj : j < n) (hj2 : j < 2 ^ 31) : x ≠ nI j := by
  intro e
  subst e
  unfold natQ at h
  rw [if_pos ⟨nI_pos' hj2, by rw [nI_clamp hj2]; exact hj⟩] at h
  cases h
theorem natQ_out {n : Nat} (hn : n < 2 ^ 31) {x : Int32} (h : natQ n x = none) : x < 0 ∨ nI n ≤ x := by
  rcases pk_ix x hn with q | q | ⟨j, hj, e⟩
  · exact Or.inl q
  · exact Or.inr q
  · exact absurd e (natQ_none h hj (by omega))
theorem isValue_q {x : Int32} {post : Int32 → Prop} (h1 : ∀ v, natQ 16 x = some v → post 1) (h0 : natQ 16 x = none → post 0) : wp_X7_isValue x post := by
  cases h : natQ 16 x with
  | none =>
    refine isValue_i (fun a b => ?_) (fun _ => h0 h)
    obtain ⟨j, hj, e⟩ := within_n (n := 15) (by decide) a b
    exact absurd e (natQ_none h (by omega) (by omega))
  | some v =>
    obtain ⟨hv, rfl⟩ := natQ_some (by decide) h
    exact isValue_i (fun _ _ => h1 v h) (fun q => q.elim (fun z => absurd z (nI_pos (by omega))) (fun z => absurd z (nI_nlt (a := 15) (b := v) (by omega) (by decide))))
theorem in_q {n : Nat} (hn : 1 ≤ n ∧ n < 2 ^ 31) {x hi : Int32} (hhi : hi = nI (n - 1)) {post : Int32 → Prop} (h1 : ∀ v, natQ n x = some v → post 1) (h0 : natQ n x = none → post 0) : wp_X8_in x 0 hi post := by
  subst hhi
  cases h : natQ n x with
  | none =>
    refine in_i (fun a b => ?_) (fun _ => h0 h)
    obtain ⟨j, hj, e⟩ := within_n (n := n - 1) (nI_toInt (by omega)) a b
    exact absurd e (natQ_none h (by omega) (by omega))
  | some v =>
    obtain ⟨hv, rfl⟩ := natQ_some hn.2 h
    exact in_i (fun _ _ => h1 v h) (fun q => q.elim (fun z => absurd z (nI_pos (by omega))) (fun z => absurd z (nI_nlt (a := n - 1) (b := v) (by omega) (by omega))))
theorem within_q {n : Nat} (hn : 1 ≤ n ∧ n < 2 ^ 31) {x hi : Int32} (hhi : hi = nI (n - 1)) {post : Int32 → Prop} (h1 : ∀ v, natQ n x = some v → post 1) (h0 : natQ n x = none → post 0) : wp_X7_isWithin x 0 hi post := by
  subst hhi
  cases h : natQ n x with
  | none =>
    refine isWithin_i (fun a b => ?_) (fun _ => h0 h)
    obtain ⟨j, hj, e⟩ := within_n (n := n - 1) (nI_toInt (by omega)) a b
    exact absurd e (natQ_none h (by omega) (by omega))
  | some v =>
    obtain ⟨hv, rfl⟩ := natQ_some hn.2 h
    exact isWithin_i (fun _ _ => h1 v h) (fun q => q.elim (fun z => absurd z (nI_pos (by omega))) (fun z => absurd z (nI_nlt (a := n - 1) (b := v) (by omega) (by omega))))
theorem natQ_0 (x : Int32) : natQ 0 x = none := by unfold natQ; rw [if_neg (by omega)]
theorem m1 : nI 0 - 1 = -1 := by decide
/-- within 0 .. n - 1, where n may be 0 -/
theorem in_q0 {n : Nat} (hn : n < 2 ^ 31) {x : Int32} {post : Int32 → Prop} (h1 : ∀ v, natQ n x = some v → post 1) (h0 : natQ n x = none → post 0) : wp_X8_in x 0 (nI n - 1) post := by
  rcases Nat.eq_zero_or_pos n with e | e
  · subst e
    rw [m1]
    refine in_i (fun a b => ?_) (fun _ => h0 (natQ_0 x))
    exfalso
    have h1 := Int32.not_lt.mp a
    have h2 := Int32.not_lt.mp b
    have := Int32.le_trans h1 h2
    exact absurd this (by decide)
  · exact in_q ⟨e, hn⟩ (nI_s1 e) h1 h0
theorem within_q0 {n : Nat} (hn : n < 2 ^ 31) {x : Int32} {post : Int32 → Prop} (h1 : ∀ v, natQ n x = some v → post 1) (h0 : natQ n x = none → post 0) : wp_X7_isWithin x 0 (nI n - 1) post := by
  rcases Nat.eq_zero_or_pos n with e | e
  · subst e
    rw [m1]
    refine isWithin_i (fun a b => ?_) (fun _ => h0 (natQ_0 x))
    exfalso
    have h1 := Int32.not_lt.mp a
    have h2 := Int32.not_lt.mp b
    have := Int32.le_trans h1 h2
    exact absurd this (by decide)
  · exact within_q ⟨e, hn⟩ (nI_s1 e) h1 h0
theorem hasV_q {n : Nat} (hn : n < 2 ^ 31) {x : Int32} {post : Int32 → Prop} (h1 : ∀ v, natQ n x = some v → post 1) (h0 : natQ n x = none → post 0) : wp_X1_hasVertex (nI n) x post := by
  show wp_X1_hasVertex_0 (nI n) post x
  unfold wp_X1_hasVertex_0 wp_X1_hasVertex_16
  cases h : natQ n x with
  | none =>
    refine ⟨fun _ => h0 h, fun a => ⟨fun _ => h0 h, fun b => ?_⟩⟩
    rcases natQ_out hn h with q | q
    · exact absurd q a
    · exact absurd q b
  | some v =>
    obtain ⟨hv, rfl⟩ := natQ_some hn h
    exact ⟨fun z => absurd z (nI_pos (by omega)), fun _ => ⟨fun z => absurd z (nI_ge hv hn), fun _ => h1 v h⟩⟩
theorem hasE_q {n : Nat} (hn : n < 2 ^ 31) {x : Int32} {post : Int32 → Prop} (h1 : ∀ v, natQ n x = some v → post 1) (h0 : natQ n x = none → post 0) : wp_X0_hasEnd (nI n) x post := by
  show wp_X0_hasEnd_0 (nI n) post x
  unfold wp_X0_hasEnd_0 wp_X0_hasEnd_16
  cases h : natQ n x with
  | none =>
    refine ⟨fun _ => h0 h, fun a => ⟨fun _ => h0 h, fun b => ?_⟩⟩
    rcases natQ_out hn h with q | q
    · exact absurd q a
    · exact absurd q b
  | some v =>
    obtain ⟨hv, rfl⟩ := natQ_some hn h
    exact ⟨fun z => absurd z (nI_pos (by omega)), fun _ => ⟨fun z => absurd z (nI_ge hv hn), fun _ => h1 v h⟩⟩
def cup (c : Cf) (k i v : Nat) : Cf := fun k' i' => if k' = k ∧ i' = i then v else c k' i'
theorem cup_s (c : Cf) (k i v : Nat) : cup c k i v k i = v := by unfold cup; rw [if_pos ⟨rfl, rfl⟩]
theorem cup_k {c : Cf} {k i v k' i' : Nat} (h : k' ≠ k) : cup c k i v k' i' = c k' i' := by unfold cup; rw [if_neg (fun z => h z.1)]
theorem cup_i {c : Cf} {k i v k' i' : Nat} (h : i' ≠ i) : cup c k i v k' i' = c k' i' := by unfold cup; rw [if_neg (fun z => h z.2)]
def oVertex (c : Cf) (x : Int32) : Int32 × Cf := match natQ 16 x with
  | none => (-102, c)
  | some v => if cNV c = 5 then (-104, c) else (nI (cNV c), cup (cup c 1 (cNV c) v) 0 0 (cNV c + 1))
def oArc (c : Cf) (x y z : Int32) : Int32 × Cf := match natQ (cNV c) x with
  | none => (-101, c)
  | some f => match natQ (cNV c) y with
    | none => (-101, c)
    | some t => match natQ 16 z with
      | none => (-102, c)
      | some w => if cNA c = 8 then (-104, c) else (nI (cNA c), cup (cup (cup (cup c 2 (cNA c) f) 3 (cNA c) t) 4 (cNA c) w) 0 1 (cNA c + 1))
def oFirst (c : Cf) (x y : Int32) : Int32 × Cf := match natQ (cNV c) x with
  | none => (-101, c)
  | some t => match natQ 16 y with
    | none => (-102, c)
    | some v => if cNF c = 4 then (-104, c) else (nI (cNF c), cup (cup (cup c 5 (cNF c) t) 6 (cNF c) v) 0 2 (cNF c + 1))
def oValue (c : Cf) (x y : Int32) : Int32 × Cf := match natQ (cNV c) x with
  | none => (-101, c)
  | some i => match natQ 16 y with
    | none => (-102, c)
    | some v => (nI (cBeg c i), cup c 1 i v)
def oTable (c : Cf) (x y z : Int32) : Int32 × Cf := match natQ 16 x with
  | none => (-102, c)
  | some a => match natQ 16 y with
    | none => (-102, c)
    | some b => match natQ 16 z with
      | none => (-102, c)
      | some w => (nI (cTab c (16 * a + b)), cup c 8 (16 * a + b) w)
def oFold (c : Cf) (x y : Int32) : Int32 := match natQ 16 x with
  | none => -102
  | some a => match natQ 16 y with
    | none => -102
    | some b => nI (aFold c a b)
def oOut (c : Cf) (x y : Int32) : Int32 := match natQ 16 x with
  | none => -102
  | some a => match natQ 16 y with
    | none => -102
    | some b => nI (aOut c a b)
section OPS
variable {c : Cf} {gv ga gf : Int32} {beg fr to wt ft fv st told : Nat → Int32}
theorem oVertex_ok (hc : cOK c) (x : Int32) : cOK (oVertex c x).2 := by
  unfold oVertex
  cases h : natQ 16 x with
  | none => exact hc
  | some v =>
    obtain ⟨hv, -⟩ := natQ_some (by decide) h
    show cOK (if cNV c = 5 then ((-104 : Int32), c) else _).2
    by_cases e : cNV c = 5
    · rw [if_pos e]; exact hc
    · rw [if_neg e]
      obtain ⟨⟨h1, h2, h3⟩, h4, h5, h6, h7, h8⟩ := hc
      refine ⟨⟨?_, h2, h3⟩, fun i hi => ?_, fun i hi => ?_, fun i hi => ?_, h7, h8⟩
      · show cup _ 0 0 (cNV c + 1) 0 0 ≤ 5; rw [cup_s]; omega
      · have hi : i < cNV c + 1 := hi
        show cup (cup c 1 (cNV c) v) 0 0 (cNV c + 1) 1 i < 16
        rw [cup_k (by decide)]
        by_cases e2 : i = cNV c
        · rw [e2, cup_s]; exact hv
        · rw [cup_i e2]; exact h4 i (by omega)
      · have := h5 i hi
        refine ⟨?_, ?_, this.2.2⟩
        · show c 2 i < cNV c + 1; omega
        · show c 3 i < cNV c + 1; omega
      · have := h6 i hi
        refine ⟨?_, this.2⟩
        show c 5 i < cNV c + 1; omega
theorem upd_nv {beg : Nat → Int32} {n v : Nat} {f : Nat → Nat} (h : ∀ i, i < n → beg i = nI (f i)) : ∀ i, i < n + 1 → upd beg n (nI v) i = nI (if i = n then v else f i) := by
  intro i hi
  by_cases e : i = n
  · subst e; rw [pk_us, if_pos rfl]
  · rw [pk_un e, if_neg e]; exact h i (by omega)
theorem gRep_vertex (hg : gRep c gv ga gf beg fr to wt ft fv) {v : Nat} : gRep (cup (cup c 1 (cNV c) v) 0 0 (cNV c + 1)) (nI (cNV c + 1)) ga gf (upd beg (cNV c) (nI v)) fr to wt ft fv := by
  obtain ⟨e1, e2, e3, e4, e5, e6⟩ := hg
  refine ⟨rfl, e2, e3, fun i hi => ?_, e5, e6⟩
  rw [upd_nv (f := cBeg c) e4 i hi]
  show nI _ = nI (cup (cup c 1 (cNV c) v) 0 0 (cNV c + 1) 1 i)
  rw [cup_k (by decide)]
  by_cases e : i = cNV c
  · rw [e, cup_s, if_pos rfl]
  · rw [cup_i e, if_neg e]
theorem w_vertex (hc : cOK c) (hg : gRep c gv ga gf beg fr to wt ft fv) {x : Int32} {post : Int32 → Int32 → (Nat → Int32) → Prop} (hp : ∀ gv' beg', gRep (oVertex c x).2 gv' ga gf beg' fr to wt ft fv → post (oVertex c x).1 gv' beg') : wp_X7_vertex gv beg x post := by
  have h5 : cNV c ≤ 5 := hc.1.1
  show wp_X7_vertex_0 post x gv beg
  unfold wp_X7_vertex_0
  unfold oVertex at hp
  refine isValue_q (fun v h => ?_) (fun h => ?_)
  · rw [h] at hp
    obtain ⟨hv, rfl⟩ := natQ_some (by decide) h
    refine ns_no (by decide) ?_
    show wp_X1_addVertex_0 _ (nI v) gv beg
    unfold wp_X1_addVertex_0
    have eg := hg.1
    rw [eg]
    refine pk_lt (cNV c) 5 (fun q => ?_) (fun q => ?_) rfl rfl (by omega) (by decide)
    · refine ⟨vp_in_nI q (by decide), ?_⟩
      rw [nI_inc, nI_s1 (by omega), nI_clamp (by omega)]
      have := hp (nI (cNV c + 1)) (upd beg (cNV c) (nI v))
      simp only [if_neg (show ¬ cNV c = 5 by omega)] at this
      exact this (gRep_vertex hg)
    · rw [← eg]
      have := hp gv beg
      simp only [if_pos (show cNV c = 5 by omega)] at this
      exact this hg
  · rw [h] at hp
    exact ns_yes rfl (hp _ _ hg)
theorem m_vertex (hc : cOK c) (hg : gRep c gv ga gf beg fr to wt ft fv) {x : Int32} {post : Int32 → Int32 → (Nat → Int32) → Prop} (hp : ∀ gv' beg', gRep (oVertex c x).2 gv' ga gf beg' fr to wt ft fv → post (oVertex c x).1 gv' beg') : wp_X8_vertex gv beg x post := by
  have h5 : cNV c ≤ 5 := hc.1.1
  show wp_X8_vertex_0 post x gv beg
  unfold wp_X8_vertex_0
  unfold oVertex at hp
  refine in_q (n := 16) (by decide) rfl (fun v h => ?_) (fun h => ?_)
  · rw [h] at hp
    obtain ⟨hv, rfl⟩ := natQ_some (by decide) h
    refine ns_no (by decide) ?_
    have eg := hg.1
    rw [eg]
    by_cases q : cNV c = 5
    · refine ns_yes (by rw [q]; rfl) ?_
      rw [← eg]
      have := hp gv beg
      simp only [if_pos q] at this
      exact this hg
    · refine ns_no (fun z => q ((nI_eq (a := cNV c) (b := 5) (by omega) (by decide)).mp z)) ⟨vp_in_nI (by omega) (by decide), ?_⟩
      rw [nI_inc, nI_s1 (by omega), nI_clamp (by omega)]
      have := hp (nI (cNV c + 1)) (upd beg (cNV c) (nI v))
      simp only [if_neg q] at this
      exact this (gRep_vertex hg)
  · rw [h] at hp
    exact ns_yes rfl (hp _ _ hg)
end OPS
