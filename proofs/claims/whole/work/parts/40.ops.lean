/-! the small calls, on both sides, by one picture -/
def natQ (n : Nat) (x : Int32) : Option Nat := if 0 ≤ x ∧ x.toNatClampNeg < n then some x.toNatClampNeg else none
theorem natQ_some {n : Nat} (hn : n < 2 ^ 31) {x : Int32} {j : Nat} (h : natQ n x = some j) : j < n ∧ x = nI j := by
  unfold natQ at h
  split at h
  · rename_i q
    obtain ⟨k, hk, e⟩ := nI_of (x := x) (Int32.not_lt.mpr q.1)
    subst e
    rw [nI_clamp hk] at q h
    have : k = j := Option.some.inj h
    subst this
    exact ⟨q.2, rfl⟩
  · cases h
theorem natQ_none {n : Nat} {x : Int32} (h : natQ n x = none) {j : Nat} (hj : j < n) (hj2 : j < 2 ^ 31) : x ≠ nI j := by
  intro e
  subst e
  unfold natQ at h
  rw [if_pos ⟨nI_pos' hj2, by rw [nI_clamp hj2]; exact hj⟩] at h
  cases h
theorem natQ_out {n : Nat} (hn : n < 2 ^ 31) {x : Int32} (h : natQ n x = none) : x < 0 ∨ nI n ≤ x := by
  rcases pk_ix x hn with q | q | ⟨j, hj, e⟩
  · exact Or.inl q
  · exact Or.inr q
  · exact absurd e (natQ_none h hj (by omega))
theorem isValue_q {x : Int32} {post : Int32 → Prop} (h1 : ∀ v, natQ 16 x = some v → post 1) (h0 : natQ 16 x = none → post 0) : wp_X7_isValue x post := by
  cases h : natQ 16 x with
  | none =>
    refine isValue_i (fun a b => ?_) (fun _ => h0 h)
    obtain ⟨j, hj, e⟩ := within_n (n := 15) (by decide) a b
    exact absurd e (natQ_none h (by omega) (by omega))
  | some v =>
    obtain ⟨hv, rfl⟩ := natQ_some (by decide) h
    exact isValue_i (fun _ _ => h1 v h) (fun q => q.elim (fun z => absurd z (nI_pos (by omega))) (fun z => absurd z (nI_nlt (a := 15) (b := v) (by omega) (by decide))))
theorem in_q {n : Nat} (hn : 1 ≤ n ∧ n < 2 ^ 31) {x hi : Int32} (hhi : hi = nI (n - 1)) {post : Int32 → Prop} (h1 : ∀ v, natQ n x = some v → post 1) (h0 : natQ n x = none → post 0) : wp_X8_in x 0 hi post := by
  subst hhi
  cases h : natQ n x with
  | none =>
    refine in_i (fun a b => ?_) (fun _ => h0 h)
    obtain ⟨j, hj, e⟩ := within_n (n := n - 1) (nI_toInt (by omega)) a b
    exact absurd e (natQ_none h (by omega) (by omega))
  | some v =>
    obtain ⟨hv, rfl⟩ := natQ_some hn.2 h
    exact in_i (fun _ _ => h1 v h) (fun q => q.elim (fun z => absurd z (nI_pos (by omega))) (fun z => absurd z (nI_nlt (a := n - 1) (b := v) (by omega) (by omega))))
theorem within_q {n : Nat} (hn : 1 ≤ n ∧ n < 2 ^ 31) {x hi : Int32} (hhi : hi = nI (n - 1)) {post : Int32 → Prop} (h1 : ∀ v, natQ n x = some v → post 1) (h0 : natQ n x = none → post 0) : wp_X7_isWithin x 0 hi post := by
  subst hhi
  cases h : natQ n x with
  | none =>
    refine isWithin_i (fun a b => ?_) (fun _ => h0 h)
    obtain ⟨j, hj, e⟩ := within_n (n := n - 1) (nI_toInt (by omega)) a b
    exact absurd e (natQ_none h (by omega) (by omega))
  | some v =>
    obtain ⟨hv, rfl⟩ := natQ_some hn.2 h
    exact isWithin_i (fun _ _ => h1 v h) (fun q => q.elim (fun z => absurd z (nI_pos (by omega))) (fun z => absurd z (nI_nlt (a := n - 1) (b := v) (by omega) (by omega))))
theorem natQ_0 (x : Int32) : natQ 0 x = none := by unfold natQ; rw [if_neg (by omega)]
theorem m1 : nI 0 - 1 = -1 := by decide
/-- within 0 .. n - 1, where n may be 0 -/
theorem in_q0 {n : Nat} (hn : n < 2 ^ 31) {x : Int32} {post : Int32 → Prop} (h1 : ∀ v, natQ n x = some v → post 1) (h0 : natQ n x = none → post 0) : wp_X8_in x 0 (nI n - 1) post := by
  rcases Nat.eq_zero_or_pos n with e | e
  · subst e
    rw [m1]
    refine in_i (fun a b => ?_) (fun _ => h0 (natQ_0 x))
    exfalso
    have h1 := Int32.not_lt.mp a
    have h2 := Int32.not_lt.mp b
    have := Int32.le_trans h1 h2
    exact absurd this (by decide)
  · exact in_q ⟨e, hn⟩ (nI_s1 e) h1 h0
theorem within_q0 {n : Nat} (hn : n < 2 ^ 31) {x : Int32} {post : Int32 → Prop} (h1 : ∀ v, natQ n x = some v → post 1) (h0 : natQ n x = none → post 0) : wp_X7_isWithin x 0 (nI n - 1) post := by
  rcases Nat.eq_zero_or_pos n with e | e
  · subst e
    rw [m1]
    refine isWithin_i (fun a b => ?_) (fun _ => h0 (natQ_0 x))
    exfalso
    have h1 := Int32.not_lt.mp a
    have h2 := Int32.not_lt.mp b
    have := Int32.le_trans h1 h2
    exact absurd this (by decide)
  · exact within_q ⟨e, hn⟩ (nI_s1 e) h1 h0
theorem hasV_q {n : Nat} (hn : n < 2 ^ 31) {x : Int32} {post : Int32 → Prop} (h1 : ∀ v, natQ n x = some v → post 1) (h0 : natQ n x = none → post 0) : wp_X1_hasVertex (nI n) x post := by
  show wp_X1_hasVertex_0 (nI n) post x
  unfold wp_X1_hasVertex_0 wp_X1_hasVertex_16
  cases h : natQ n x with
  | none =>
    refine ⟨fun _ => h0 h, fun a => ⟨fun _ => h0 h, fun b => ?_⟩⟩
    rcases natQ_out hn h with q | q
    · exact absurd q a
    · exact absurd q b
  | some v =>
    obtain ⟨hv, rfl⟩ := natQ_some hn h
    exact ⟨fun z => absurd z (nI_pos (by omega)), fun _ => ⟨fun z => absurd z (nI_ge hv hn), fun _ => h1 v h⟩⟩
theorem hasE_q {n : Nat} (hn : n < 2 ^ 31) {x : Int32} {post : Int32 → Prop} (h1 : ∀ v, natQ n x = some v → post 1) (h0 : natQ n x = none → post 0) : wp_X0_hasEnd (nI n) x post := by
  show wp_X0_hasEnd_0 (nI n) post x
  unfold wp_X0_hasEnd_0 wp_X0_hasEnd_16
  cases h : natQ n x with
  | none =>
    refine ⟨fun _ => h0 h, fun a => ⟨fun _ => h0 h, fun b => ?_⟩⟩
    rcases natQ_out hn h with q | q
    · exact absurd q a
    · exact absurd q b
  | some v =>
    obtain ⟨hv, rfl⟩ := natQ_some hn h
    exact ⟨fun z => absurd z (nI_pos (by omega)), fun _ => ⟨fun z => absurd z (nI_ge hv hn), fun _ => h1 v h⟩⟩
def cup (c : Cf) (k i v : Nat) : Cf := fun k' i' => if k' = k ∧ i' = i then v else c k' i'
theorem cup_s (c : Cf) (k i v : Nat) : cup c k i v k i = v := by unfold cup; rw [if_pos ⟨rfl, rfl⟩]
theorem cup_k {c : Cf} {k i v k' i' : Nat} (h : k' ≠ k) : cup c k i v k' i' = c k' i' := by unfold cup; rw [if_neg (fun z => h z.1)]
theorem cup_i {c : Cf} {k i v k' i' : Nat} (h : i' ≠ i) : cup c k i v k' i' = c k' i' := by unfold cup; rw [if_neg (fun z => h z.2)]
def oVertex (c : Cf) (x : Int32) : Int32 × Cf := match natQ 16 x with
  | none => (-102, c)
  | some v => if cNV c = 5 then (-104, c) else (nI (cNV c), cup (cup c 1 (cNV c) v) 0 0 (cNV c + 1))
def oArc (c : Cf) (x y z : Int32) : Int32 × Cf := match natQ (cNV c) x with
  | none => (-101, c)
  | some f => match natQ (cNV c) y with
    | none => (-101, c)
    | some t => match natQ 16 z with
      | none => (-102, c)
      | some w => if cNA c = 8 then (-104, c) else (nI (cNA c), cup (cup (cup (cup c 2 (cNA c) f) 3 (cNA c) t) 4 (cNA c) w) 0 1 (cNA c + 1))
def oFirst (c : Cf) (x y : Int32) : Int32 × Cf := match natQ (cNV c) x with
  | none => (-101, c)
  | some t => match natQ 16 y with
    | none => (-102, c)
    | some v => if cNF c = 4 then (-104, c) else (nI (cNF c), cup (cup (cup c 5 (cNF c) t) 6 (cNF c) v) 0 2 (cNF c + 1))
def oValue (c : Cf) (x y : Int32) : Int32 × Cf := match natQ (cNV c) x with
  | none => (-101, c)
  | some i => match natQ 16 y with
    | none => (-102, c)
    | some v => (nI (cBeg c i), cup c 1 i v)
def oTable (c : Cf) (x y z : Int32) : Int32 × Cf := match natQ 16 x with
  | none => (-102, c)
  | some a => match natQ 16 y with
    | none => (-102, c)
    | some b => match natQ 16 z with
      | none => (-102, c)
      | some w => (nI (cTab c (16 * a + b)), cup c 8 (16 * a + b) w)
def oFold (c : Cf) (x y : Int32) : Int32 := match natQ 16 x with
  | none => -102
  | some a => match natQ 16 y with
    | none => -102
    | some b => nI (aFold c a b)
def oOut (c : Cf) (x y : Int32) : Int32 := match natQ 16 x with
  | none => -102
  | some a => match natQ 16 y with
    | none => -102
    | some b => nI (aOut c a b)
section OPS
variable {c : Cf} {gv ga gf : Int32} {beg fr to wt ft fv st told : Nat → Int32}
theorem oVertex_ok (hc : cOK c) (x : Int32) : cOK (oVertex c x).2 := by
  unfold oVertex
  cases h : natQ 16 x with
  | none => exact hc
  | some v =>
    obtain ⟨hv, -⟩ := natQ_some (by decide) h
    show cOK (if cNV c = 5 then ((-104 : Int32), c) else _).2
    by_cases e : cNV c = 5
    · rw [if_pos e]; exact hc
    · rw [if_neg e]
      obtain ⟨⟨h1, h2, h3⟩, h4, h5, h6, h7, h8⟩ := hc
      refine ⟨⟨?_, h2, h3⟩, fun i hi => ?_, fun i hi => ?_, fun i hi => ?_, h7, h8⟩
      · show cNV c + 1 ≤ 5; omega
      · have hi : i < cNV c + 1 := hi
        show cup (cup c 1 (cNV c) v) 0 0 (cNV c + 1) 1 i < 16
        rw [cup_k (by decide)]
        by_cases e2 : i = cNV c
        · rw [e2, cup_s]; exact hv
        · rw [cup_i e2]; exact h4 i (by omega)
      · have := h5 i hi
        exact ⟨Nat.lt_succ_of_lt this.1, Nat.lt_succ_of_lt this.2.1, this.2.2⟩
      · have := h6 i hi
        exact ⟨Nat.lt_succ_of_lt this.1, this.2⟩
theorem upd_nv {beg : Nat → Int32} {n v : Nat} {f : Nat → Nat} (h : ∀ i, i < n → beg i = nI (f i)) : ∀ i, i < n + 1 → upd beg n (nI v) i = nI (if i = n then v else f i) := by
  intro i hi
  by_cases e : i = n
  · subst e; rw [pk_us, if_pos rfl]
  · rw [pk_un e, if_neg e]; exact h i (by omega)
theorem gRep_vertex (hg : gRep c gv ga gf beg fr to wt ft fv) {v : Nat} : gRep (cup (cup c 1 (cNV c) v) 0 0 (cNV c + 1)) (nI (cNV c + 1)) ga gf (upd beg (cNV c) (nI v)) fr to wt ft fv := by
  obtain ⟨e1, e2, e3, e4, e5, e6⟩ := hg
  refine ⟨rfl, e2, e3, fun i hi => ?_, e5, e6⟩
  rw [upd_nv (f := cBeg c) e4 i hi]
  show nI _ = nI (cup (cup c 1 (cNV c) v) 0 0 (cNV c + 1) 1 i)
  rw [cup_k (by decide)]
  by_cases e : i = cNV c
  · rw [e, cup_s, if_pos rfl]
  · rw [cup_i e, if_neg e]
theorem w_vertex (hc : cOK c) (hg : gRep c gv ga gf beg fr to wt ft fv) {x : Int32} {post : Int32 → Int32 → (Nat → Int32) → Prop} (hp : ∀ gv' beg', gRep (oVertex c x).2 gv' ga gf beg' fr to wt ft fv → post (oVertex c x).1 gv' beg') : wp_X7_vertex gv beg x post := by
  have h5 : cNV c ≤ 5 := hc.1.1
  show wp_X7_vertex_0 post x gv beg
  unfold wp_X7_vertex_0
  unfold oVertex at hp
  refine isValue_q (fun v h => ?_) (fun h => ?_)
  · rw [h] at hp
    obtain ⟨hv, rfl⟩ := natQ_some (by decide) h
    refine ns_no (by decide) ?_
    show wp_X1_addVertex_0 _ (nI v) gv beg
    unfold wp_X1_addVertex_0
    have eg := hg.1
    rw [eg]
    refine pk_lt (cNV c) 5 (fun q => ?_) (fun q => ?_) rfl rfl (by omega) (by decide)
    · refine ⟨vp_in_nI q (by decide), ?_⟩
      rw [nI_inc, nI_s1 (by omega), nI_clamp (by omega)]
      have := hp (nI (cNV c + 1)) (upd beg (cNV c) (nI v))
      simp only [if_neg (show ¬ cNV c = 5 by omega)] at this
      exact this (gRep_vertex hg)
    · rw [← eg]
      have := hp gv beg
      simp only [if_pos (show cNV c = 5 by omega)] at this
      exact this hg
  · rw [h] at hp
    exact ns_yes rfl (hp _ _ hg)
theorem m_vertex (hc : cOK c) (hg : gRep c gv ga gf beg fr to wt ft fv) {x : Int32} {post : Int32 → Int32 → (Nat → Int32) → Prop} (hp : ∀ gv' beg', gRep (oVertex c x).2 gv' ga gf beg' fr to wt ft fv → post (oVertex c x).1 gv' beg') : wp_X8_vertex gv beg x post := by
  have h5 : cNV c ≤ 5 := hc.1.1
  show wp_X8_vertex_0 post x gv beg
  unfold wp_X8_vertex_0
  unfold oVertex at hp
  refine in_q (n := 16) (by decide) rfl (fun v h => ?_) (fun h => ?_)
  · rw [h] at hp
    obtain ⟨hv, rfl⟩ := natQ_some (by decide) h
    refine ns_no (by decide) ?_
    have eg := hg.1
    rw [eg]
    by_cases q : cNV c = 5
    · refine ns_yes (by rw [q]; rfl) ?_
      rw [← eg]
      have := hp gv beg
      simp only [if_pos q] at this
      exact this hg
    · refine ns_no (fun z => q ((nI_eq (a := cNV c) (b := 5) (by omega) (by decide)).mp z)) ⟨vp_in_nI (by omega) (by decide), ?_⟩
      rw [nI_inc, nI_s1 (by omega), nI_clamp (by omega)]
      have := hp (nI (cNV c + 1)) (upd beg (cNV c) (nI v))
      simp only [if_neg q] at this
      exact this (gRep_vertex hg)
  · rw [h] at hp
    exact ns_yes rfl (hp _ _ hg)
theorem oArc_ok (hc : cOK c) (x y z : Int32) : cOK (oArc c x y z).2 := by
  obtain ⟨⟨h1, h2, h3⟩, h4, h5, h6, h7, h8⟩ := id hc
  unfold oArc
  cases e1 : natQ (cNV c) x with
  | none => exact hc
  | some f =>
    obtain ⟨hf, -⟩ := natQ_some (by omega) e1
    cases e2 : natQ (cNV c) y with
    | none => exact hc
    | some t =>
      obtain ⟨ht, -⟩ := natQ_some (by omega) e2
      cases e3 : natQ 16 z with
      | none => exact hc
      | some w =>
        obtain ⟨hw, -⟩ := natQ_some (by decide) e3
        show cOK (if cNA c = 8 then ((-104 : Int32), c) else _).2
        by_cases e : cNA c = 8
        · rw [if_pos e]; exact hc
        · rw [if_neg e]
          refine ⟨⟨h1, ?_, h3⟩, h4, fun i hi => ?_, h6, h7, h8⟩
          · show cNA c + 1 ≤ 8; omega
          · have hi : i < cNA c + 1 := hi
            show (if 2 = 2 ∧ i = cNA c then f else c 2 i) < cNV c ∧ (if 3 = 3 ∧ i = cNA c then t else c 3 i) < cNV c ∧ (if 4 = 4 ∧ i = cNA c then w else c 4 i) < 16
            by_cases e : i = cNA c
            · rw [if_pos ⟨rfl, e⟩, if_pos ⟨rfl, e⟩, if_pos ⟨rfl, e⟩]; exact ⟨hf, ht, hw⟩
            · rw [if_neg (fun z => e z.2), if_neg (fun z => e z.2), if_neg (fun z => e z.2)]; exact h5 i (by omega)
theorem gRep_arc (hg : gRep c gv ga gf beg fr to wt ft fv) {f t w : Nat} : gRep (cup (cup (cup (cup c 2 (cNA c) f) 3 (cNA c) t) 4 (cNA c) w) 0 1 (cNA c + 1)) gv (nI (cNA c + 1)) gf beg (upd fr (cNA c) (nI f)) (upd to (cNA c) (nI t)) (upd wt (cNA c) (nI w)) ft fv := by
  obtain ⟨e1, e2, e3, e4, e5, e6⟩ := hg
  refine ⟨e1, rfl, e3, e4, fun i hi => ?_, e6⟩
  rw [upd_nv (f := cFr c) (fun i h => (e5 i h).1) i hi, upd_nv (f := cTo c) (fun i h => (e5 i h).2.1) i hi, upd_nv (f := cWt c) (fun i h => (e5 i h).2.2) i hi]
  show nI _ = nI (if 2 = 2 ∧ i = cNA c then f else c 2 i) ∧ nI _ = nI (if 3 = 3 ∧ i = cNA c then t else c 3 i) ∧ nI _ = nI (if 4 = 4 ∧ i = cNA c then w else c 4 i)
  by_cases e : i = cNA c
  · simp [e]
  · simp [e]
theorem w_arc (hc : cOK c) (hg : gRep c gv ga gf beg fr to wt ft fv) {x y z : Int32} {post : Int32 → Int32 → (Nat → Int32) → (Nat → Int32) → (Nat → Int32) → Prop} (hp : ∀ ga' fr' to' wt', gRep (oArc c x y z).2 gv ga' gf beg fr' to' wt' ft fv → post (oArc c x y z).1 ga' fr' to' wt') : wp_X7_arc gv ga fr to wt x y z post := by
  have h5 : cNV c ≤ 5 := hc.1.1
  have h8 : cNA c ≤ 8 := hc.1.2.1
  have eg := hg.1
  have ea := hg.2.1
  show wp_X7_arc_0 gv post x y z ga fr to wt
  unfold wp_X7_arc_0
  unfold oArc at hp
  rw [eg]
  refine hasV_q (by omega) (fun f h1 => sw_no (by decide) ?_) (fun h1 => ?_)
  · rw [h1] at hp
    obtain ⟨hf, rfl⟩ := natQ_some (by omega) h1
    refine hasV_q (by omega) (fun t h2 => ns_no (by decide) ?_) (fun h2 => ?_)
    · simp only [h2] at hp
      obtain ⟨ht, rfl⟩ := natQ_some (by omega) h2
      refine isValue_q (fun w h3 => ns_no (by decide) ?_) (fun h3 => ?_)
      · simp only [h3] at hp
        obtain ⟨hw, rfl⟩ := natQ_some (by decide) h3
        show wp_X1_addArc_0 _ (nI f) (nI t) (nI w) ga fr to wt
        unfold wp_X1_addArc_0
        rw [ea]
        refine pk_lt (cNA c) 8 (fun q => ?_) (fun q => ?_) rfl rfl (by omega) (by decide)
        · refine ⟨vp_in_nI q (by decide), vp_in_nI q (by decide), vp_in_nI q (by decide), ?_⟩
          rw [nI_inc, nI_s1 (by omega), nI_clamp (by omega)]
          simp only [if_neg (show ¬ cNA c = 8 by omega)] at hp
          exact hp _ _ _ _ (gRep_arc hg)
        · rw [← ea]
          simp only [if_pos (show cNA c = 8 by omega)] at hp
          exact hp _ _ _ _ hg
      · simp only [h3] at hp
        exact ns_yes rfl (hp _ _ _ _ hg)
    · simp only [h2] at hp
      exact ns_yes rfl (hp _ _ _ _ hg)
  · rw [h1] at hp
    exact sw_yes rfl (hp _ _ _ _ hg)
theorem m_arc (hc : cOK c) (hg : gRep c gv ga gf beg fr to wt ft fv) {x y z : Int32} {post : Int32 → Int32 → (Nat → Int32) → (Nat → Int32) → (Nat → Int32) → Prop} (hp : ∀ ga' fr' to' wt', gRep (oArc c x y z).2 gv ga' gf beg fr' to' wt' ft fv → post (oArc c x y z).1 ga' fr' to' wt') : wp_X8_arc gv ga fr to wt x y z post := by
  have h5 : cNV c ≤ 5 := hc.1.1
  have h8 : cNA c ≤ 8 := hc.1.2.1
  have eg := hg.1
  have ea := hg.2.1
  show wp_X8_arc_0 gv post x y z ga fr to wt
  unfold wp_X8_arc_0
  unfold oArc at hp
  rw [eg]
  refine in_q0 (by omega) (fun f h1 => sw_no (by decide) ?_) (fun h1 => ?_)
  · rw [h1] at hp
    obtain ⟨hf, rfl⟩ := natQ_some (by omega) h1
    refine in_q0 (by omega) (fun t h2 => ns_no (by decide) ?_) (fun h2 => ?_)
    · simp only [h2] at hp
      obtain ⟨ht, rfl⟩ := natQ_some (by omega) h2
      refine in_q (n := 16) (by decide) rfl (fun w h3 => ns_no (by decide) ?_) (fun h3 => ?_)
      · simp only [h3] at hp
        obtain ⟨hw, rfl⟩ := natQ_some (by decide) h3
        rw [ea]
        by_cases q : cNA c = 8
        · refine ns_yes (by rw [q]; rfl) ?_
          rw [← ea]
          simp only [if_pos q] at hp
          exact hp _ _ _ _ hg
        · refine ns_no (fun z => q ((nI_eq (a := cNA c) (b := 8) (by omega) (by decide)).mp z)) ⟨vp_in_nI (by omega) (by decide), vp_in_nI (by omega) (by decide), vp_in_nI (by omega) (by decide), ?_⟩
          rw [nI_inc, nI_s1 (by omega), nI_clamp (by omega)]
          simp only [if_neg q] at hp
          exact hp _ _ _ _ (gRep_arc hg)
      · simp only [h3] at hp
        exact ns_yes rfl (hp _ _ _ _ hg)
    · simp only [h2] at hp
      exact ns_yes rfl (hp _ _ _ _ hg)
  · rw [h1] at hp
    exact sw_yes rfl (hp _ _ _ _ hg)
theorem oFirst_ok (hc : cOK c) (x y : Int32) : cOK (oFirst c x y).2 := by
  obtain ⟨⟨h1, h2, h3⟩, h4, h5, h6, h7, h8⟩ := id hc
  unfold oFirst
  cases e1 : natQ (cNV c) x with
  | none => exact hc
  | some f =>
    obtain ⟨hf, -⟩ := natQ_some (by omega) e1
    cases e3 : natQ 16 y with
    | none => exact hc
    | some w =>
      obtain ⟨hw, -⟩ := natQ_some (by decide) e3
      show cOK (if cNF c = 4 then ((-104 : Int32), c) else _).2
      by_cases e : cNF c = 4
      · rw [if_pos e]; exact hc
      · rw [if_neg e]
        refine ⟨⟨h1, h2, ?_⟩, h4, h5, fun i hi => ?_, h7, h8⟩
        · show cNF c + 1 ≤ 4; omega
        · have hi : i < cNF c + 1 := hi
          show (if 5 = 5 ∧ i = cNF c then f else c 5 i) < cNV c ∧ (if 6 = 6 ∧ i = cNF c then w else c 6 i) < 16
          by_cases e : i = cNF c
          · rw [if_pos ⟨rfl, e⟩, if_pos ⟨rfl, e⟩]; exact ⟨hf, hw⟩
          · rw [if_neg (fun z => e z.2), if_neg (fun z => e z.2)]; exact h6 i (by omega)
theorem gRep_first (hg : gRep c gv ga gf beg fr to wt ft fv) {f w : Nat} : gRep (cup (cup (cup c 5 (cNF c) f) 6 (cNF c) w) 0 2 (cNF c + 1)) gv ga (nI (cNF c + 1)) beg fr to wt (upd ft (cNF c) (nI f)) (upd fv (cNF c) (nI w)) := by
  obtain ⟨e1, e2, e3, e4, e5, e6⟩ := hg
  refine ⟨e1, e2, rfl, e4, e5, fun i hi => ?_⟩
  rw [upd_nv (f := cFT c) (fun i h => (e6 i h).1) i hi, upd_nv (f := cFV c) (fun i h => (e6 i h).2) i hi]
  show nI _ = nI (if 5 = 5 ∧ i = cNF c then f else c 5 i) ∧ nI _ = nI (if 6 = 6 ∧ i = cNF c then w else c 6 i)
  by_cases e : i = cNF c
  · simp [e]
  · simp [e]
theorem w_first (hc : cOK c) (hg : gRep c gv ga gf beg fr to wt ft fv) {x y : Int32} {post : Int32 → Int32 → (Nat → Int32) → (Nat → Int32) → Prop} (hp : ∀ gf' ft' fv', gRep (oFirst c x y).2 gv ga gf' beg fr to wt ft' fv' → post (oFirst c x y).1 gf' ft' fv') : wp_X7_first gv gf ft fv x y post := by
  have h5 : cNV c ≤ 5 := hc.1.1
  have h8 : cNF c ≤ 4 := hc.1.2.2
  have eg := hg.1
  have ea := hg.2.2.1
  show wp_X7_first_0 gv post x y gf ft fv
  unfold wp_X7_first_0
  unfold oFirst at hp
  rw [eg]
  refine hasV_q (by omega) (fun f h1 => ns_no (by decide) ?_) (fun h1 => ?_)
  · rw [h1] at hp
    obtain ⟨hf, rfl⟩ := natQ_some (by omega) h1
    refine isValue_q (fun w h3 => ns_no (by decide) ?_) (fun h3 => ?_)
    · simp only [h3] at hp
      obtain ⟨hw, rfl⟩ := natQ_some (by decide) h3
      show wp_X1_addFirst_0 _ (nI f) (nI w) gf ft fv
      unfold wp_X1_addFirst_0
      rw [ea]
      refine pk_lt (cNF c) 4 (fun q => ?_) (fun q => ?_) rfl rfl (by omega) (by decide)
      · refine ⟨vp_in_nI q (by decide), vp_in_nI q (by decide), ?_⟩
        rw [nI_inc, nI_s1 (by omega), nI_clamp (by omega)]
        simp only [if_neg (show ¬ cNF c = 4 by omega)] at hp
        exact hp _ _ _ (gRep_first hg)
      · rw [← ea]
        simp only [if_pos (show cNF c = 4 by omega)] at hp
        exact hp _ _ _ hg
    · simp only [h3] at hp
      exact ns_yes rfl (hp _ _ _ hg)
  · rw [h1] at hp
    exact ns_yes rfl (hp _ _ _ hg)
theorem m_first (hc : cOK c) (hg : gRep c gv ga gf beg fr to wt ft fv) {x y : Int32} {post : Int32 → Int32 → (Nat → Int32) → (Nat → Int32) → Prop} (hp : ∀ gf' ft' fv', gRep (oFirst c x y).2 gv ga gf' beg fr to wt ft' fv' → post (oFirst c x y).1 gf' ft' fv') : wp_X8_first gv gf ft fv x y post := by
  have h5 : cNV c ≤ 5 := hc.1.1
  have h8 : cNF c ≤ 4 := hc.1.2.2
  have eg := hg.1
  have ea := hg.2.2.1
  show wp_X8_first_0 gv post x y gf ft fv
  unfold wp_X8_first_0
  unfold oFirst at hp
  rw [eg]
  refine in_q0 (by omega) (fun f h1 => ns_no (by decide) ?_) (fun h1 => ?_)
  · rw [h1] at hp
    obtain ⟨hf, rfl⟩ := natQ_some (by omega) h1
    refine in_q (n := 16) (by decide) rfl (fun w h3 => ns_no (by decide) ?_) (fun h3 => ?_)
    · simp only [h3] at hp
      obtain ⟨hw, rfl⟩ := natQ_some (by decide) h3
      rw [ea]
      by_cases q : cNF c = 4
      · refine ns_yes (by rw [q]; rfl) ?_
        rw [← ea]
        simp only [if_pos q] at hp
        exact hp _ _ _ hg
      · refine ns_no (fun z => q ((nI_eq (a := cNF c) (b := 4) (by omega) (by decide)).mp z)) ⟨vp_in_nI (by omega) (by decide), vp_in_nI (by omega) (by decide), ?_⟩
        rw [nI_inc, nI_s1 (by omega), nI_clamp (by omega)]
        simp only [if_neg q] at hp
        exact hp _ _ _ (gRep_first hg)
    · simp only [h3] at hp
      exact ns_yes rfl (hp _ _ _ hg)
  · rw [h1] at hp
    exact ns_yes rfl (hp _ _ _ hg)
theorem oValue_ok (hc : cOK c) (x y : Int32) : cOK (oValue c x y).2 := by
  obtain ⟨⟨h1, h2, h3⟩, h4, h5, h6, h7, h8⟩ := id hc
  unfold oValue
  cases e1 : natQ (cNV c) x with
  | none => exact hc
  | some f =>
    cases e3 : natQ 16 y with
    | none => exact hc
    | some w =>
      obtain ⟨hw, -⟩ := natQ_some (by decide) e3
      refine ⟨⟨h1, h2, h3⟩, fun i hi => ?_, h5, h6, h7, h8⟩
      show (if 1 = 1 ∧ i = f then w else c 1 i) < 16
      by_cases e : i = f
      · rw [if_pos ⟨rfl, e⟩]; exact hw
      · rw [if_neg (fun z => e z.2)]; exact h4 i hi
theorem upd_1 {beg : Nat → Int32} {n k v : Nat} {g : Nat → Nat} (h : ∀ i, i < n → beg i = nI (g i)) : ∀ i, i < n → upd beg k (nI v) i = nI (if i = k then v else g i) := by
  intro i hi
  by_cases e : i = k
  · subst e; rw [pk_us, if_pos rfl]
  · rw [pk_un e, if_neg e]; exact h i hi
theorem gRep_value (hg : gRep c gv ga gf beg fr to wt ft fv) {f w : Nat} : gRep (cup c 1 f w) gv ga gf (upd beg f (nI w)) fr to wt ft fv := by
  obtain ⟨e1, e2, e3, e4, e5, e6⟩ := hg
  refine ⟨e1, e2, e3, fun i hi => ?_, e5, e6⟩
  rw [upd_1 (g := cBeg c) e4 i hi]
  show nI _ = nI (if 1 = 1 ∧ i = f then w else c 1 i)
  by_cases e : i = f
  · simp [e]
  · simp [e]
theorem w_value (hc : cOK c) (hg : gRep c gv ga gf beg fr to wt ft fv) {x y : Int32} {post : Int32 → (Nat → Int32) → Prop} (hp : ∀ beg', gRep (oValue c x y).2 gv ga gf beg' fr to wt ft fv → post (oValue c x y).1 beg') : wp_X7_value gv beg x y post := by
  have h5 : cNV c ≤ 5 := hc.1.1
  have eg := hg.1
  show wp_X7_value_0 gv post x y beg
  unfold wp_X7_value_0
  unfold oValue at hp
  rw [eg]
  refine hasV_q (by omega) (fun f h1 => ns_no (by decide) ?_) (fun h1 => ?_)
  · rw [h1] at hp
    obtain ⟨hf, rfl⟩ := natQ_some (by omega) h1
    refine isValue_q (fun w h3 => ns_no (by decide) ?_) (fun h3 => ?_)
    · simp only [h3] at hp
      obtain ⟨hw, rfl⟩ := natQ_some (by decide) h3
      refine ⟨vp_in_nI (by omega) (by decide), fun y4 e4 => ⟨vp_in_nI (by omega) (by decide), ?_⟩⟩
      rw [nI_clamp (by omega)] at e4 ⊢
      rw [e4, hg.2.2.2.1 _ hf]
      exact hp _ (gRep_value hg)
    · simp only [h3] at hp
      exact ns_yes rfl (hp _ hg)
  · rw [h1] at hp
    exact ns_yes rfl (hp _ hg)
theorem m_value (hc : cOK c) (hg : gRep c gv ga gf beg fr to wt ft fv) {x y : Int32} {post : Int32 → (Nat → Int32) → Prop} (hp : ∀ beg', gRep (oValue c x y).2 gv ga gf beg' fr to wt ft fv → post (oValue c x y).1 beg') : wp_X8_value gv beg x y post := by
  have h5 : cNV c ≤ 5 := hc.1.1
  have eg := hg.1
  show wp_X8_value_0 gv post x y beg
  unfold wp_X8_value_0
  unfold oValue at hp
  rw [eg]
  refine in_q0 (by omega) (fun f h1 => ns_no (by decide) ?_) (fun h1 => ?_)
  · rw [h1] at hp
    obtain ⟨hf, rfl⟩ := natQ_some (by omega) h1
    refine in_q (n := 16) (by decide) rfl (fun w h3 => ns_no (by decide) ?_) (fun h3 => ?_)
    · simp only [h3] at hp
      obtain ⟨hw, rfl⟩ := natQ_some (by decide) h3
      refine ⟨vp_in_nI (by omega) (by decide), fun y4 e4 => ⟨vp_in_nI (by omega) (by decide), ?_⟩⟩
      rw [nI_clamp (by omega)] at e4 ⊢
      rw [e4, hg.2.2.2.1 _ hf]
      exact hp _ (gRep_value hg)
    · simp only [h3] at hp
      exact ns_yes rfl (hp _ hg)
  · rw [h1] at hp
    exact ns_yes rfl (hp _ hg)
theorem oTable_ok (hc : cOK c) (x y z : Int32) : cOK (oTable c x y z).2 := by
  obtain ⟨⟨h1, h2, h3⟩, h4, h5, h6, h7, h8⟩ := id hc
  unfold oTable
  cases e1 : natQ 16 x with
  | none => exact hc
  | some a =>
    cases e2 : natQ 16 y with
    | none => exact hc
    | some b =>
      cases e3 : natQ 16 z with
      | none => exact hc
      | some w =>
        obtain ⟨hw, -⟩ := natQ_some (by decide) e3
        refine ⟨⟨h1, h2, h3⟩, h4, h5, h6, h7, fun i hi => ?_⟩
        show (if 8 = 8 ∧ i = 16 * a + b then w else c 8 i) < 16
        by_cases e : i = 16 * a + b
        · rw [if_pos ⟨rfl, e⟩]; exact hw
        · rw [if_neg (fun z => e z.2)]; exact h8 i hi
theorem rRep_table (hr : rRep c st told) {k w : Nat} : rRep (cup c 8 k w) st (upd told k (nI w)) := by
  obtain ⟨e1, e2⟩ := hr
  refine ⟨e1, fun i hi => ?_⟩
  rw [upd_1 (g := cTab c) e2 i hi]
  show nI _ = nI (if 8 = 8 ∧ i = k then w else c 8 i)
  by_cases e : i = k
  · simp [e]
  · simp [e]
theorem cell_e {a b : Nat} (ha : a < 16) (hb : b < 16) : (((nI a &&& 15) <<< ((4 : Int32) &&& 31)) ||| (nI b &&& 15)) = nI (16 * a + b) := by
  rw [ni_and _ 4 (by decide) (by decide), ni_and _ 4 (by decide) (by decide), Nat.mod_eq_of_lt ha, Nat.mod_eq_of_lt hb, pk_shlN _ 4 (by decide) (by omega), nx_or, Nat.or_comm, nat_or_add hb]
  congr 1; omega
theorem w_table (hr : rRep c st told) {x y z : Int32} {post : Int32 → (Nat → Int32) → Prop} (hp : ∀ told', rRep (oTable c x y z).2 st told' → post (oTable c x y z).1 told') : wp_X7_table told x y z post := by
  show wp_X7_table_0 post x y z told
  unfold wp_X7_table_0
  unfold oTable at hp
  refine isValue_q (fun a h1 => sw_no (by decide) ?_) (fun h1 => ?_)
  · rw [h1] at hp
    obtain ⟨ha, rfl⟩ := natQ_some (by decide) h1
    refine isValue_q (fun b h2 => sw_no (by decide) ?_) (fun h2 => ?_)
    · simp only [h2] at hp
      obtain ⟨hb, rfl⟩ := natQ_some (by decide) h2
      refine isValue_q (fun w h3 => ns_no (by decide) ?_) (fun h3 => ?_)
      · simp only [h3] at hp
        obtain ⟨hw, rfl⟩ := natQ_some (by decide) h3
        show wp_X2_tell_0 _ (nI a) (nI b) (nI w) told
        unfold wp_X2_tell_0
        show wp_X2_cell_0 _ (nI a) (nI b)
        unfold wp_X2_cell_0
        rw [cell_e ha hb]
        refine ⟨vp_in_nI (by omega) (by decide), fun y3 e3 => ?_⟩
        show wp_X2_cell_0 _ (nI a) (nI b)
        unfold wp_X2_cell_0
        rw [cell_e ha hb]
        refine ⟨vp_in_nI (by omega) (by decide), ?_⟩
        rw [nI_clamp (by omega)] at e3 ⊢
        rw [e3, hr.2 _ (by omega)]
        exact hp _ (rRep_table hr)
      · simp only [h3] at hp
        exact ns_yes rfl (hp _ hr)
    · simp only [h2] at hp
      exact sw_yes rfl (hp _ hr)
  · rw [h1] at hp
    exact sw_yes rfl (hp _ hr)
theorem m_table (hr : rRep c st told) {x y z : Int32} {post : Int32 → (Nat → Int32) → Prop} (hp : ∀ told', rRep (oTable c x y z).2 st told' → post (oTable c x y z).1 told') : wp_X8_table told x y z post := by
  show wp_X8_table_0 post x y z told
  unfold wp_X8_table_0
  unfold oTable at hp
  refine in_q (n := 16) (by decide) rfl (fun a h1 => sw_no (by decide) ?_) (fun h1 => ?_)
  · rw [h1] at hp
    obtain ⟨ha, rfl⟩ := natQ_some (by decide) h1
    refine in_q (n := 16) (by decide) rfl (fun b h2 => sw_no (by decide) ?_) (fun h2 => ?_)
    · simp only [h2] at hp
      obtain ⟨hb, rfl⟩ := natQ_some (by decide) h2
      refine in_q (n := 16) (by decide) rfl (fun w h3 => ns_no (by decide) ?_) (fun h3 => ?_)
      · simp only [h3] at hp
        obtain ⟨hw, rfl⟩ := natQ_some (by decide) h3
        rw [show (16 : Int32) = nI 16 from rfl, pk_mul, nI_add]
        refine ⟨vp_in_nI (by omega) (by decide), fun y3 e3 => ⟨vp_in_nI (by omega) (by decide), ?_⟩⟩
        rw [nI_clamp (by omega)] at e3 ⊢
        rw [e3, hr.2 _ (by omega)]
        exact hp _ (rRep_table hr)
      · simp only [h3] at hp
        exact ns_yes rfl (hp _ hr)
    · simp only [h2] at hp
      exact sw_yes rfl (hp _ hr)
  · rw [h1] at hp
    exact sw_yes rfl (hp _ hr)
theorem w_fold (hc : cOK c) (hr : rRep c st told) {x y : Int32} {post : Int32 → Prop} (hp : post (oFold c x y)) : wp_X7_fold st told x y post := by
  show wp_X7_fold_0 st told post x y
  unfold wp_X7_fold_0
  unfold oFold at hp
  refine isValue_q (fun a h1 => sw_no (by decide) ?_) (fun h1 => ?_)
  · rw [h1] at hp
    obtain ⟨ha, rfl⟩ := natQ_some (by decide) h1
    refine isValue_q (fun b h2 => ns_no (by decide) ?_) (fun h2 => ?_)
    · simp only [h2] at hp
      obtain ⟨hb, rfl⟩ := natQ_some (by decide) h2
      exact w_folded hc hr ha hb hp
    · simp only [h2] at hp
      exact ns_yes rfl hp
  · rw [h1] at hp
    exact sw_yes rfl hp
theorem m_fold (hc : cOK c) (hr : rRep c st told) {x y : Int32} {post : Int32 → Prop} (hp : post (oFold c x y)) : wp_X8_fold st told x y post := by
  show wp_X8_fold_0 st told post x y
  unfold wp_X8_fold_0
  unfold oFold at hp
  refine in_q (n := 16) (by decide) rfl (fun a h1 => sw_no (by decide) ?_) (fun h1 => ?_)
  · rw [h1] at hp
    obtain ⟨ha, rfl⟩ := natQ_some (by decide) h1
    refine in_q (n := 16) (by decide) rfl (fun b h2 => sw_no (by decide) ?_) (fun h2 => ?_)
    · simp only [h2] at hp
      obtain ⟨hb, rfl⟩ := natQ_some (by decide) h2
      exact m_folded hc hr ha hb hp
    · simp only [h2] at hp
      exact sw_yes rfl hp
  · rw [h1] at hp
    exact sw_yes rfl hp
theorem w_out (hc : cOK c) (hr : rRep c st told) {x y : Int32} {post : Int32 → Prop} (hp : post (oOut c x y)) : wp_X7_out st x y post := by
  show wp_X7_out_0 st post x y
  unfold wp_X7_out_0
  unfold oOut at hp
  refine isValue_q (fun a h1 => sw_no (by decide) ?_) (fun h1 => ?_)
  · rw [h1] at hp
    obtain ⟨ha, rfl⟩ := natQ_some (by decide) h1
    refine isValue_q (fun b h2 => ns_no (by decide) ?_) (fun h2 => ?_)
    · simp only [h2] at hp
      obtain ⟨hb, rfl⟩ := natQ_some (by decide) h2
      exact w_sentOut hc hr.1 ha hb hp
    · simp only [h2] at hp
      exact ns_yes rfl hp
  · rw [h1] at hp
    exact sw_yes rfl hp
theorem m_out (hc : cOK c) (hr : rRep c st told) {x y : Int32} {post : Int32 → Prop} (hp : post (oOut c x y)) : wp_X8_out st x y post := by
  show wp_X8_out_0 st post x y
  unfold wp_X8_out_0
  unfold oOut at hp
  refine in_q (n := 16) (by decide) rfl (fun a h1 => sw_no (by decide) ?_) (fun h1 => ?_)
  · rw [h1] at hp
    obtain ⟨ha, rfl⟩ := natQ_some (by decide) h1
    refine in_q (n := 16) (by decide) rfl (fun b h2 => sw_no (by decide) ?_) (fun h2 => ?_)
    · simp only [h2] at hp
      obtain ⟨hb, rfl⟩ := natQ_some (by decide) h2
      exact m_outOf hc hr.1 ha hb hp
    · simp only [h2] at hp
      exact sw_yes rfl hp
  · rw [h1] at hp
    exact sw_yes rfl hp
end OPS
