/-! X1_hasVertex: hasVertex(I)Z -/
theorem fi_X1_hasVertex_X1 : ∀ w ∈ wsX10, w ∈ wsX1_hasVertex := by decide +kernel
theorem fl_X1_hasVertex_1 : ((.fieldLink RX1 30 "OrderTests$Graph" "vertices" "I") : Cond) ∈ wsX1_hasVertex := by decide +kernel
abbrev rm_X1_hasVertex : Room := { frames := 0, cells := 0, slots := 0, locals := 0 }
abbrev q_X1_hasVertex (D : va_G) (cA : Nat → ClassId) (A : Nat → Prop) (a_g : Nat → Nat) (g_vertices : Int32) (g_arcs : Int32) (g_firsts : Int32) (g_begins : (Nat → Int32)) (g_arcFrom : (Nat → Int32)) (g_arcTo : (Nat → Int32)) (g_weights : (Nat → Int32)) (g_firstTo : (Nat → Int32)) (g_firstValue : (Nat → Int32)) (post : Int32 → Prop) : Array Value → State → Outcome → State → Prop := va_Qi (fun (r : Int32) (u : Unit) => post r) (cOut D cA A (fun (u : Unit) => sh_X1 cA a_g g_vertices g_arcs g_firsts g_begins g_arcFrom g_arcTo g_weights g_firstTo g_firstValue)) A
set_option maxHeartbeats 4000000 in
set_option maxRecDepth 100000 in
theorem k_X1_hasVertex_16 {p : Program} {l : Launch} {e : Env} {s : State} {m : MethodId} {args : Array Value} {below : List Frame} {meth : Method} {c : Code} {D : va_G} {cA : Nat → ClassId} {A : Nat → Prop} {a_g : Nat → Nat} (C : cxm RX1 cX1_hasVertex 2 (some .boolean) wsX1_hasVertex p s m args meth c) (hA : ∀ q, s.heap.size ≤ q → A q) (hK : va_K D vwCl (tyL cA) s) {g_vertices : Int32} {g_arcs : Int32} {g_firsts : Int32} {g_begins : (Nat → Int32)} {g_arcFrom : (Nat → Int32)} {g_arcTo : (Nat → Int32)} {g_weights : (Nat → Int32)} {g_firstTo : (Nat → Int32)} {g_firstValue : (Nat → Int32)} {post : Int32 → Prop} {H : Heap} {locs : List Loc} {ls : Array Slot} (hl : lv_has ls 2 []) (hP : va_P D vwCl (sh_X1 cA a_g g_vertices g_arcs g_firsts g_begins g_arcFrom g_arcTo g_weights g_firstTo g_firstValue) H) (hD : va_D A (sh_X1 cA a_g g_vertices g_arcs g_firsts g_begins g_arcFrom g_arcTo g_weights g_firstTo g_firstValue)) (hS : va_S A s.heap H locs) (hw : wp_X1_hasVertex_16 g_vertices post) : W p l e rm_X1_hasVertex s m args below meth c H locs 0 0 (MQ below (q_X1_hasVertex D cA A a_g g_vertices g_arcs g_firsts g_begins g_arcFrom g_arcTo g_weights g_firstTo g_firstValue post) args s 0 0 A) (F0 m 16 ls []) := by
  obtain ⟨hx, hb, hr, hts, hown, hlocks, hml⟩ := id C
  unfold wp_X1_hasVertex_16 at hw
  refine lv_iconst (v := 0) hx hb dX1_hasVertex_16 (by decide) ?_
  exact W.zret (v := 0) hx hb hr rfl (fun t ht hW => ⟨⟨0, (), rfl, hw, by rw [ht]; exact hP, va_K.moved hW.alike hK, hD⟩, hS.F ht⟩) hS.2.2 dX1_hasVertex_17
set_option maxHeartbeats 4000000 in
set_option maxRecDepth 100000 in
theorem k_X1_hasVertex_0 {p : Program} {l : Launch} {e : Env} {s : State} {m : MethodId} {args : Array Value} {below : List Frame} {meth : Method} {c : Code} {D : va_G} {cA : Nat → ClassId} {A : Nat → Prop} {a_g : Nat → Nat} (C : cxm RX1 cX1_hasVertex 2 (some .boolean) wsX1_hasVertex p s m args meth c) (hA : ∀ q, s.heap.size ≤ q → A q) (hK : va_K D vwCl (tyL cA) s) {g_vertices : Int32} {g_arcs : Int32} {g_firsts : Int32} {g_begins : (Nat → Int32)} {g_arcFrom : (Nat → Int32)} {g_arcTo : (Nat → Int32)} {g_weights : (Nat → Int32)} {g_firstTo : (Nat → Int32)} {g_firstValue : (Nat → Int32)} {post : Int32 → Prop} {x1 : Int32} {H : Heap} {locs : List Loc} {ls : Array Slot} (hl : lv_has ls 2 [(0, .ref (a_g 0)), (1, .int x1)]) (hP : va_P D vwCl (sh_X1 cA a_g g_vertices g_arcs g_firsts g_begins g_arcFrom g_arcTo g_weights g_firstTo g_firstValue) H) (hD : va_D A (sh_X1 cA a_g g_vertices g_arcs g_firsts g_begins g_arcFrom g_arcTo g_weights g_firstTo g_firstValue)) (hS : va_S A s.heap H locs) (hw : wp_X1_hasVertex_0 g_vertices post x1) : W p l e rm_X1_hasVertex s m args below meth c H locs 0 0 (MQ below (q_X1_hasVertex D cA A a_g g_vertices g_arcs g_firsts g_begins g_arcFrom g_arcTo g_weights g_firstTo g_firstValue post) args s 0 0 A) (F0 m 0 ls []) := by
  obtain ⟨hx, hb, hr, hts, hown, hlocks, hml⟩ := id C
  unfold wp_X1_hasVertex_0 at hw
  refine lv_iload_n hx hb dX1_hasVertex_0 rfl (lv_at hl 1 rfl) ?_
  refine lv_if_lt (tgt := 16) hx hb dX1_hasVertex_1 (by decide) (fun hc => ?_) (fun hc => ?_)
  · have hw := hw.1 hc
    exact k_X1_hasVertex_16 C hA hK (lv_sub hl [] rfl) hP hD hS hw
  · have hw := hw.2 hc
    refine lv_iload_n hx hb dX1_hasVertex_4 rfl (lv_at hl 1 rfl) ?_
    refine lv_aload_n hx hb dX1_hasVertex_5 rfl (lv_at hl 0 rfl) ?_
    refine va_get (D := D) (ci := 1) (v := .int g_vertices) (C := RX1) (T := TX1) (N := 9) hx hb hts fi_X1_hasVertex_X1 hown hK hP 0 rfl rfl 0 (by decide) (hts _ fl_X1_hasVertex_1) (fun _ h9 => h9) rfl dX1_hasVertex_6 ?_
    refine lv_icmp_ge (tgt := 16) hx hb dX1_hasVertex_9 (by decide) (fun hc => ?_) (fun hc => ?_)
    · have hw := hw.1 hc
      exact k_X1_hasVertex_16 C hA hK (lv_sub hl [] rfl) hP hD hS hw
    · have hw := hw.2 hc
      refine lv_iconst (v := 1) hx hb dX1_hasVertex_12 (by decide) ?_
      refine lv_goto (tgt := 17) hx hb dX1_hasVertex_13 (by decide) ?_
      exact W.zret (v := 1) hx hb hr rfl (fun t ht hW => ⟨⟨1, (), rfl, hw, by rw [ht]; exact hP, va_K.moved hW.alike hK, hD⟩, hS.F ht⟩) hS.2.2 dX1_hasVertex_17
set_option maxHeartbeats 4000000 in
set_option maxRecDepth 100000 in
theorem c_X1_hasVertex (l : Launch) (D : va_G) (cA : Nat → ClassId) (a_g : Nat → Nat) (sz : Nat) (g_vertices : Int32) (g_arcs : Int32) (g_firsts : Int32) (g_begins : (Nat → Int32)) (g_arcFrom : (Nat → Int32)) (g_arcTo : (Nat → Int32)) (g_weights : (Nat → Int32)) (g_firstTo : (Nat → Int32)) (g_firstValue : (Nat → Int32)) (x1 : Int32) (post : Int32 → Prop) (hw : wp_X1_hasVertex g_vertices x1 post) : Met l yX1_hasVertex wsX1_hasVertex rm_X1_hasVertex (cPre D cA sz [.ref (a_g 0), .int x1] (sh_X1 cA a_g g_vertices g_arcs g_firsts g_begins g_arcFrom g_arcTo g_weights g_firstTo g_firstValue)) (q_X1_hasVertex D cA (va_A (sh_X1 cA a_g g_vertices g_arcs g_firsts g_begins g_arcFrom g_arcTo g_weights g_firstTo g_firstValue) sz) a_g g_vertices g_arcs g_firsts g_begins g_arcFrom g_arcTo g_weights g_firstTo g_firstValue post) 0 0 (va_A (sh_X1 cA a_g g_vertices g_arcs g_firsts g_begins g_arcFrom g_arcTo g_weights g_firstTo g_firstValue) sz) := by
  refine Met.ofW (cc := cX1_hasVertex) (maxL := 2) (ret := (some .boolean)) (by decide) rfl ?_
  intro p e s m args below meth c s₁ B hml hv
  obtain ⟨rfl, hsz, hP, hK, hD0⟩ := hv
  have hown : s.vm.findClass RX1 = some m.cls := findClass_of_methodNamed B.named
  subst hsz
  have hD := hD0.self (sz := s.heap.size)
  have hl := lv_entry ([.ref (a_g 0), .int x1]) (n := 2) (Nat.le_of_ble_eq_true rfl)
  rw [lg_entry_eq]
  exact k_X1_hasVertex_0 ⟨B.exec, B.bytes, B.returns, atoms_spec (ws := wsX1_hasVertex) B.pre, hown, B.notSynchronized, hml⟩ (fun q h => Or.inr h) hK hl hP hD va_S.rf hw
/-! X1_allArcs: allArcs()I -/
theorem fi_X1_allArcs_X1 : ∀ w ∈ wsX10, w ∈ wsX1_allArcs := by decide +kernel
theorem fl_X1_allArcs_1 : ((.fieldLink RX1 34 "OrderTests$Graph" "arcs" "I") : Cond) ∈ wsX1_allArcs := by decide +kernel
abbrev rm_X1_allArcs : Room := { frames := 0, cells := 0, slots := 0, locals := 0 }
abbrev q_X1_allArcs (D : va_G) (cA : Nat → ClassId) (A : Nat → Prop) (a_g : Nat → Nat) (g_vertices : Int32) (g_arcs : Int32) (g_firsts : Int32) (g_begins : (Nat → Int32)) (g_arcFrom : (Nat → Int32)) (g_arcTo : (Nat → Int32)) (g_weights : (Nat → Int32)) (g_firstTo : (Nat → Int32)) (g_firstValue : (Nat → Int32)) (post : Int32 → Prop) : Array Value → State → Outcome → State → Prop := va_Qi (fun (r : Int32) (u : Unit) => post r) (cOut D cA A (fun (u : Unit) => sh_X1 cA a_g g_vertices g_arcs g_firsts g_begins g_arcFrom g_arcTo g_weights g_firstTo g_firstValue)) A
set_option maxHeartbeats 4000000 in
set_option maxRecDepth 100000 in
theorem k_X1_allArcs_0 {p : Program} {l : Launch} {e : Env} {s : State} {m : MethodId} {args : Array Value} {below : List Frame} {meth : Method} {c : Code} {D : va_G} {cA : Nat → ClassId} {A : Nat → Prop} {a_g : Nat → Nat} (C : cxm RX1 cX1_allArcs 1 (some .int) wsX1_allArcs p s m args meth c) (hA : ∀ q, s.heap.size ≤ q → A q) (hK : va_K D vwCl (tyL cA) s) {g_vertices : Int32} {g_arcs : Int32} {g_firsts : Int32} {g_begins : (Nat → Int32)} {g_arcFrom : (Nat → Int32)} {g_arcTo : (Nat → Int32)} {g_weights : (Nat → Int32)} {g_firstTo : (Nat → Int32)} {g_firstValue : (Nat → Int32)} {post : Int32 → Prop} {H : Heap} {locs : List Loc} {ls : Array Slot} (hl : lv_has ls 1 [(0, .ref (a_g 0))]) (hP : va_P D vwCl (sh_X1 cA a_g g_vertices g_arcs g_firsts g_begins g_arcFrom g_arcTo g_weights g_firstTo g_firstValue) H) (hD : va_D A (sh_X1 cA a_g g_vertices g_arcs g_firsts g_begins g_arcFrom g_arcTo g_weights g_firstTo g_firstValue)) (hS : va_S A s.heap H locs) (hw : wp_X1_allArcs_0 g_arcs post) : W p l e rm_X1_allArcs s m args below meth c H locs 0 0 (MQ below (q_X1_allArcs D cA A a_g g_vertices g_arcs g_firsts g_begins g_arcFrom g_arcTo g_weights g_firstTo g_firstValue post) args s 0 0 A) (F0 m 0 ls []) := by
  obtain ⟨hx, hb, hr, hts, hown, hlocks, hml⟩ := id C
  unfold wp_X1_allArcs_0 at hw
  refine lv_iconst (v := 1) hx hb dX1_allArcs_0 (by decide) ?_
  refine lv_aload_n hx hb dX1_allArcs_1 rfl (lv_at hl 0 rfl) ?_
  refine va_get (D := D) (ci := 1) (v := .int g_arcs) (C := RX1) (T := TX1) (N := 9) hx hb hts fi_X1_allArcs_X1 hown hK hP 0 rfl rfl 1 (by decide) (hts _ fl_X1_allArcs_1) (fun _ h9 => h9) rfl dX1_allArcs_2 ?_
  refine lv_ishl hx hb dX1_allArcs_5 ?_
  refine lv_iconst (v := 1) hx hb dX1_allArcs_6 (by decide) ?_
  refine lv_isub hx hb dX1_allArcs_7 ?_
  exact W.iret (v := ((1 <<< (g_arcs &&& 31)) - 1)) hx hb hr (fun t ht hW => ⟨⟨((1 <<< (g_arcs &&& 31)) - 1), (), rfl, hw, by rw [ht]; exact hP, va_K.moved hW.alike hK, hD⟩, hS.F ht⟩) hS.2.2 dX1_allArcs_8
set_option maxHeartbeats 4000000 in
set_option maxRecDepth 100000 in
theorem c_X1_allArcs (l : Launch) (D : va_G) (cA : Nat → ClassId) (a_g : Nat → Nat) (sz : Nat) (g_vertices : Int32) (g_arcs : Int32) (g_firsts : Int32) (g_begins : (Nat → Int32)) (g_arcFrom : (Nat → Int32)) (g_arcTo : (Nat → Int32)) (g_weights : (Nat → Int32)) (g_firstTo : (Nat → Int32)) (g_firstValue : (Nat → Int32)) (post : Int32 → Prop) (hw : wp_X1_allArcs g_arcs post) : Met l yX1_allArcs wsX1_allArcs rm_X1_allArcs (cPre D cA sz [.ref (a_g 0)] (sh_X1 cA a_g g_vertices g_arcs g_firsts g_begins g_arcFrom g_arcTo g_weights g_firstTo g_firstValue)) (q_X1_allArcs D cA (va_A (sh_X1 cA a_g g_vertices g_arcs g_firsts g_begins g_arcFrom g_arcTo g_weights g_firstTo g_firstValue) sz) a_g g_vertices g_arcs g_firsts g_begins g_arcFrom g_arcTo g_weights g_firstTo g_firstValue post) 0 0 (va_A (sh_X1 cA a_g g_vertices g_arcs g_firsts g_begins g_arcFrom g_arcTo g_weights g_firstTo g_firstValue) sz) := by
  refine Met.ofW (cc := cX1_allArcs) (maxL := 1) (ret := (some .int)) (by decide) rfl ?_
  intro p e s m args below meth c s₁ B hml hv
  obtain ⟨rfl, hsz, hP, hK, hD0⟩ := hv
  have hown : s.vm.findClass RX1 = some m.cls := findClass_of_methodNamed B.named
  subst hsz
  have hD := hD0.self (sz := s.heap.size)
  have hl := lv_entry ([.ref (a_g 0)]) (n := 1) (Nat.le_of_ble_eq_true rfl)
  rw [lg_entry_eq]
  exact k_X1_allArcs_0 ⟨B.exec, B.bytes, B.returns, atoms_spec (ws := wsX1_allArcs) B.pre, hown, B.notSynchronized, hml⟩ (fun q h => Or.inr h) hK hl hP hD va_S.rf hw
/-! X1_addVertex: addVertex(I)I -/
theorem fi_X1_addVertex_X1 : ∀ w ∈ wsX10, w ∈ wsX1_addVertex := by decide +kernel
theorem fl_X1_addVertex_1 : ((.fieldLink RX1 30 "OrderTests$Graph" "vertices" "I") : Cond) ∈ wsX1_addVertex := by decide +kernel
theorem fl_X1_addVertex_2 : ((.fieldLink RX1 9 "OrderTests$Graph" "begins" "[I") : Cond) ∈ wsX1_addVertex := by decide +kernel
abbrev rm_X1_addVertex : Room := { frames := 0, cells := 0, slots := 0, locals := 0 }
abbrev q_X1_addVertex (D : va_G) (cA : Nat → ClassId) (A : Nat → Prop) (a_g : Nat → Nat) (g_arcs : Int32) (g_firsts : Int32) (g_arcFrom : (Nat → Int32)) (g_arcTo : (Nat → Int32)) (g_weights : (Nat → Int32)) (g_firstTo : (Nat → Int32)) (g_firstValue : (Nat → Int32)) (post : Int32 → Int32 → (Nat → Int32) → Prop) : Array Value → State → Outcome → State → Prop := va_Qi (fun (r : Int32) (u : Int32 × (Nat → Int32)) => post r u.1 u.2) (cOut D cA A (fun (u : Int32 × (Nat → Int32)) => sh_X1 cA a_g u.1 g_arcs g_firsts u.2 g_arcFrom g_arcTo g_weights g_firstTo g_firstValue)) A
set_option maxHeartbeats 4000000 in
set_option maxRecDepth 100000 in
theorem k_X1_addVertex_0 {p : Program} {l : Launch} {e : Env} {s : State} {m : MethodId} {args : Array Value} {below : List Frame} {meth : Method} {c : Code} {D : va_G} {cA : Nat → ClassId} {A : Nat → Prop} {a_g : Nat → Nat} (C : cxm RX1 cX1_addVertex 2 (some .int) wsX1_addVertex p s m args meth c) (hA : ∀ q, s.heap.size ≤ q → A q) (hK : va_K D vwCl (tyL cA) s) {g_arcs : Int32} {g_firsts : Int32} {g_arcFrom : (Nat → Int32)} {g_arcTo : (Nat → Int32)} {g_weights : (Nat → Int32)} {g_firstTo : (Nat → Int32)} {g_firstValue : (Nat → Int32)} {post : Int32 → Int32 → (Nat → Int32) → Prop} {x1 : Int32} {g_vertices : Int32} {g_begins : (Nat → Int32)} {H : Heap} {locs : List Loc} {ls : Array Slot} (hl : lv_has ls 2 [(0, .ref (a_g 0)), (1, .int x1)]) (hP : va_P D vwCl (sh_X1 cA a_g g_vertices g_arcs g_firsts g_begins g_arcFrom g_arcTo g_weights g_firstTo g_firstValue) H) (hD : va_D A (sh_X1 cA a_g g_vertices g_arcs g_firsts g_begins g_arcFrom g_arcTo g_weights g_firstTo g_firstValue)) (hS : va_S A s.heap H locs) (hw : wp_X1_addVertex_0 post x1 g_vertices g_begins) : W p l e rm_X1_addVertex s m args below meth c H locs 0 0 (MQ below (q_X1_addVertex D cA A a_g g_arcs g_firsts g_arcFrom g_arcTo g_weights g_firstTo g_firstValue post) args s 0 0 A) (F0 m 0 ls []) := by
  obtain ⟨hx, hb, hr, hts, hown, hlocks, hml⟩ := id C
  unfold wp_X1_addVertex_0 at hw
  refine lv_aload_n hx hb dX1_addVertex_0 rfl (lv_at hl 0 rfl) ?_
  refine va_get (D := D) (ci := 1) (v := .int g_vertices) (C := RX1) (T := TX1) (N := 9) hx hb hts fi_X1_addVertex_X1 hown hK hP 0 rfl rfl 0 (by decide) (hts _ fl_X1_addVertex_1) (fun _ h9 => h9) rfl dX1_addVertex_1 ?_
  refine lv_iconst (v := 5) hx hb dX1_addVertex_4 (by decide) ?_
  refine lv_icmp_lt (tgt := 11) hx hb dX1_addVertex_5 (by decide) (fun hc => ?_) (fun hc => ?_)
  · have hw := hw.1 hc
    refine lv_aload_n hx hb dX1_addVertex_11 rfl (lv_at hl 0 rfl) ?_
    refine va_get (D := D) (ci := 1) (v := .ref (a_g 1)) (C := RX1) (T := TX1) (N := 9) hx hb hts fi_X1_addVertex_X1 hown hK hP 0 rfl rfl 3 (by decide) (hts _ fl_X1_addVertex_2) (fun _ h9 => h9) rfl dX1_addVertex_12 ?_
    refine lv_aload_n hx hb dX1_addVertex_15 rfl (lv_at hl 0 rfl) ?_
    refine va_get (D := D) (ci := 1) (v := .int g_vertices) (C := RX1) (T := TX1) (N := 9) hx hb hts fi_X1_addVertex_X1 hown hK hP 0 rfl rfl 0 (by decide) (hts _ fl_X1_addVertex_1) (fun _ h9 => h9) rfl dX1_addVertex_16 ?_
    refine lv_iload_n hx hb dX1_addVertex_19 rfl (lv_at hl 1 rfl) ?_
    obtain ⟨hi1, hw⟩ := hw
    refine va_iast hx hb hK hP hD hS 1 0 rfl rfl hi1 dX1_addVertex_20 (fun H locs hP hD hS => ?_)
    have hP : va_P D vwCl (sh_X1 cA a_g g_vertices g_arcs g_firsts (upd g_begins g_vertices.toNatClampNeg x1) g_arcFrom g_arcTo g_weights g_firstTo g_firstValue) H := hP
    have hD : va_D A (sh_X1 cA a_g g_vertices g_arcs g_firsts (upd g_begins g_vertices.toNatClampNeg x1) g_arcFrom g_arcTo g_weights g_firstTo g_firstValue) := hD
    refine lv_aload_n hx hb dX1_addVertex_21 rfl (lv_at hl 0 rfl) ?_
    refine lv_dup hx hb dX1_addVertex_22 rfl ?_
    refine va_get (D := D) (ci := 1) (v := .int g_vertices) (C := RX1) (T := TX1) (N := 9) hx hb hts fi_X1_addVertex_X1 hown hK hP 0 rfl rfl 0 (by decide) (hts _ fl_X1_addVertex_1) (fun _ h9 => h9) rfl dX1_addVertex_23 ?_
    refine lv_iconst (v := 1) hx hb dX1_addVertex_26 (by decide) ?_
    refine lv_iadd hx hb dX1_addVertex_27 ?_
    refine va_put (D := D) (ci := 1) (v := .int (g_vertices + 1)) (ty := .int) (C := RX1) (T := TX1) (N := 9) hx hb hts fi_X1_addVertex_X1 tyX1 tyX1_ok nmX1 hown hK hP hD hS 0 rfl rfl 0 (by decide) (hts _ fl_X1_addVertex_1) (fun _ h9 => h9) rfl (by decide +kernel) rfl rfl (Nat.le_of_ble_eq_true rfl) dX1_addVertex_28 (fun H locs hP hD hS => ?_)
    have hP : va_P D vwCl (sh_X1 cA a_g (g_vertices + 1) g_arcs g_firsts (upd g_begins g_vertices.toNatClampNeg x1) g_arcFrom g_arcTo g_weights g_firstTo g_firstValue) H := hP
    have hD : va_D A (sh_X1 cA a_g (g_vertices + 1) g_arcs g_firsts (upd g_begins g_vertices.toNatClampNeg x1) g_arcFrom g_arcTo g_weights g_firstTo g_firstValue) := hD
    refine lv_aload_n hx hb dX1_addVertex_31 rfl (lv_at hl 0 rfl) ?_
    refine va_get (D := D) (ci := 1) (v := .int (g_vertices + 1)) (C := RX1) (T := TX1) (N := 9) hx hb hts fi_X1_addVertex_X1 hown hK hP 0 rfl rfl 0 (by decide) (hts _ fl_X1_addVertex_1) (fun _ h9 => h9) rfl dX1_addVertex_32 ?_
    refine lv_iconst (v := 1) hx hb dX1_addVertex_35 (by decide) ?_
    refine lv_isub hx hb dX1_addVertex_36 ?_
    exact W.iret (v := ((g_vertices + 1) - 1)) hx hb hr (fun t ht hW => ⟨⟨((g_vertices + 1) - 1), ((g_vertices + 1), (upd g_begins g_vertices.toNatClampNeg x1)), rfl, hw, by rw [ht]; exact hP, va_K.moved hW.alike hK, hD⟩, hS.F ht⟩) hS.2.2 dX1_addVertex_37
  · have hw := hw.2 hc
    refine lv_bipush (v := (-104)) hx hb dX1_addVertex_8 (by decide) ?_
    exact W.iret (v := (-104)) hx hb hr (fun t ht hW => ⟨⟨(-104), (g_vertices, g_begins), rfl, hw, by rw [ht]; exact hP, va_K.moved hW.alike hK, hD⟩, hS.F ht⟩) hS.2.2 dX1_addVertex_10
set_option maxHeartbeats 4000000 in
set_option maxRecDepth 100000 in
theorem c_X1_addVertex (l : Launch) (D : va_G) (cA : Nat → ClassId) (a_g : Nat → Nat) (sz : Nat) (g_vertices : Int32) (g_arcs : Int32) (g_firsts : Int32) (g_begins : (Nat → Int32)) (g_arcFrom : (Nat → Int32)) (g_arcTo : (Nat → Int32)) (g_weights : (Nat → Int32)) (g_firstTo : (Nat → Int32)) (g_firstValue : (Nat → Int32)) (x1 : Int32) (post : Int32 → Int32 → (Nat → Int32) → Prop) (hw : wp_X1_addVertex g_vertices g_begins x1 post) : Met l yX1_addVertex wsX1_addVertex rm_X1_addVertex (cPre D cA sz [.ref (a_g 0), .int x1] (sh_X1 cA a_g g_vertices g_arcs g_firsts g_begins g_arcFrom g_arcTo g_weights g_firstTo g_firstValue)) (q_X1_addVertex D cA (va_A (sh_X1 cA a_g g_vertices g_arcs g_firsts g_begins g_arcFrom g_arcTo g_weights g_firstTo g_firstValue) sz) a_g g_arcs g_firsts g_arcFrom g_arcTo g_weights g_firstTo g_firstValue post) 0 0 (va_A (sh_X1 cA a_g g_vertices g_arcs g_firsts g_begins g_arcFrom g_arcTo g_weights g_firstTo g_firstValue) sz) := by
  refine Met.ofW (cc := cX1_addVertex) (maxL := 2) (ret := (some .int)) (by decide) rfl ?_
  intro p e s m args below meth c s₁ B hml hv
  obtain ⟨rfl, hsz, hP, hK, hD0⟩ := hv
  have hown : s.vm.findClass RX1 = some m.cls := findClass_of_methodNamed B.named
  subst hsz
  have hD := hD0.self (sz := s.heap.size)
  have hl := lv_entry ([.ref (a_g 0), .int x1]) (n := 2) (Nat.le_of_ble_eq_true rfl)
  rw [lg_entry_eq]
  exact k_X1_addVertex_0 ⟨B.exec, B.bytes, B.returns, atoms_spec (ws := wsX1_addVertex) B.pre, hown, B.notSynchronized, hml⟩ (fun q h => Or.inr h) hK hl hP hD va_S.rf hw
/-! X1_addArc: addArc(III)I -/
theorem fi_X1_addArc_X1 : ∀ w ∈ wsX10, w ∈ wsX1_addArc := by decide +kernel
theorem fl_X1_addArc_1 : ((.fieldLink RX1 34 "OrderTests$Graph" "arcs" "I") : Cond) ∈ wsX1_addArc := by decide +kernel
theorem fl_X1_addArc_2 : ((.fieldLink RX1 15 "OrderTests$Graph" "arcFrom" "[I") : Cond) ∈ wsX1_addArc := by decide +kernel
theorem fl_X1_addArc_3 : ((.fieldLink RX1 18 "OrderTests$Graph" "arcTo" "[I") : Cond) ∈ wsX1_addArc := by decide +kernel
theorem fl_X1_addArc_4 : ((.fieldLink RX1 21 "OrderTests$Graph" "weights" "[I") : Cond) ∈ wsX1_addArc := by decide +kernel
abbrev rm_X1_addArc : Room := { frames := 0, cells := 0, slots := 0, locals := 0 }
abbrev q_X1_addArc (D : va_G) (cA : Nat → ClassId) (A : Nat → Prop) (a_g : Nat → Nat) (g_vertices : Int32) (g_firsts : Int32) (g_begins : (Nat → Int32)) (g_firstTo : (Nat → Int32)) (g_firstValue : (Nat → Int32)) (post : Int32 → Int32 → (Nat → Int32) → (Nat → Int32) → (Nat → Int32) → Prop) : Array Value → State → Outcome → State → Prop := va_Qi (fun (r : Int32) (u : Int32 × (Nat → Int32) × (Nat → Int32) × (Nat → Int32)) => post r u.1 u.2.1 u.2.2.1 u.2.2.2) (cOut D cA A (fun (u : Int32 × (Nat → Int32) × (Nat → Int32) × (Nat → Int32)) => sh_X1 cA a_g g_vertices u.1 g_firsts g_begins u.2.1 u.2.2.1 u.2.2.2 g_firstTo g_firstValue)) A
set_option maxHeartbeats 4000000 in
set_option maxRecDepth 100000 in
theorem k_X1_addArc_0 {p : Program} {l : Launch} {e : Env} {s : State} {m : MethodId} {args : Array Value} {below : List Frame} {meth : Method} {c : Code} {D : va_G} {cA : Nat → ClassId} {A : Nat → Prop} {a_g : Nat → Nat} (C : cxm RX1 cX1_addArc 4 (some .int) wsX1_addArc p s m args meth c) (hA : ∀ q, s.heap.size ≤ q → A q) (hK : va_K D vwCl (tyL cA) s) {g_vertices : Int32} {g_firsts : Int32} {g_begins : (Nat → Int32)} {g_firstTo : (Nat → Int32)} {g_firstValue : (Nat → Int32)} {post : Int32 → Int32 → (Nat → Int32) → (Nat → Int32) → (Nat → Int32) → Prop} {x1 : Int32} {x2 : Int32} {x3 : Int32} {g_arcs : Int32} {g_arcFrom : (Nat → Int32)} {g_arcTo : (Nat → Int32)} {g_weights : (Nat → Int32)} {H : Heap} {locs : List Loc} {ls : Array Slot} (hl : lv_has ls 4 [(0, .ref (a_g 0)), (1, .int x1), (2, .int x2), (3, .int x3)]) (hP : va_P D vwCl (sh_X1 cA a_g g_vertices g_arcs g_firsts g_begins g_arcFrom g_arcTo g_weights g_firstTo g_firstValue) H) (hD : va_D A (sh_X1 cA a_g g_vertices g_arcs g_firsts g_begins g_arcFrom g_arcTo g_weights g_firstTo g_firstValue)) (hS : va_S A s.heap H locs) (hw : wp_X1_addArc_0 post x1 x2 x3 g_arcs g_arcFrom g_arcTo g_weights) : W p l e rm_X1_addArc s m args below meth c H locs 0 0 (MQ below (q_X1_addArc D cA A a_g g_vertices g_firsts g_begins g_firstTo g_firstValue post) args s 0 0 A) (F0 m 0 ls []) := by
  obtain ⟨hx, hb, hr, hts, hown, hlocks, hml⟩ := id C
  unfold wp_X1_addArc_0 at hw
  refine lv_aload_n hx hb dX1_addArc_0 rfl (lv_at hl 0 rfl) ?_
  refine va_get (D := D) (ci := 1) (v := .int g_arcs) (C := RX1) (T := TX1) (N := 9) hx hb hts fi_X1_addArc_X1 hown hK hP 0 rfl rfl 1 (by decide) (hts _ fl_X1_addArc_1) (fun _ h9 => h9) rfl dX1_addArc_1 ?_
  refine lv_bipush (v := 8) hx hb dX1_addArc_4 (by decide) ?_
  refine lv_icmp_lt (tgt := 12) hx hb dX1_addArc_6 (by decide) (fun hc => ?_) (fun hc => ?_)
  · have hw := hw.1 hc
    refine lv_aload_n hx hb dX1_addArc_12 rfl (lv_at hl 0 rfl) ?_
    refine va_get (D := D) (ci := 1) (v := .ref (a_g 2)) (C := RX1) (T := TX1) (N := 9) hx hb hts fi_X1_addArc_X1 hown hK hP 0 rfl rfl 4 (by decide) (hts _ fl_X1_addArc_2) (fun _ h9 => h9) rfl dX1_addArc_13 ?_
    refine lv_aload_n hx hb dX1_addArc_16 rfl (lv_at hl 0 rfl) ?_
    refine va_get (D := D) (ci := 1) (v := .int g_arcs) (C := RX1) (T := TX1) (N := 9) hx hb hts fi_X1_addArc_X1 hown hK hP 0 rfl rfl 1 (by decide) (hts _ fl_X1_addArc_1) (fun _ h9 => h9) rfl dX1_addArc_17 ?_
    refine lv_iload_n hx hb dX1_addArc_20 rfl (lv_at hl 1 rfl) ?_
    obtain ⟨hi1, hw⟩ := hw
    refine va_iast hx hb hK hP hD hS 2 0 rfl rfl hi1 dX1_addArc_21 (fun H locs hP hD hS => ?_)
    have hP : va_P D vwCl (sh_X1 cA a_g g_vertices g_arcs g_firsts g_begins (upd g_arcFrom g_arcs.toNatClampNeg x1) g_arcTo g_weights g_firstTo g_firstValue) H := hP
    have hD : va_D A (sh_X1 cA a_g g_vertices g_arcs g_firsts g_begins (upd g_arcFrom g_arcs.toNatClampNeg x1) g_arcTo g_weights g_firstTo g_firstValue) := hD
    refine lv_aload_n hx hb dX1_addArc_22 rfl (lv_at hl 0 rfl) ?_
    refine va_get (D := D) (ci := 1) (v := .ref (a_g 3)) (C := RX1) (T := TX1) (N := 9) hx hb hts fi_X1_addArc_X1 hown hK hP 0 rfl rfl 5 (by decide) (hts _ fl_X1_addArc_3) (fun _ h9 => h9) rfl dX1_addArc_23 ?_
    refine lv_aload_n hx hb dX1_addArc_26 rfl (lv_at hl 0 rfl) ?_
    refine va_get (D := D) (ci := 1) (v := .int g_arcs) (C := RX1) (T := TX1) (N := 9) hx hb hts fi_X1_addArc_X1 hown hK hP 0 rfl rfl 1 (by decide) (hts _ fl_X1_addArc_1) (fun _ h9 => h9) rfl dX1_addArc_27 ?_
    refine lv_iload_n hx hb dX1_addArc_30 rfl (lv_at hl 2 rfl) ?_
    obtain ⟨hi2, hw⟩ := hw
    refine va_iast hx hb hK hP hD hS 3 0 rfl rfl hi2 dX1_addArc_31 (fun H locs hP hD hS => ?_)
    have hP : va_P D vwCl (sh_X1 cA a_g g_vertices g_arcs g_firsts g_begins (upd g_arcFrom g_arcs.toNatClampNeg x1) (upd g_arcTo g_arcs.toNatClampNeg x2) g_weights g_firstTo g_firstValue) H := hP
    have hD : va_D A (sh_X1 cA a_g g_vertices g_arcs g_firsts g_begins (upd g_arcFrom g_arcs.toNatClampNeg x1) (upd g_arcTo g_arcs.toNatClampNeg x2) g_weights g_firstTo g_firstValue) := hD
    refine lv_aload_n hx hb dX1_addArc_32 rfl (lv_at hl 0 rfl) ?_
    refine va_get (D := D) (ci := 1) (v := .ref (a_g 4)) (C := RX1) (T := TX1) (N := 9) hx hb hts fi_X1_addArc_X1 hown hK hP 0 rfl rfl 6 (by decide) (hts _ fl_X1_addArc_4) (fun _ h9 => h9) rfl dX1_addArc_33 ?_
    refine lv_aload_n hx hb dX1_addArc_36 rfl (lv_at hl 0 rfl) ?_
    refine va_get (D := D) (ci := 1) (v := .int g_arcs) (C := RX1) (T := TX1) (N := 9) hx hb hts fi_X1_addArc_X1 hown hK hP 0 rfl rfl 1 (by decide) (hts _ fl_X1_addArc_1) (fun _ h9 => h9) rfl dX1_addArc_37 ?_
    refine lv_iload_n hx hb dX1_addArc_40 rfl (lv_at hl 3 rfl) ?_
    obtain ⟨hi3, hw⟩ := hw
    refine va_iast hx hb hK hP hD hS 4 0 rfl rfl hi3 dX1_addArc_41 (fun H locs hP hD hS => ?_)
    have hP : va_P D vwCl (sh_X1 cA a_g g_vertices g_arcs g_firsts g_begins (upd g_arcFrom g_arcs.toNatClampNeg x1) (upd g_arcTo g_arcs.toNatClampNeg x2) (upd g_weights g_arcs.toNatClampNeg x3) g_firstTo g_firstValue) H := hP
    have hD : va_D A (sh_X1 cA a_g g_vertices g_arcs g_firsts g_begins (upd g_arcFrom g_arcs.toNatClampNeg x1) (upd g_arcTo g_arcs.toNatClampNeg x2) (upd g_weights g_arcs.toNatClampNeg x3) g_firstTo g_firstValue) := hD
    refine lv_aload_n hx hb dX1_addArc_42 rfl (lv_at hl 0 rfl) ?_
    refine lv_dup hx hb dX1_addArc_43 rfl ?_
    refine va_get (D := D) (ci := 1) (v := .int g_arcs) (C := RX1) (T := TX1) (N := 9) hx hb hts fi_X1_addArc_X1 hown hK hP 0 rfl rfl 1 (by decide) (hts _ fl_X1_addArc_1) (fun _ h9 => h9) rfl dX1_addArc_44 ?_
    refine lv_iconst (v := 1) hx hb dX1_addArc_47 (by decide) ?_
    refine lv_iadd hx hb dX1_addArc_48 ?_
    refine va_put (D := D) (ci := 1) (v := .int (g_arcs + 1)) (ty := .int) (C := RX1) (T := TX1) (N := 9) hx hb hts fi_X1_addArc_X1 tyX1 tyX1_ok nmX1 hown hK hP hD hS 0 rfl rfl 1 (by decide) (hts _ fl_X1_addArc_1) (fun _ h9 => h9) rfl (by decide +kernel) rfl rfl (Nat.le_of_ble_eq_true rfl) dX1_addArc_49 (fun H locs hP hD hS => ?_)
    have hP : va_P D vwCl (sh_X1 cA a_g g_vertices (g_arcs + 1) g_firsts g_begins (upd g_arcFrom g_arcs.toNatClampNeg x1) (upd g_arcTo g_arcs.toNatClampNeg x2) (upd g_weights g_arcs.toNatClampNeg x3) g_firstTo g_firstValue) H := hP
    have hD : va_D A (sh_X1 cA a_g g_vertices (g_arcs + 1) g_firsts g_begins (upd g_arcFrom g_arcs.toNatClampNeg x1) (upd g_arcTo g_arcs.toNatClampNeg x2) (upd g_weights g_arcs.toNatClampNeg x3) g_firstTo g_firstValue) := hD
    refine lv_aload_n hx hb dX1_addArc_52 rfl (lv_at hl 0 rfl) ?_
    refine va_get (D := D) (ci := 1) (v := .int (g_arcs + 1)) (C := RX1) (T := TX1) (N := 9) hx hb hts fi_X1_addArc_X1 hown hK hP 0 rfl rfl 1 (by decide) (hts _ fl_X1_addArc_1) (fun _ h9 => h9) rfl dX1_addArc_53 ?_
    refine lv_iconst (v := 1) hx hb dX1_addArc_56 (by decide) ?_
    refine lv_isub hx hb dX1_addArc_57 ?_
    exact W.iret (v := ((g_arcs + 1) - 1)) hx hb hr (fun t ht hW => ⟨⟨((g_arcs + 1) - 1), ((g_arcs + 1), (upd g_arcFrom g_arcs.toNatClampNeg x1), (upd g_arcTo g_arcs.toNatClampNeg x2), (upd g_weights g_arcs.toNatClampNeg x3)), rfl, hw, by rw [ht]; exact hP, va_K.moved hW.alike hK, hD⟩, hS.F ht⟩) hS.2.2 dX1_addArc_58
  · have hw := hw.2 hc
    refine lv_bipush (v := (-104)) hx hb dX1_addArc_9 (by decide) ?_
    exact W.iret (v := (-104)) hx hb hr (fun t ht hW => ⟨⟨(-104), (g_arcs, g_arcFrom, g_arcTo, g_weights), rfl, hw, by rw [ht]; exact hP, va_K.moved hW.alike hK, hD⟩, hS.F ht⟩) hS.2.2 dX1_addArc_11
set_option maxHeartbeats 4000000 in
set_option maxRecDepth 100000 in
theorem c_X1_addArc (l : Launch) (D : va_G) (cA : Nat → ClassId) (a_g : Nat → Nat) (sz : Nat) (g_vertices : Int32) (g_arcs : Int32) (g_firsts : Int32) (g_begins : (Nat → Int32)) (g_arcFrom : (Nat → Int32)) (g_arcTo : (Nat → Int32)) (g_weights : (Nat → Int32)) (g_firstTo : (Nat → Int32)) (g_firstValue : (Nat → Int32)) (x1 : Int32) (x2 : Int32) (x3 : Int32) (post : Int32 → Int32 → (Nat → Int32) → (Nat → Int32) → (Nat → Int32) → Prop) (hw : wp_X1_addArc g_arcs g_arcFrom g_arcTo g_weights x1 x2 x3 post) : Met l yX1_addArc wsX1_addArc rm_X1_addArc (cPre D cA sz [.ref (a_g 0), .int x1, .int x2, .int x3] (sh_X1 cA a_g g_vertices g_arcs g_firsts g_begins g_arcFrom g_arcTo g_weights g_firstTo g_firstValue)) (q_X1_addArc D cA (va_A (sh_X1 cA a_g g_vertices g_arcs g_firsts g_begins g_arcFrom g_arcTo g_weights g_firstTo g_firstValue) sz) a_g g_vertices g_firsts g_begins g_firstTo g_firstValue post) 0 0 (va_A (sh_X1 cA a_g g_vertices g_arcs g_firsts g_begins g_arcFrom g_arcTo g_weights g_firstTo g_firstValue) sz) := by
  refine Met.ofW (cc := cX1_addArc) (maxL := 4) (ret := (some .int)) (by decide) rfl ?_
  intro p e s m args below meth c s₁ B hml hv
  obtain ⟨rfl, hsz, hP, hK, hD0⟩ := hv
  have hown : s.vm.findClass RX1 = some m.cls := findClass_of_methodNamed B.named
  subst hsz
  have hD := hD0.self (sz := s.heap.size)
  have hl := lv_entry ([.ref (a_g 0), .int x1, .int x2, .int x3]) (n := 4) (Nat.le_of_ble_eq_true rfl)
  rw [lg_entry_eq]
  exact k_X1_addArc_0 ⟨B.exec, B.bytes, B.returns, atoms_spec (ws := wsX1_addArc) B.pre, hown, B.notSynchronized, hml⟩ (fun q h => Or.inr h) hK hl hP hD va_S.rf hw
/-! X1_addFirst: addFirst(II)I -/
theorem fi_X1_addFirst_X1 : ∀ w ∈ wsX10, w ∈ wsX1_addFirst := by decide +kernel
theorem fl_X1_addFirst_1 : ((.fieldLink RX1 37 "OrderTests$Graph" "firsts" "I") : Cond) ∈ wsX1_addFirst := by decide +kernel
theorem fl_X1_addFirst_2 : ((.fieldLink RX1 24 "OrderTests$Graph" "firstTo" "[I") : Cond) ∈ wsX1_addFirst := by decide +kernel
theorem fl_X1_addFirst_3 : ((.fieldLink RX1 27 "OrderTests$Graph" "firstValue" "[I") : Cond) ∈ wsX1_addFirst := by decide +kernel
abbrev rm_X1_addFirst : Room := { frames := 0, cells := 0, slots := 0, locals := 0 }
abbrev q_X1_addFirst (D : va_G) (cA : Nat → ClassId) (A : Nat → Prop) (a_g : Nat → Nat) (g_vertices : Int32) (g_arcs : Int32) (g_begins : (Nat → Int32)) (g_arcFrom : (Nat → Int32)) (g_arcTo : (Nat → Int32)) (g_weights : (Nat → Int32)) (post : Int32 → Int32 → (Nat → Int32) → (Nat → Int32) → Prop) : Array Value → State → Outcome → State → Prop := va_Qi (fun (r : Int32) (u : Int32 × (Nat → Int32) × (Nat → Int32)) => post r u.1 u.2.1 u.2.2) (cOut D cA A (fun (u : Int32 × (Nat → Int32) × (Nat → Int32)) => sh_X1 cA a_g g_vertices g_arcs u.1 g_begins g_arcFrom g_arcTo g_weights u.2.1 u.2.2)) A
set_option maxHeartbeats 4000000 in
set_option maxRecDepth 100000 in
theorem k_X1_addFirst_0 {p : Program} {l : Launch} {e : Env} {s : State} {m : MethodId} {args : Array Value} {below : List Frame} {meth : Method} {c : Code} {D : va_G} {cA : Nat → ClassId} {A : Nat → Prop} {a_g : Nat → Nat} (C : cxm RX1 cX1_addFirst 3 (some .int) wsX1_addFirst p s m args meth c) (hA : ∀ q, s.heap.size ≤ q → A q) (hK : va_K D vwCl (tyL cA) s) {g_vertices : Int32} {g_arcs : Int32} {g_begins : (Nat → Int32)} {g_arcFrom : (Nat → Int32)} {g_arcTo : (Nat → Int32)} {g_weights : (Nat → Int32)} {post : Int32 → Int32 → (Nat → Int32) → (Nat → Int32) → Prop} {x1 : Int32} {x2 : Int32} {g_firsts : Int32} {g_firstTo : (Nat → Int32)} {g_firstValue : (Nat → Int32)} {H : Heap} {locs : List Loc} {ls : Array Slot} (hl : lv_has ls 3 [(0, .ref (a_g 0)), (1, .int x1), (2, .int x2)]) (hP : va_P D vwCl (sh_X1 cA a_g g_vertices g_arcs g_firsts g_begins g_arcFrom g_arcTo g_weights g_firstTo g_firstValue) H) (hD : va_D A (sh_X1 cA a_g g_vertices g_arcs g_firsts g_begins g_arcFrom g_arcTo g_weights g_firstTo g_firstValue)) (hS : va_S A s.heap H locs) (hw : wp_X1_addFirst_0 post x1 x2 g_firsts g_firstTo g_firstValue) : W p l e rm_X1_addFirst s m args below meth c H locs 0 0 (MQ below (q_X1_addFirst D cA A a_g g_vertices g_arcs g_begins g_arcFrom g_arcTo g_weights post) args s 0 0 A) (F0 m 0 ls []) := by
  obtain ⟨hx, hb, hr, hts, hown, hlocks, hml⟩ := id C
  unfold wp_X1_addFirst_0 at hw
  refine lv_aload_n hx hb dX1_addFirst_0 rfl (lv_at hl 0 rfl) ?_
  refine va_get (D := D) (ci := 1) (v := .int g_firsts) (C := RX1) (T := TX1) (N := 9) hx hb hts fi_X1_addFirst_X1 hown hK hP 0 rfl rfl 2 (by decide) (hts _ fl_X1_addFirst_1) (fun _ h9 => h9) rfl dX1_addFirst_1 ?_
  refine lv_iconst (v := 4) hx hb dX1_addFirst_4 (by decide) ?_
  refine lv_icmp_lt (tgt := 11) hx hb dX1_addFirst_5 (by decide) (fun hc => ?_) (fun hc => ?_)
  · have hw := hw.1 hc
    refine lv_aload_n hx hb dX1_addFirst_11 rfl (lv_at hl 0 rfl) ?_
    refine va_get (D := D) (ci := 1) (v := .ref (a_g 5)) (C := RX1) (T := TX1) (N := 9) hx hb hts fi_X1_addFirst_X1 hown hK hP 0 rfl rfl 7 (by decide) (hts _ fl_X1_addFirst_2) (fun _ h9 => h9) rfl dX1_addFirst_12 ?_
    refine lv_aload_n hx hb dX1_addFirst_15 rfl (lv_at hl 0 rfl) ?_
    refine va_get (D := D) (ci := 1) (v := .int g_firsts) (C := RX1) (T := TX1) (N := 9) hx hb hts fi_X1_addFirst_X1 hown hK hP 0 rfl rfl 2 (by decide) (hts _ fl_X1_addFirst_1) (fun _ h9 => h9) rfl dX1_addFirst_16 ?_
    refine lv_iload_n hx hb dX1_addFirst_19 rfl (lv_at hl 1 rfl) ?_
    obtain ⟨hi1, hw⟩ := hw
    refine va_iast hx hb hK hP hD hS 5 0 rfl rfl hi1 dX1_addFirst_20 (fun H locs hP hD hS => ?_)
    have hP : va_P D vwCl (sh_X1 cA a_g g_vertices g_arcs g_firsts g_begins g_arcFrom g_arcTo g_weights (upd g_firstTo g_firsts.toNatClampNeg x1) g_firstValue) H := hP
    have hD : va_D A (sh_X1 cA a_g g_vertices g_arcs g_firsts g_begins g_arcFrom g_arcTo g_weights (upd g_firstTo g_firsts.toNatClampNeg x1) g_firstValue) := hD
    refine lv_aload_n hx hb dX1_addFirst_21 rfl (lv_at hl 0 rfl) ?_
    refine va_get (D := D) (ci := 1) (v := .ref (a_g 6)) (C := RX1) (T := TX1) (N := 9) hx hb hts fi_X1_addFirst_X1 hown hK hP 0 rfl rfl 8 (by decide) (hts _ fl_X1_addFirst_3) (fun _ h9 => h9) rfl dX1_addFirst_22 ?_
    refine lv_aload_n hx hb dX1_addFirst_25 rfl (lv_at hl 0 rfl) ?_
    refine va_get (D := D) (ci := 1) (v := .int g_firsts) (C := RX1) (T := TX1) (N := 9) hx hb hts fi_X1_addFirst_X1 hown hK hP 0 rfl rfl 2 (by decide) (hts _ fl_X1_addFirst_1) (fun _ h9 => h9) rfl dX1_addFirst_26 ?_
    refine lv_iload_n hx hb dX1_addFirst_29 rfl (lv_at hl 2 rfl) ?_
    obtain ⟨hi2, hw⟩ := hw
    refine va_iast hx hb hK hP hD hS 6 0 rfl rfl hi2 dX1_addFirst_30 (fun H locs hP hD hS => ?_)
    have hP : va_P D vwCl (sh_X1 cA a_g g_vertices g_arcs g_firsts g_begins g_arcFrom g_arcTo g_weights (upd g_firstTo g_firsts.toNatClampNeg x1) (upd g_firstValue g_firsts.toNatClampNeg x2)) H := hP
    have hD : va_D A (sh_X1 cA a_g g_vertices g_arcs g_firsts g_begins g_arcFrom g_arcTo g_weights (upd g_firstTo g_firsts.toNatClampNeg x1) (upd g_firstValue g_firsts.toNatClampNeg x2)) := hD
    refine lv_aload_n hx hb dX1_addFirst_31 rfl (lv_at hl 0 rfl) ?_
    refine lv_dup hx hb dX1_addFirst_32 rfl ?_
    refine va_get (D := D) (ci := 1) (v := .int g_firsts) (C := RX1) (T := TX1) (N := 9) hx hb hts fi_X1_addFirst_X1 hown hK hP 0 rfl rfl 2 (by decide) (hts _ fl_X1_addFirst_1) (fun _ h9 => h9) rfl dX1_addFirst_33 ?_
    refine lv_iconst (v := 1) hx hb dX1_addFirst_36 (by decide) ?_
    refine lv_iadd hx hb dX1_addFirst_37 ?_
    refine va_put (D := D) (ci := 1) (v := .int (g_firsts + 1)) (ty := .int) (C := RX1) (T := TX1) (N := 9) hx hb hts fi_X1_addFirst_X1 tyX1 tyX1_ok nmX1 hown hK hP hD hS 0 rfl rfl 2 (by decide) (hts _ fl_X1_addFirst_1) (fun _ h9 => h9) rfl (by decide +kernel) rfl rfl (Nat.le_of_ble_eq_true rfl) dX1_addFirst_38 (fun H locs hP hD hS => ?_)
    have hP : va_P D vwCl (sh_X1 cA a_g g_vertices g_arcs (g_firsts + 1) g_begins g_arcFrom g_arcTo g_weights (upd g_firstTo g_firsts.toNatClampNeg x1) (upd g_firstValue g_firsts.toNatClampNeg x2)) H := hP
    have hD : va_D A (sh_X1 cA a_g g_vertices g_arcs (g_firsts + 1) g_begins g_arcFrom g_arcTo g_weights (upd g_firstTo g_firsts.toNatClampNeg x1) (upd g_firstValue g_firsts.toNatClampNeg x2)) := hD
    refine lv_aload_n hx hb dX1_addFirst_41 rfl (lv_at hl 0 rfl) ?_
    refine va_get (D := D) (ci := 1) (v := .int (g_firsts + 1)) (C := RX1) (T := TX1) (N := 9) hx hb hts fi_X1_addFirst_X1 hown hK hP 0 rfl rfl 2 (by decide) (hts _ fl_X1_addFirst_1) (fun _ h9 => h9) rfl dX1_addFirst_42 ?_
    refine lv_iconst (v := 1) hx hb dX1_addFirst_45 (by decide) ?_
    refine lv_isub hx hb dX1_addFirst_46 ?_
    exact W.iret (v := ((g_firsts + 1) - 1)) hx hb hr (fun t ht hW => ⟨⟨((g_firsts + 1) - 1), ((g_firsts + 1), (upd g_firstTo g_firsts.toNatClampNeg x1), (upd g_firstValue g_firsts.toNatClampNeg x2)), rfl, hw, by rw [ht]; exact hP, va_K.moved hW.alike hK, hD⟩, hS.F ht⟩) hS.2.2 dX1_addFirst_47
  · have hw := hw.2 hc
    refine lv_bipush (v := (-104)) hx hb dX1_addFirst_8 (by decide) ?_
    exact W.iret (v := (-104)) hx hb hr (fun t ht hW => ⟨⟨(-104), (g_firsts, g_firstTo, g_firstValue), rfl, hw, by rw [ht]; exact hP, va_K.moved hW.alike hK, hD⟩, hS.F ht⟩) hS.2.2 dX1_addFirst_10
set_option maxHeartbeats 4000000 in
set_option maxRecDepth 100000 in
theorem c_X1_addFirst (l : Launch) (D : va_G) (cA : Nat → ClassId) (a_g : Nat → Nat) (sz : Nat) (g_vertices : Int32) (g_arcs : Int32) (g_firsts : Int32) (g_begins : (Nat → Int32)) (g_arcFrom : (Nat → Int32)) (g_arcTo : (Nat → Int32)) (g_weights : (Nat → Int32)) (g_firstTo : (Nat → Int32)) (g_firstValue : (Nat → Int32)) (x1 : Int32) (x2 : Int32) (post : Int32 → Int32 → (Nat → Int32) → (Nat → Int32) → Prop) (hw : wp_X1_addFirst g_firsts g_firstTo g_firstValue x1 x2 post) : Met l yX1_addFirst wsX1_addFirst rm_X1_addFirst (cPre D cA sz [.ref (a_g 0), .int x1, .int x2] (sh_X1 cA a_g g_vertices g_arcs g_firsts g_begins g_arcFrom g_arcTo g_weights g_firstTo g_firstValue)) (q_X1_addFirst D cA (va_A (sh_X1 cA a_g g_vertices g_arcs g_firsts g_begins g_arcFrom g_arcTo g_weights g_firstTo g_firstValue) sz) a_g g_vertices g_arcs g_begins g_arcFrom g_arcTo g_weights post) 0 0 (va_A (sh_X1 cA a_g g_vertices g_arcs g_firsts g_begins g_arcFrom g_arcTo g_weights g_firstTo g_firstValue) sz) := by
  refine Met.ofW (cc := cX1_addFirst) (maxL := 3) (ret := (some .int)) (by decide) rfl ?_
  intro p e s m args below meth c s₁ B hml hv
  obtain ⟨rfl, hsz, hP, hK, hD0⟩ := hv
  have hown : s.vm.findClass RX1 = some m.cls := findClass_of_methodNamed B.named
  subst hsz
  have hD := hD0.self (sz := s.heap.size)
  have hl := lv_entry ([.ref (a_g 0), .int x1, .int x2]) (n := 3) (Nat.le_of_ble_eq_true rfl)
  rw [lg_entry_eq]
  exact k_X1_addFirst_0 ⟨B.exec, B.bytes, B.returns, atoms_spec (ws := wsX1_addFirst) B.pre, hown, B.notSynchronized, hml⟩ (fun q h => Or.inr h) hK hl hP hD va_S.rf hw
