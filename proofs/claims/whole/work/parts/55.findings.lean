/-! X0_clear: clear(I)V -/
theorem fi_X0_clear_X0 : ∀ w ∈ wsX00, w ∈ wsX0_clear := by decide +kernel
theorem fl_X0_clear_1 : ((.fieldLink RX0 24 "OrderTests$Findings" "states" "I") : Cond) ∈ wsX0_clear := by decide +kernel
theorem fl_X0_clear_2 : ((.fieldLink RX0 28 "OrderTests$Findings" "vertices" "I") : Cond) ∈ wsX0_clear := by decide +kernel
theorem fl_X0_clear_3 : ((.fieldLink RX0 31 "OrderTests$Findings" "ends" "I") : Cond) ∈ wsX0_clear := by decide +kernel
theorem fl_X0_clear_4 : ((.fieldLink RX0 34 "OrderTests$Findings" "stepless" "I") : Cond) ∈ wsX0_clear := by decide +kernel
theorem fl_X0_clear_5 : ((.fieldLink RX0 37 "OrderTests$Findings" "mostPending" "I") : Cond) ∈ wsX0_clear := by decide +kernel
theorem fl_X0_clear_6 : ((.fieldLink RX0 40 "OrderTests$Findings" "whole" "Z") : Cond) ∈ wsX0_clear := by decide +kernel
abbrev rm_X0_clear : Room := { frames := 0, cells := 0, slots := 0, locals := 0 }
abbrev q_X0_clear (D : va_G) (cA : Nat → ClassId) (A : Nat → Prop) (a_fi : Nat → Nat) (fi_endValues : (Nat → Int32)) (fi_endStates : (Nat → Int32)) (fi_parents : (Nat → Int32)) (fi_steps : (Nat → Int32)) (post : Int32 → Int32 → Int32 → Int32 → Int32 → Int32 → Prop) : Array Value → State → Outcome → State → Prop := va_Qv (fun (u : Int32 × Int32 × Int32 × Int32 × Int32 × Int32) => post u.1 u.2.1 u.2.2.1 u.2.2.2.1 u.2.2.2.2.1 u.2.2.2.2.2) (cOut D cA A (fun (u : Int32 × Int32 × Int32 × Int32 × Int32 × Int32) => sh_X0 cA a_fi u.1 u.2.1 u.2.2.1 u.2.2.2.1 u.2.2.2.2.1 u.2.2.2.2.2 fi_endValues fi_endStates fi_parents fi_steps)) A
set_option maxHeartbeats 4000000 in
set_option maxRecDepth 100000 in
theorem k_X0_clear_0 {p : Program} {l : Launch} {e : Env} {s : State} {m : MethodId} {args : Array Value} {below : List Frame} {meth : Method} {c : Code} {D : va_G} {cA : Nat → ClassId} {A : Nat → Prop} {a_fi : Nat → Nat} (C : cxm RX0 cX0_clear 2 none wsX0_clear p s m args meth c) (hA : ∀ q, s.heap.size ≤ q → A q) (hK : va_K D vwCl (tyL cA) s) {fi_endValues : (Nat → Int32)} {fi_endStates : (Nat → Int32)} {fi_parents : (Nat → Int32)} {fi_steps : (Nat → Int32)} {post : Int32 → Int32 → Int32 → Int32 → Int32 → Int32 → Prop} {x1 : Int32} {fi_states : Int32} {fi_vertices : Int32} {fi_ends : Int32} {fi_stepless : Int32} {fi_mostPending : Int32} {fi_whole : Int32} {H : Heap} {locs : List Loc} {ls : Array Slot} (hl : lv_has ls 2 [(0, .ref (a_fi 0)), (1, .int x1)]) (hP : va_P D vwCl (sh_X0 cA a_fi fi_states fi_vertices fi_ends fi_stepless fi_mostPending fi_whole fi_endValues fi_endStates fi_parents fi_steps) H) (hD : va_D A (sh_X0 cA a_fi fi_states fi_vertices fi_ends fi_stepless fi_mostPending fi_whole fi_endValues fi_endStates fi_parents fi_steps)) (hS : va_S A s.heap H locs) (hw : wp_X0_clear_0 post x1 fi_states fi_vertices fi_ends fi_stepless fi_mostPending fi_whole) : W p l e rm_X0_clear s m args below meth c H locs 0 0 (MQ below (q_X0_clear D cA A a_fi fi_endValues fi_endStates fi_parents fi_steps post) args s 0 0 A) (F0 m 0 ls []) := by
  obtain ⟨hx, hb, hr, hts, hown, hlocks, hml⟩ := id C
  unfold wp_X0_clear_0 at hw
  refine lv_aload_n hx hb dX0_clear_0 rfl (lv_at hl 0 rfl) ?_
  refine lv_iconst (v := 0) hx hb dX0_clear_1 (by decide) ?_
  refine va_put (D := D) (ci := 0) (v := .int 0) (ty := .int) (C := RX0) (T := TX0) (N := 10) hx hb hts fi_X0_clear_X0 tyX0 tyX0_ok nmX0 hown hK hP hD hS 0 rfl rfl 0 (by decide) (hts _ fl_X0_clear_1) (fun _ h9 => h9) rfl (by decide +kernel) rfl rfl (Nat.le_of_ble_eq_true rfl) dX0_clear_2 (fun H locs hP hD hS => ?_)
  have hP : va_P D vwCl (sh_X0 cA a_fi (0 : Int32) fi_vertices fi_ends fi_stepless fi_mostPending fi_whole fi_endValues fi_endStates fi_parents fi_steps) H := hP
  have hD : va_D A (sh_X0 cA a_fi (0 : Int32) fi_vertices fi_ends fi_stepless fi_mostPending fi_whole fi_endValues fi_endStates fi_parents fi_steps) := hD
  refine lv_aload_n hx hb dX0_clear_5 rfl (lv_at hl 0 rfl) ?_
  refine lv_iload_n hx hb dX0_clear_6 rfl (lv_at hl 1 rfl) ?_
  refine va_put (D := D) (ci := 0) (v := .int x1) (ty := .int) (C := RX0) (T := TX0) (N := 10) hx hb hts fi_X0_clear_X0 tyX0 tyX0_ok nmX0 hown hK hP hD hS 0 rfl rfl 1 (by decide) (hts _ fl_X0_clear_2) (fun _ h9 => h9) rfl (by decide +kernel) rfl rfl (Nat.le_of_ble_eq_true rfl) dX0_clear_7 (fun H locs hP hD hS => ?_)
  have hP : va_P D vwCl (sh_X0 cA a_fi (0 : Int32) x1 fi_ends fi_stepless fi_mostPending fi_whole fi_endValues fi_endStates fi_parents fi_steps) H := hP
  have hD : va_D A (sh_X0 cA a_fi (0 : Int32) x1 fi_ends fi_stepless fi_mostPending fi_whole fi_endValues fi_endStates fi_parents fi_steps) := hD
  refine lv_aload_n hx hb dX0_clear_10 rfl (lv_at hl 0 rfl) ?_
  refine lv_iconst (v := 0) hx hb dX0_clear_11 (by decide) ?_
  refine va_put (D := D) (ci := 0) (v := .int 0) (ty := .int) (C := RX0) (T := TX0) (N := 10) hx hb hts fi_X0_clear_X0 tyX0 tyX0_ok nmX0 hown hK hP hD hS 0 rfl rfl 2 (by decide) (hts _ fl_X0_clear_3) (fun _ h9 => h9) rfl (by decide +kernel) rfl rfl (Nat.le_of_ble_eq_true rfl) dX0_clear_12 (fun H locs hP hD hS => ?_)
  have hP : va_P D vwCl (sh_X0 cA a_fi (0 : Int32) x1 (0 : Int32) fi_stepless fi_mostPending fi_whole fi_endValues fi_endStates fi_parents fi_steps) H := hP
  have hD : va_D A (sh_X0 cA a_fi (0 : Int32) x1 (0 : Int32) fi_stepless fi_mostPending fi_whole fi_endValues fi_endStates fi_parents fi_steps) := hD
  refine lv_aload_n hx hb dX0_clear_15 rfl (lv_at hl 0 rfl) ?_
  refine lv_iconst (v := 0) hx hb dX0_clear_16 (by decide) ?_
  refine va_put (D := D) (ci := 0) (v := .int 0) (ty := .int) (C := RX0) (T := TX0) (N := 10) hx hb hts fi_X0_clear_X0 tyX0 tyX0_ok nmX0 hown hK hP hD hS 0 rfl rfl 3 (by decide) (hts _ fl_X0_clear_4) (fun _ h9 => h9) rfl (by decide +kernel) rfl rfl (Nat.le_of_ble_eq_true rfl) dX0_clear_17 (fun H locs hP hD hS => ?_)
  have hP : va_P D vwCl (sh_X0 cA a_fi (0 : Int32) x1 (0 : Int32) (0 : Int32) fi_mostPending fi_whole fi_endValues fi_endStates fi_parents fi_steps) H := hP
  have hD : va_D A (sh_X0 cA a_fi (0 : Int32) x1 (0 : Int32) (0 : Int32) fi_mostPending fi_whole fi_endValues fi_endStates fi_parents fi_steps) := hD
  refine lv_aload_n hx hb dX0_clear_20 rfl (lv_at hl 0 rfl) ?_
  refine lv_iconst (v := 0) hx hb dX0_clear_21 (by decide) ?_
  refine va_put (D := D) (ci := 0) (v := .int 0) (ty := .int) (C := RX0) (T := TX0) (N := 10) hx hb hts fi_X0_clear_X0 tyX0 tyX0_ok nmX0 hown hK hP hD hS 0 rfl rfl 4 (by decide) (hts _ fl_X0_clear_5) (fun _ h9 => h9) rfl (by decide +kernel) rfl rfl (Nat.le_of_ble_eq_true rfl) dX0_clear_22 (fun H locs hP hD hS => ?_)
  have hP : va_P D vwCl (sh_X0 cA a_fi (0 : Int32) x1 (0 : Int32) (0 : Int32) (0 : Int32) fi_whole fi_endValues fi_endStates fi_parents fi_steps) H := hP
  have hD : va_D A (sh_X0 cA a_fi (0 : Int32) x1 (0 : Int32) (0 : Int32) (0 : Int32) fi_whole fi_endValues fi_endStates fi_parents fi_steps) := hD
  refine lv_aload_n hx hb dX0_clear_25 rfl (lv_at hl 0 rfl) ?_
  refine lv_iconst (v := 0) hx hb dX0_clear_26 (by decide) ?_
  refine va_put (D := D) (ci := 0) (v := .int 0) (ty := .boolean) (C := RX0) (T := TX0) (N := 10) hx hb hts fi_X0_clear_X0 tyX0 tyX0_ok nmX0 hown hK hP hD hS 0 rfl rfl 5 (by decide) (hts _ fl_X0_clear_6) (fun _ h9 => h9) rfl (by decide +kernel) rfl rfl (Nat.le_of_ble_eq_true rfl) dX0_clear_27 (fun H locs hP hD hS => ?_)
  have hP : va_P D vwCl (sh_X0 cA a_fi (0 : Int32) x1 (0 : Int32) (0 : Int32) (0 : Int32) (0 : Int32) fi_endValues fi_endStates fi_parents fi_steps) H := hP
  have hD : va_D A (sh_X0 cA a_fi (0 : Int32) x1 (0 : Int32) (0 : Int32) (0 : Int32) (0 : Int32) fi_endValues fi_endStates fi_parents fi_steps) := hD
  exact W.vret hx hb hr (fun t ht hW => ⟨⟨((0 : Int32), x1, (0 : Int32), (0 : Int32), (0 : Int32), (0 : Int32)), rfl, hw, by rw [ht]; exact hP, va_K.moved hW.alike hK, hD⟩, hS.F ht⟩) hS.2.2 dX0_clear_30
set_option maxHeartbeats 4000000 in
set_option maxRecDepth 100000 in
theorem c_X0_clear (l : Launch) (D : va_G) (cA : Nat → ClassId) (a_fi : Nat → Nat) (sz : Nat) (fi_states : Int32) (fi_vertices : Int32) (fi_ends : Int32) (fi_stepless : Int32) (fi_mostPending : Int32) (fi_whole : Int32) (fi_endValues : (Nat → Int32)) (fi_endStates : (Nat → Int32)) (fi_parents : (Nat → Int32)) (fi_steps : (Nat → Int32)) (x1 : Int32) (post : Int32 → Int32 → Int32 → Int32 → Int32 → Int32 → Prop) (hw : wp_X0_clear fi_states fi_vertices fi_ends fi_stepless fi_mostPending fi_whole x1 post) : Met l yX0_clear wsX0_clear rm_X0_clear (cPre D cA sz [.ref (a_fi 0), .int x1] (sh_X0 cA a_fi fi_states fi_vertices fi_ends fi_stepless fi_mostPending fi_whole fi_endValues fi_endStates fi_parents fi_steps)) (q_X0_clear D cA (va_A (sh_X0 cA a_fi fi_states fi_vertices fi_ends fi_stepless fi_mostPending fi_whole fi_endValues fi_endStates fi_parents fi_steps) sz) a_fi fi_endValues fi_endStates fi_parents fi_steps post) 0 0 (va_A (sh_X0 cA a_fi fi_states fi_vertices fi_ends fi_stepless fi_mostPending fi_whole fi_endValues fi_endStates fi_parents fi_steps) sz) := by
  refine Met.ofW (cc := cX0_clear) (maxL := 2) (ret := none) (by decide) rfl ?_
  intro p e s m args below meth c s₁ B hml hv
  obtain ⟨rfl, hsz, hP, hK, hD0⟩ := hv
  have hown : s.vm.findClass RX0 = some m.cls := findClass_of_methodNamed B.named
  subst hsz
  have hD := hD0.self (sz := s.heap.size)
  have hl := lv_entry ([.ref (a_fi 0), .int x1]) (n := 2) (Nat.le_of_ble_eq_true rfl)
  rw [lg_entry_eq]
  exact k_X0_clear_0 ⟨B.exec, B.bytes, B.returns, atoms_spec (ws := wsX0_clear) B.pre, hown, B.notSynchronized, hml⟩ (fun q h => Or.inr h) hK hl hP hD va_S.rf hw
/-! X0_noteEnd: noteEnd(I)V -/
theorem fi_X0_noteEnd_X0 : ∀ w ∈ wsX00, w ∈ wsX0_noteEnd := by decide +kernel
theorem fl_X0_noteEnd_1 : ((.fieldLink RX0 31 "OrderTests$Findings" "ends" "I") : Cond) ∈ wsX0_noteEnd := by decide +kernel
theorem fl_X0_noteEnd_2 : ((.fieldLink RX0 9 "OrderTests$Findings" "endValues" "[I") : Cond) ∈ wsX0_noteEnd := by decide +kernel
theorem fl_X0_noteEnd_3 : ((.fieldLink RX0 15 "OrderTests$Findings" "endStates" "[I") : Cond) ∈ wsX0_noteEnd := by decide +kernel
theorem fl_X0_noteEnd_4 : ((.fieldLink RX0 24 "OrderTests$Findings" "states" "I") : Cond) ∈ wsX0_noteEnd := by decide +kernel
abbrev rm_X0_noteEnd : Room := { frames := 0, cells := 0, slots := 0, locals := 0 }
abbrev q_X0_noteEnd (D : va_G) (cA : Nat → ClassId) (A : Nat → Prop) (a_fi : Nat → Nat) (fi_states : Int32) (fi_vertices : Int32) (fi_stepless : Int32) (fi_mostPending : Int32) (fi_whole : Int32) (fi_parents : (Nat → Int32)) (fi_steps : (Nat → Int32)) (post : Int32 → (Nat → Int32) → (Nat → Int32) → Prop) : Array Value → State → Outcome → State → Prop := va_Qv (fun (u : Int32 × (Nat → Int32) × (Nat → Int32)) => post u.1 u.2.1 u.2.2) (cOut D cA A (fun (u : Int32 × (Nat → Int32) × (Nat → Int32)) => sh_X0 cA a_fi fi_states fi_vertices u.1 fi_stepless fi_mostPending fi_whole u.2.1 u.2.2 fi_parents fi_steps)) A
set_option maxHeartbeats 4000000 in
set_option maxRecDepth 100000 in
theorem b_X0_noteEnd_2 {p : Program} {l : Launch} {e : Env} {s : State} {m : MethodId} {args : Array Value} {below : List Frame} {meth : Method} {c : Code} {D : va_G} {cA : Nat → ClassId} {A : Nat → Prop} {a_fi : Nat → Nat} (C : cxm RX0 cX0_noteEnd 3 none wsX0_noteEnd p s m args meth c) (hA : ∀ q, s.heap.size ≤ q → A q) (hK : va_K D vwCl (tyL cA) s) {fi_states : Int32} {fi_vertices : Int32} {fi_stepless : Int32} {fi_mostPending : Int32} {fi_whole : Int32} {fi_parents : (Nat → Int32)} {fi_steps : (Nat → Int32)} {post : Int32 → (Nat → Int32) → (Nat → Int32) → Prop} {x1 : Int32} {x2 : Int32} {fi_ends : Int32} {fi_endValues : (Nat → Int32)} {fi_endStates : (Nat → Int32)} {K2 : Int32 → Prop} (hk2 : ∀ (H : Heap) (locs : List Loc) (ls : Array Slot) (x2 : Int32), lv_has ls 3 [(0, .ref (a_fi 0)), (1, .int x1), (2, .int x2)] → va_P D vwCl (sh_X0 cA a_fi fi_states fi_vertices fi_ends fi_stepless fi_mostPending fi_whole fi_endValues fi_endStates fi_parents fi_steps) H → va_D A (sh_X0 cA a_fi fi_states fi_vertices fi_ends fi_stepless fi_mostPending fi_whole fi_endValues fi_endStates fi_parents fi_steps) → va_S A s.heap H locs → K2 x2 → W p l e rm_X0_noteEnd s m args below meth c H locs 0 0 (MQ below (q_X0_noteEnd D cA A a_fi fi_states fi_vertices fi_stepless fi_mostPending fi_whole fi_parents fi_steps post) args s 0 0 A) (F0 m 2 ls [])) {H : Heap} {locs : List Loc} {ls : Array Slot} (hl : lv_has ls 3 [(0, .ref (a_fi 0)), (1, .int x1), (2, .int x2)]) (hP : va_P D vwCl (sh_X0 cA a_fi fi_states fi_vertices fi_ends fi_stepless fi_mostPending fi_whole fi_endValues fi_endStates fi_parents fi_steps) H) (hD : va_D A (sh_X0 cA a_fi fi_states fi_vertices fi_ends fi_stepless fi_mostPending fi_whole fi_endValues fi_endStates fi_parents fi_steps)) (hS : va_S A s.heap H locs) (hw : bd_X0_noteEnd_2 fi_states post K2 x1 x2 fi_ends fi_endValues fi_endStates) : W p l e rm_X0_noteEnd s m args below meth c H locs 0 0 (MQ below (q_X0_noteEnd D cA A a_fi fi_states fi_vertices fi_stepless fi_mostPending fi_whole fi_parents fi_steps post) args s 0 0 A) (F0 m 2 ls []) := by
  obtain ⟨hx, hb, hr, hts, hown, hlocks, hml⟩ := id C
  unfold bd_X0_noteEnd_2 at hw
  refine lv_iload_n hx hb dX0_noteEnd_2 rfl (lv_at hl 2 rfl) ?_
  refine lv_aload_n hx hb dX0_noteEnd_3 rfl (lv_at hl 0 rfl) ?_
  refine va_get (D := D) (ci := 0) (v := .int fi_ends) (C := RX0) (T := TX0) (N := 10) hx hb hts fi_X0_noteEnd_X0 hown hK hP 0 rfl rfl 2 (by decide) (hts _ fl_X0_noteEnd_1) (fun _ h9 => h9) rfl dX0_noteEnd_4 ?_
  refine lv_icmp_ge (tgt := 27) hx hb dX0_noteEnd_7 (by decide) (fun hc => ?_) (fun hc => ?_)
  · have hw := hw.1 hc
    refine lv_aload_n hx hb dX0_noteEnd_27 rfl (lv_at hl 0 rfl) ?_
    refine va_get (D := D) (ci := 0) (v := .int fi_ends) (C := RX0) (T := TX0) (N := 10) hx hb hts fi_X0_noteEnd_X0 hown hK hP 0 rfl rfl 2 (by decide) (hts _ fl_X0_noteEnd_1) (fun _ h9 => h9) rfl dX0_noteEnd_28 ?_
    refine lv_sipush (v := 600) hx hb dX0_noteEnd_31 (by decide) ?_
    refine lv_icmp_ge (tgt := 70) hx hb dX0_noteEnd_34 (by decide) (fun hc => ?_) (fun hc => ?_)
    · have hw := hw.1 hc
      exact W.vret hx hb hr (fun t ht hW => ⟨⟨(fi_ends, fi_endValues, fi_endStates), rfl, hw, by rw [ht]; exact hP, va_K.moved hW.alike hK, hD⟩, hS.F ht⟩) hS.2.2 dX0_noteEnd_70
    · have hw := hw.2 hc
      refine lv_aload_n hx hb dX0_noteEnd_37 rfl (lv_at hl 0 rfl) ?_
      refine va_get (D := D) (ci := 0) (v := .ref (a_fi 1)) (C := RX0) (T := TX0) (N := 10) hx hb hts fi_X0_noteEnd_X0 hown hK hP 0 rfl rfl 6 (by decide) (hts _ fl_X0_noteEnd_2) (fun _ h9 => h9) rfl dX0_noteEnd_38 ?_
      refine lv_aload_n hx hb dX0_noteEnd_41 rfl (lv_at hl 0 rfl) ?_
      refine va_get (D := D) (ci := 0) (v := .int fi_ends) (C := RX0) (T := TX0) (N := 10) hx hb hts fi_X0_noteEnd_X0 hown hK hP 0 rfl rfl 2 (by decide) (hts _ fl_X0_noteEnd_1) (fun _ h9 => h9) rfl dX0_noteEnd_42 ?_
      refine lv_iload_n hx hb dX0_noteEnd_45 rfl (lv_at hl 1 rfl) ?_
      obtain ⟨hi1, hw⟩ := hw
      refine va_iast hx hb hK hP hD hS 1 0 rfl rfl hi1 dX0_noteEnd_46 (fun H locs hP hD hS => ?_)
      have hP : va_P D vwCl (sh_X0 cA a_fi fi_states fi_vertices fi_ends fi_stepless fi_mostPending fi_whole (upd fi_endValues fi_ends.toNatClampNeg x1) fi_endStates fi_parents fi_steps) H := hP
      have hD : va_D A (sh_X0 cA a_fi fi_states fi_vertices fi_ends fi_stepless fi_mostPending fi_whole (upd fi_endValues fi_ends.toNatClampNeg x1) fi_endStates fi_parents fi_steps) := hD
      refine lv_aload_n hx hb dX0_noteEnd_47 rfl (lv_at hl 0 rfl) ?_
      refine va_get (D := D) (ci := 0) (v := .ref (a_fi 2)) (C := RX0) (T := TX0) (N := 10) hx hb hts fi_X0_noteEnd_X0 hown hK hP 0 rfl rfl 7 (by decide) (hts _ fl_X0_noteEnd_3) (fun _ h9 => h9) rfl dX0_noteEnd_48 ?_
      refine lv_aload_n hx hb dX0_noteEnd_51 rfl (lv_at hl 0 rfl) ?_
      refine va_get (D := D) (ci := 0) (v := .int fi_ends) (C := RX0) (T := TX0) (N := 10) hx hb hts fi_X0_noteEnd_X0 hown hK hP 0 rfl rfl 2 (by decide) (hts _ fl_X0_noteEnd_1) (fun _ h9 => h9) rfl dX0_noteEnd_52 ?_
      refine lv_aload_n hx hb dX0_noteEnd_55 rfl (lv_at hl 0 rfl) ?_
      refine va_get (D := D) (ci := 0) (v := .int fi_states) (C := RX0) (T := TX0) (N := 10) hx hb hts fi_X0_noteEnd_X0 hown hK hP 0 rfl rfl 0 (by decide) (hts _ fl_X0_noteEnd_4) (fun _ h9 => h9) rfl dX0_noteEnd_56 ?_
      obtain ⟨hi2, hw⟩ := hw
      refine va_iast hx hb hK hP hD hS 2 0 rfl rfl hi2 dX0_noteEnd_59 (fun H locs hP hD hS => ?_)
      have hP : va_P D vwCl (sh_X0 cA a_fi fi_states fi_vertices fi_ends fi_stepless fi_mostPending fi_whole (upd fi_endValues fi_ends.toNatClampNeg x1) (upd fi_endStates fi_ends.toNatClampNeg fi_states) fi_parents fi_steps) H := hP
      have hD : va_D A (sh_X0 cA a_fi fi_states fi_vertices fi_ends fi_stepless fi_mostPending fi_whole (upd fi_endValues fi_ends.toNatClampNeg x1) (upd fi_endStates fi_ends.toNatClampNeg fi_states) fi_parents fi_steps) := hD
      refine lv_aload_n hx hb dX0_noteEnd_60 rfl (lv_at hl 0 rfl) ?_
      refine lv_dup hx hb dX0_noteEnd_61 rfl ?_
      refine va_get (D := D) (ci := 0) (v := .int fi_ends) (C := RX0) (T := TX0) (N := 10) hx hb hts fi_X0_noteEnd_X0 hown hK hP 0 rfl rfl 2 (by decide) (hts _ fl_X0_noteEnd_1) (fun _ h9 => h9) rfl dX0_noteEnd_62 ?_
      refine lv_iconst (v := 1) hx hb dX0_noteEnd_65 (by decide) ?_
      refine lv_iadd hx hb dX0_noteEnd_66 ?_
      refine va_put (D := D) (ci := 0) (v := .int (fi_ends + 1)) (ty := .int) (C := RX0) (T := TX0) (N := 10) hx hb hts fi_X0_noteEnd_X0 tyX0 tyX0_ok nmX0 hown hK hP hD hS 0 rfl rfl 2 (by decide) (hts _ fl_X0_noteEnd_1) (fun _ h9 => h9) rfl (by decide +kernel) rfl rfl (Nat.le_of_ble_eq_true rfl) dX0_noteEnd_67 (fun H locs hP hD hS => ?_)
      have hP : va_P D vwCl (sh_X0 cA a_fi fi_states fi_vertices (fi_ends + 1) fi_stepless fi_mostPending fi_whole (upd fi_endValues fi_ends.toNatClampNeg x1) (upd fi_endStates fi_ends.toNatClampNeg fi_states) fi_parents fi_steps) H := hP
      have hD : va_D A (sh_X0 cA a_fi fi_states fi_vertices (fi_ends + 1) fi_stepless fi_mostPending fi_whole (upd fi_endValues fi_ends.toNatClampNeg x1) (upd fi_endStates fi_ends.toNatClampNeg fi_states) fi_parents fi_steps) := hD
      exact W.vret hx hb hr (fun t ht hW => ⟨⟨((fi_ends + 1), (upd fi_endValues fi_ends.toNatClampNeg x1), (upd fi_endStates fi_ends.toNatClampNeg fi_states)), rfl, hw, by rw [ht]; exact hP, va_K.moved hW.alike hK, hD⟩, hS.F ht⟩) hS.2.2 dX0_noteEnd_70
  · have hw := hw.2 hc
    refine lv_aload_n hx hb dX0_noteEnd_10 rfl (lv_at hl 0 rfl) ?_
    refine va_get (D := D) (ci := 0) (v := .ref (a_fi 1)) (C := RX0) (T := TX0) (N := 10) hx hb hts fi_X0_noteEnd_X0 hown hK hP 0 rfl rfl 6 (by decide) (hts _ fl_X0_noteEnd_2) (fun _ h9 => h9) rfl dX0_noteEnd_11 ?_
    refine lv_iload_n hx hb dX0_noteEnd_14 rfl (lv_at hl 2 rfl) ?_
    obtain ⟨hi3, hw⟩ := hw
    refine va_iald hx hb hK hP 1 0 rfl rfl hi3 dX0_noteEnd_15 ?_
    refine lv_iload_n hx hb dX0_noteEnd_16 rfl (lv_at hl 1 rfl) ?_
    refine lv_icmp_ne (tgt := 21) hx hb dX0_noteEnd_17 (by decide) (fun hc => ?_) (fun hc => ?_)
    · have hw := hw.1 hc
      refine lv_iinc (v := (x2 + 1)) (lv' := [(2, .int (x2 + 1)), (0, .ref (a_fi 0)), (1, .int x1)]) hx hb dX0_noteEnd_21 hl (k := 2) rfl rfl (by decide) rfl (fun ls hl => ?_)
      refine lv_goto (tgt := 2) hx hb dX0_noteEnd_24 (by decide) ?_
      exact hk2 _ _ _ (x2 + 1) (lv_sub hl [1, 2, 0] rfl) hP hD hS hw
    · have hw := hw.2 hc
      exact W.vret hx hb hr (fun t ht hW => ⟨⟨(fi_ends, fi_endValues, fi_endStates), rfl, hw, by rw [ht]; exact hP, va_K.moved hW.alike hK, hD⟩, hS.F ht⟩) hS.2.2 dX0_noteEnd_20
set_option maxHeartbeats 4000000 in
set_option maxRecDepth 100000 in
theorem k_X0_noteEnd_2 {p : Program} {l : Launch} {e : Env} {s : State} {m : MethodId} {args : Array Value} {below : List Frame} {meth : Method} {c : Code} {D : va_G} {cA : Nat → ClassId} {A : Nat → Prop} {a_fi : Nat → Nat} (C : cxm RX0 cX0_noteEnd 3 none wsX0_noteEnd p s m args meth c) (hA : ∀ q, s.heap.size ≤ q → A q) (hK : va_K D vwCl (tyL cA) s) {fi_states : Int32} {fi_vertices : Int32} {fi_stepless : Int32} {fi_mostPending : Int32} {fi_whole : Int32} {fi_parents : (Nat → Int32)} {fi_steps : (Nat → Int32)} {post : Int32 → (Nat → Int32) → (Nat → Int32) → Prop} {x1 : Int32} {x2 : Int32} {fi_ends : Int32} {fi_endValues : (Nat → Int32)} {fi_endStates : (Nat → Int32)} {H : Heap} {locs : List Loc} {ls : Array Slot} (hl : lv_has ls 3 [(0, .ref (a_fi 0)), (1, .int x1), (2, .int x2)]) (hP : va_P D vwCl (sh_X0 cA a_fi fi_states fi_vertices fi_ends fi_stepless fi_mostPending fi_whole fi_endValues fi_endStates fi_parents fi_steps) H) (hD : va_D A (sh_X0 cA a_fi fi_states fi_vertices fi_ends fi_stepless fi_mostPending fi_whole fi_endValues fi_endStates fi_parents fi_steps)) (hS : va_S A s.heap H locs) (hw : wp_X0_noteEnd_2 fi_states post x1 x2 fi_ends fi_endValues fi_endStates) : W p l e rm_X0_noteEnd s m args below meth c H locs 0 0 (MQ below (q_X0_noteEnd D cA A a_fi fi_states fi_vertices fi_stepless fi_mostPending fi_whole fi_parents fi_steps post) args s 0 0 A) (F0 m 2 ls []) := by
  obtain ⟨I, n, hI, hstep⟩ := hw
  have key : ∀ (n : Nat) (H : Heap) (locs : List Loc) (ls : Array Slot) (x2 : Int32), I n x2 → lv_has ls 3 [(0, .ref (a_fi 0)), (1, .int x1), (2, .int x2)] → va_P D vwCl (sh_X0 cA a_fi fi_states fi_vertices fi_ends fi_stepless fi_mostPending fi_whole fi_endValues fi_endStates fi_parents fi_steps) H → va_D A (sh_X0 cA a_fi fi_states fi_vertices fi_ends fi_stepless fi_mostPending fi_whole fi_endValues fi_endStates fi_parents fi_steps) → va_S A s.heap H locs → W p l e rm_X0_noteEnd s m args below meth c H locs 0 0 (MQ below (q_X0_noteEnd D cA A a_fi fi_states fi_vertices fi_stepless fi_mostPending fi_whole fi_parents fi_steps post) args s 0 0 A) (F0 m 2 ls []) := by
    intro n
    induction n using Nat.strongRecOn with
    | _ n ih =>
      intro H locs ls x2 hI hl hP hD hS
      exact b_X0_noteEnd_2 C hA hK (fun H locs ls x2 hl hP hD hS hw => by obtain ⟨n', hn, hI⟩ := hw; exact ih n' hn H locs ls x2 hI hl hP hD hS) hl hP hD hS (hstep n x2 hI)
  exact key n H locs ls x2 hI hl hP hD hS
set_option maxHeartbeats 4000000 in
set_option maxRecDepth 100000 in
theorem k_X0_noteEnd_0 {p : Program} {l : Launch} {e : Env} {s : State} {m : MethodId} {args : Array Value} {below : List Frame} {meth : Method} {c : Code} {D : va_G} {cA : Nat → ClassId} {A : Nat → Prop} {a_fi : Nat → Nat} (C : cxm RX0 cX0_noteEnd 3 none wsX0_noteEnd p s m args meth c) (hA : ∀ q, s.heap.size ≤ q → A q) (hK : va_K D vwCl (tyL cA) s) {fi_states : Int32} {fi_vertices : Int32} {fi_stepless : Int32} {fi_mostPending : Int32} {fi_whole : Int32} {fi_parents : (Nat → Int32)} {fi_steps : (Nat → Int32)} {post : Int32 → (Nat → Int32) → (Nat → Int32) → Prop} {x1 : Int32} {fi_ends : Int32} {fi_endValues : (Nat → Int32)} {fi_endStates : (Nat → Int32)} {H : Heap} {locs : List Loc} {ls : Array Slot} (hl : lv_has ls 3 [(0, .ref (a_fi 0)), (1, .int x1)]) (hP : va_P D vwCl (sh_X0 cA a_fi fi_states fi_vertices fi_ends fi_stepless fi_mostPending fi_whole fi_endValues fi_endStates fi_parents fi_steps) H) (hD : va_D A (sh_X0 cA a_fi fi_states fi_vertices fi_ends fi_stepless fi_mostPending fi_whole fi_endValues fi_endStates fi_parents fi_steps)) (hS : va_S A s.heap H locs) (hw : wp_X0_noteEnd_0 fi_states post x1 fi_ends fi_endValues fi_endStates) : W p l e rm_X0_noteEnd s m args below meth c H locs 0 0 (MQ below (q_X0_noteEnd D cA A a_fi fi_states fi_vertices fi_stepless fi_mostPending fi_whole fi_parents fi_steps post) args s 0 0 A) (F0 m 0 ls []) := by
  obtain ⟨hx, hb, hr, hts, hown, hlocks, hml⟩ := id C
  unfold wp_X0_noteEnd_0 at hw
  refine lv_iconst (v := 0) hx hb dX0_noteEnd_0 (by decide) ?_
  refine lv_istore_n (lv' := [(2, .int 0), (0, .ref (a_fi 0)), (1, .int x1)]) hx hb dX0_noteEnd_1 rfl hl (by decide) rfl (fun ls hl => ?_)
  exact k_X0_noteEnd_2 C hA hK (lv_sub hl [1, 2, 0] rfl) hP hD hS hw
set_option maxHeartbeats 4000000 in
set_option maxRecDepth 100000 in
theorem c_X0_noteEnd (l : Launch) (D : va_G) (cA : Nat → ClassId) (a_fi : Nat → Nat) (sz : Nat) (fi_states : Int32) (fi_vertices : Int32) (fi_ends : Int32) (fi_stepless : Int32) (fi_mostPending : Int32) (fi_whole : Int32) (fi_endValues : (Nat → Int32)) (fi_endStates : (Nat → Int32)) (fi_parents : (Nat → Int32)) (fi_steps : (Nat → Int32)) (x1 : Int32) (post : Int32 → (Nat → Int32) → (Nat → Int32) → Prop) (hw : wp_X0_noteEnd fi_states fi_ends fi_endValues fi_endStates x1 post) : Met l yX0_noteEnd wsX0_noteEnd rm_X0_noteEnd (cPre D cA sz [.ref (a_fi 0), .int x1] (sh_X0 cA a_fi fi_states fi_vertices fi_ends fi_stepless fi_mostPending fi_whole fi_endValues fi_endStates fi_parents fi_steps)) (q_X0_noteEnd D cA (va_A (sh_X0 cA a_fi fi_states fi_vertices fi_ends fi_stepless fi_mostPending fi_whole fi_endValues fi_endStates fi_parents fi_steps) sz) a_fi fi_states fi_vertices fi_stepless fi_mostPending fi_whole fi_parents fi_steps post) 0 0 (va_A (sh_X0 cA a_fi fi_states fi_vertices fi_ends fi_stepless fi_mostPending fi_whole fi_endValues fi_endStates fi_parents fi_steps) sz) := by
  refine Met.ofW (cc := cX0_noteEnd) (maxL := 3) (ret := none) (by decide) rfl ?_
  intro p e s m args below meth c s₁ B hml hv
  obtain ⟨rfl, hsz, hP, hK, hD0⟩ := hv
  have hown : s.vm.findClass RX0 = some m.cls := findClass_of_methodNamed B.named
  subst hsz
  have hD := hD0.self (sz := s.heap.size)
  have hl := lv_entry ([.ref (a_fi 0), .int x1]) (n := 3) (Nat.le_of_ble_eq_true rfl)
  rw [lg_entry_eq]
  exact k_X0_noteEnd_0 ⟨B.exec, B.bytes, B.returns, atoms_spec (ws := wsX0_noteEnd) B.pre, hown, B.notSynchronized, hml⟩ (fun q h => Or.inr h) hK hl hP hD va_S.rf hw
/-! X0_note: note(IIII)V -/
theorem fi_X0_note_X0 : ∀ w ∈ wsX00, w ∈ wsX0_note := by decide +kernel
theorem fl_X0_note_1 : ((.fieldLink RX0 24 "OrderTests$Findings" "states" "I") : Cond) ∈ wsX0_note := by decide +kernel
theorem fl_X0_note_2 : ((.fieldLink RX0 18 "OrderTests$Findings" "parents" "[I") : Cond) ∈ wsX0_note := by decide +kernel
theorem fl_X0_note_3 : ((.fieldLink RX0 21 "OrderTests$Findings" "steps" "[I") : Cond) ∈ wsX0_note := by decide +kernel
theorem fl_X0_note_4 : ((.fieldLink RX0 37 "OrderTests$Findings" "mostPending" "I") : Cond) ∈ wsX0_note := by decide +kernel
theorem fl_X0_note_5 : ((.methodLink RX0 44 Lib.Math.max.name) : Cond) ∈ wsX0_note := by decide +kernel
theorem fl_X0_note_6 : ((.static Lib.Math.max.name) : Cond) ∈ wsX0_note := by decide +kernel
theorem fl_X0_note_7 : ((.initialized "java/lang/Math") : Cond) ∈ wsX0_note := by decide +kernel
theorem fl_X0_note_8 : ((.code Lib.Math.max.name Lib.Math.max.code 2 (some .int)) : Cond) ∈ wsX0_note := by decide +kernel
theorem fl_X0_note_9 : ((.fieldLink RX0 34 "OrderTests$Findings" "stepless" "I") : Cond) ∈ wsX0_note := by decide +kernel
abbrev rm_X0_note : Room := { frames := 1, cells := 0, slots := 0, locals := 22 }
abbrev q_X0_note (D : va_G) (cA : Nat → ClassId) (A : Nat → Prop) (a_fi : Nat → Nat) (fi_vertices : Int32) (fi_whole : Int32) (post : Int32 → Int32 → Int32 → Int32 → (Nat → Int32) → (Nat → Int32) → (Nat → Int32) → (Nat → Int32) → Prop) : Array Value → State → Outcome → State → Prop := va_Qv (fun (u : Int32 × Int32 × Int32 × Int32 × (Nat → Int32) × (Nat → Int32) × (Nat → Int32) × (Nat → Int32)) => post u.1 u.2.1 u.2.2.1 u.2.2.2.1 u.2.2.2.2.1 u.2.2.2.2.2.1 u.2.2.2.2.2.2.1 u.2.2.2.2.2.2.2) (cOut D cA A (fun (u : Int32 × Int32 × Int32 × Int32 × (Nat → Int32) × (Nat → Int32) × (Nat → Int32) × (Nat → Int32)) => sh_X0 cA a_fi u.1 fi_vertices u.2.1 u.2.2.1 u.2.2.2.1 fi_whole u.2.2.2.2.1 u.2.2.2.2.2.1 u.2.2.2.2.2.2.1 u.2.2.2.2.2.2.2)) A
set_option maxHeartbeats 4000000 in
set_option maxRecDepth 100000 in
theorem k_X0_note_63 {p : Program} {l : Launch} {e : Env} {s : State} {m : MethodId} {args : Array Value} {below : List Frame} {meth : Method} {c : Code} {D : va_G} {cA : Nat → ClassId} {A : Nat → Prop} {a_fi : Nat → Nat} (C : cxm RX0 cX0_note 5 none wsX0_note p s m args meth c) (hA : ∀ q, s.heap.size ≤ q → A q) (hK : va_K D vwCl (tyL cA) s) {fi_vertices : Int32} {fi_whole : Int32} {post : Int32 → Int32 → Int32 → Int32 → (Nat → Int32) → (Nat → Int32) → (Nat → Int32) → (Nat → Int32) → Prop} {fi_states : Int32} {fi_ends : Int32} {fi_stepless : Int32} {fi_mostPending : Int32} {fi_endValues : (Nat → Int32)} {fi_endStates : (Nat → Int32)} {fi_parents : (Nat → Int32)} {fi_steps : (Nat → Int32)} {H : Heap} {locs : List Loc} {ls : Array Slot} (hl : lv_has ls 5 [(0, .ref (a_fi 0))]) (hP : va_P D vwCl (sh_X0 cA a_fi fi_states fi_vertices fi_ends fi_stepless fi_mostPending fi_whole fi_endValues fi_endStates fi_parents fi_steps) H) (hD : va_D A (sh_X0 cA a_fi fi_states fi_vertices fi_ends fi_stepless fi_mostPending fi_whole fi_endValues fi_endStates fi_parents fi_steps)) (hS : va_S A s.heap H locs) (hw : wp_X0_note_63 post fi_states fi_ends fi_stepless fi_mostPending fi_endValues fi_endStates fi_parents fi_steps) : W p l e rm_X0_note s m args below meth c H locs 0 0 (MQ below (q_X0_note D cA A a_fi fi_vertices fi_whole post) args s 0 0 A) (F0 m 63 ls []) := by
  obtain ⟨hx, hb, hr, hts, hown, hlocks, hml⟩ := id C
  unfold wp_X0_note_63 at hw
  refine lv_aload_n hx hb dX0_note_63 rfl (lv_at hl 0 rfl) ?_
  refine lv_dup hx hb dX0_note_64 rfl ?_
  refine va_get (D := D) (ci := 0) (v := .int fi_states) (C := RX0) (T := TX0) (N := 10) hx hb hts fi_X0_note_X0 hown hK hP 0 rfl rfl 0 (by decide) (hts _ fl_X0_note_1) (fun _ h9 => h9) rfl dX0_note_65 ?_
  refine lv_iconst (v := 1) hx hb dX0_note_68 (by decide) ?_
  refine lv_iadd hx hb dX0_note_69 ?_
  refine va_put (D := D) (ci := 0) (v := .int (fi_states + 1)) (ty := .int) (C := RX0) (T := TX0) (N := 10) hx hb hts fi_X0_note_X0 tyX0 tyX0_ok nmX0 hown hK hP hD hS 0 rfl rfl 0 (by decide) (hts _ fl_X0_note_1) (fun _ h9 => h9) rfl (by decide +kernel) rfl rfl (Nat.le_of_ble_eq_true rfl) dX0_note_70 (fun H locs hP hD hS => ?_)
  have hP : va_P D vwCl (sh_X0 cA a_fi (fi_states + 1) fi_vertices fi_ends fi_stepless fi_mostPending fi_whole fi_endValues fi_endStates fi_parents fi_steps) H := hP
  have hD : va_D A (sh_X0 cA a_fi (fi_states + 1) fi_vertices fi_ends fi_stepless fi_mostPending fi_whole fi_endValues fi_endStates fi_parents fi_steps) := hD
  exact W.vret hx hb hr (fun t ht hW => ⟨⟨((fi_states + 1), fi_ends, fi_stepless, fi_mostPending, fi_endValues, fi_endStates, fi_parents, fi_steps), rfl, hw, by rw [ht]; exact hP, va_K.moved hW.alike hK, hD⟩, hS.F ht⟩) hS.2.2 dX0_note_73
set_option maxHeartbeats 4000000 in
set_option maxRecDepth 100000 in
theorem k_X0_note_0 {p : Program} {l : Launch} {e : Env} {s : State} {m : MethodId} {args : Array Value} {below : List Frame} {meth : Method} {c : Code} {D : va_G} {cA : Nat → ClassId} {A : Nat → Prop} {a_fi : Nat → Nat} (C : cxm RX0 cX0_note 5 none wsX0_note p s m args meth c) (hA : ∀ q, s.heap.size ≤ q → A q) (hK : va_K D vwCl (tyL cA) s) {fi_vertices : Int32} {fi_whole : Int32} {post : Int32 → Int32 → Int32 → Int32 → (Nat → Int32) → (Nat → Int32) → (Nat → Int32) → (Nat → Int32) → Prop} {x1 : Int32} {x2 : Int32} {x3 : Int32} {x4 : Int32} {fi_states : Int32} {fi_ends : Int32} {fi_stepless : Int32} {fi_mostPending : Int32} {fi_endValues : (Nat → Int32)} {fi_endStates : (Nat → Int32)} {fi_parents : (Nat → Int32)} {fi_steps : (Nat → Int32)} {H : Heap} {locs : List Loc} {ls : Array Slot} (hl : lv_has ls 5 [(0, .ref (a_fi 0)), (1, .int x1), (2, .int x2), (3, .int x3), (4, .int x4)]) (hP : va_P D vwCl (sh_X0 cA a_fi fi_states fi_vertices fi_ends fi_stepless fi_mostPending fi_whole fi_endValues fi_endStates fi_parents fi_steps) H) (hD : va_D A (sh_X0 cA a_fi fi_states fi_vertices fi_ends fi_stepless fi_mostPending fi_whole fi_endValues fi_endStates fi_parents fi_steps)) (hS : va_S A s.heap H locs) (hw : wp_X0_note_0 post x1 x2 x3 x4 fi_states fi_ends fi_stepless fi_mostPending fi_endValues fi_endStates fi_parents fi_steps) : W p l e rm_X0_note s m args below meth c H locs 0 0 (MQ below (q_X0_note D cA A a_fi fi_vertices fi_whole post) args s 0 0 A) (F0 m 0 ls []) := by
  obtain ⟨hx, hb, hr, hts, hown, hlocks, hml⟩ := id C
  unfold wp_X0_note_0 at hw
  refine lv_aload_n hx hb dX0_note_0 rfl (lv_at hl 0 rfl) ?_
  refine va_get (D := D) (ci := 0) (v := .int fi_states) (C := RX0) (T := TX0) (N := 10) hx hb hts fi_X0_note_X0 hown hK hP 0 rfl rfl 0 (by decide) (hts _ fl_X0_note_1) (fun _ h9 => h9) rfl dX0_note_1 ?_
  refine lv_sipush (v := 600) hx hb dX0_note_4 (by decide) ?_
  refine lv_icmp_lt (tgt := 11) hx hb dX0_note_7 (by decide) (fun hc => ?_) (fun hc => ?_)
  · have hw := hw.1 hc
    refine lv_aload_n hx hb dX0_note_11 rfl (lv_at hl 0 rfl) ?_
    refine va_get (D := D) (ci := 0) (v := .ref (a_fi 3)) (C := RX0) (T := TX0) (N := 10) hx hb hts fi_X0_note_X0 hown hK hP 0 rfl rfl 8 (by decide) (hts _ fl_X0_note_2) (fun _ h9 => h9) rfl dX0_note_12 ?_
    refine lv_aload_n hx hb dX0_note_15 rfl (lv_at hl 0 rfl) ?_
    refine va_get (D := D) (ci := 0) (v := .int fi_states) (C := RX0) (T := TX0) (N := 10) hx hb hts fi_X0_note_X0 hown hK hP 0 rfl rfl 0 (by decide) (hts _ fl_X0_note_1) (fun _ h9 => h9) rfl dX0_note_16 ?_
    refine lv_iload_n hx hb dX0_note_19 rfl (lv_at hl 1 rfl) ?_
    obtain ⟨hi1, hw⟩ := hw
    refine va_iast hx hb hK hP hD hS 3 0 rfl rfl hi1 dX0_note_20 (fun H locs hP hD hS => ?_)
    have hP : va_P D vwCl (sh_X0 cA a_fi fi_states fi_vertices fi_ends fi_stepless fi_mostPending fi_whole fi_endValues fi_endStates (upd fi_parents fi_states.toNatClampNeg x1) fi_steps) H := hP
    have hD : va_D A (sh_X0 cA a_fi fi_states fi_vertices fi_ends fi_stepless fi_mostPending fi_whole fi_endValues fi_endStates (upd fi_parents fi_states.toNatClampNeg x1) fi_steps) := hD
    refine lv_aload_n hx hb dX0_note_21 rfl (lv_at hl 0 rfl) ?_
    refine va_get (D := D) (ci := 0) (v := .ref (a_fi 4)) (C := RX0) (T := TX0) (N := 10) hx hb hts fi_X0_note_X0 hown hK hP 0 rfl rfl 9 (by decide) (hts _ fl_X0_note_3) (fun _ h9 => h9) rfl dX0_note_22 ?_
    refine lv_aload_n hx hb dX0_note_25 rfl (lv_at hl 0 rfl) ?_
    refine va_get (D := D) (ci := 0) (v := .int fi_states) (C := RX0) (T := TX0) (N := 10) hx hb hts fi_X0_note_X0 hown hK hP 0 rfl rfl 0 (by decide) (hts _ fl_X0_note_1) (fun _ h9 => h9) rfl dX0_note_26 ?_
    refine lv_iload_n hx hb dX0_note_29 rfl (lv_at hl 2 rfl) ?_
    obtain ⟨hi2, hw⟩ := hw
    refine va_iast hx hb hK hP hD hS 4 0 rfl rfl hi2 dX0_note_30 (fun H locs hP hD hS => ?_)
    have hP : va_P D vwCl (sh_X0 cA a_fi fi_states fi_vertices fi_ends fi_stepless fi_mostPending fi_whole fi_endValues fi_endStates (upd fi_parents fi_states.toNatClampNeg x1) (upd fi_steps fi_states.toNatClampNeg x2)) H := hP
    have hD : va_D A (sh_X0 cA a_fi fi_states fi_vertices fi_ends fi_stepless fi_mostPending fi_whole fi_endValues fi_endStates (upd fi_parents fi_states.toNatClampNeg x1) (upd fi_steps fi_states.toNatClampNeg x2)) := hD
    refine lv_aload_n hx hb dX0_note_31 rfl (lv_at hl 0 rfl) ?_
    refine lv_aload_n hx hb dX0_note_32 rfl (lv_at hl 0 rfl) ?_
    refine va_get (D := D) (ci := 0) (v := .int fi_mostPending) (C := RX0) (T := TX0) (N := 10) hx hb hts fi_X0_note_X0 hown hK hP 0 rfl rfl 4 (by decide) (hts _ fl_X0_note_4) (fun _ h9 => h9) rfl dX0_note_33 ?_
    refine lv_iload_n hx hb dX0_note_36 rfl (lv_at hl 3 rfl) ?_
    refine va_mmax hx hb (by rw [hml]; exact hl.1.symm) hown (hts _ fl_X0_note_5) (hts _ fl_X0_note_6) (hts _ fl_X0_note_7) (hts _ fl_X0_note_8) (Nat.le_of_ble_eq_true rfl) (Nat.le_of_ble_eq_true rfl) (Nat.le_of_ble_eq_true rfl) (Nat.le_of_ble_eq_true rfl) dX0_note_37 ?_
    refine va_put (D := D) (ci := 0) (v := .int (if fi_mostPending < x3 then x3 else fi_mostPending)) (ty := .int) (C := RX0) (T := TX0) (N := 10) hx hb hts fi_X0_note_X0 tyX0 tyX0_ok nmX0 hown hK hP hD hS 0 rfl rfl 4 (by decide) (hts _ fl_X0_note_4) (fun _ h9 => h9) rfl (by decide +kernel) rfl rfl (Nat.le_of_ble_eq_true rfl) dX0_note_40 (fun H locs hP hD hS => ?_)
    have hP : va_P D vwCl (sh_X0 cA a_fi fi_states fi_vertices fi_ends fi_stepless (if fi_mostPending < x3 then x3 else fi_mostPending) fi_whole fi_endValues fi_endStates (upd fi_parents fi_states.toNatClampNeg x1) (upd fi_steps fi_states.toNatClampNeg x2)) H := hP
    have hD : va_D A (sh_X0 cA a_fi fi_states fi_vertices fi_ends fi_stepless (if fi_mostPending < x3 then x3 else fi_mostPending) fi_whole fi_endValues fi_endStates (upd fi_parents fi_states.toNatClampNeg x1) (upd fi_steps fi_states.toNatClampNeg x2)) := hD
    refine lv_iload_n hx hb dX0_note_43 rfl (lv_at hl 3 rfl) ?_
    refine lv_if_ne (tgt := 63) hx hb dX0_note_44 (by decide) (fun hc => ?_) (fun hc => ?_)
    · have hw := hw.1 hc
      exact k_X0_note_63 C hA hK (lv_sub hl [0] rfl) hP hD hS hw
    · have hw := hw.2 hc
      refine lv_aload_n hx hb dX0_note_47 rfl (lv_at hl 0 rfl) ?_
      refine lv_dup hx hb dX0_note_48 rfl ?_
      refine va_get (D := D) (ci := 0) (v := .int fi_stepless) (C := RX0) (T := TX0) (N := 10) hx hb hts fi_X0_note_X0 hown hK hP 0 rfl rfl 3 (by decide) (hts _ fl_X0_note_9) (fun _ h9 => h9) rfl dX0_note_49 ?_
      refine lv_iconst (v := 1) hx hb dX0_note_52 (by decide) ?_
      refine lv_iadd hx hb dX0_note_53 ?_
      refine va_put (D := D) (ci := 0) (v := .int (fi_stepless + 1)) (ty := .int) (C := RX0) (T := TX0) (N := 10) hx hb hts fi_X0_note_X0 tyX0 tyX0_ok nmX0 hown hK hP hD hS 0 rfl rfl 3 (by decide) (hts _ fl_X0_note_9) (fun _ h9 => h9) rfl (by decide +kernel) rfl rfl (Nat.le_of_ble_eq_true rfl) dX0_note_54 (fun H locs hP hD hS => ?_)
      have hP : va_P D vwCl (sh_X0 cA a_fi fi_states fi_vertices fi_ends (fi_stepless + 1) (if fi_mostPending < x3 then x3 else fi_mostPending) fi_whole fi_endValues fi_endStates (upd fi_parents fi_states.toNatClampNeg x1) (upd fi_steps fi_states.toNatClampNeg x2)) H := hP
      have hD : va_D A (sh_X0 cA a_fi fi_states fi_vertices fi_ends (fi_stepless + 1) (if fi_mostPending < x3 then x3 else fi_mostPending) fi_whole fi_endValues fi_endStates (upd fi_parents fi_states.toNatClampNeg x1) (upd fi_steps fi_states.toNatClampNeg x2)) := hD
      refine lv_aload_n hx hb dX0_note_57 rfl (lv_at hl 0 rfl) ?_
      refine lv_iload hx hb dX0_note_58 (lv_at hl 4 rfl) ?_
      refine cV_v (As := [.int x4]) (rest := []) (wr := []) (w2 := (fun (u : Int32 × (Nat → Int32) × (Nat → Int32)) => sh_X0 cA a_fi fi_states fi_vertices u.1 (fi_stepless + 1) (if fi_mostPending < x3 then x3 else fi_mostPending) fi_whole u.2.1 u.2.2 (upd fi_parents fi_states.toNatClampNeg x1) (upd fi_steps fi_states.toNatClampNeg x2))) ⟨hx, hb, hml, hown, hts⟩ (c_X0_noteEnd l D cA a_fi H.size fi_states fi_vertices fi_ends (fi_stepless + 1) (if fi_mostPending < x3 then x3 else fi_mostPending) fi_whole fi_endValues fi_endStates (upd fi_parents fi_states.toNatClampNeg x1) (upd fi_steps fi_states.toNatClampNeg x2) x4 _ hw) (cwV 1 hts gX0_note_X0_noteEnd rfl rfl rfl (by decide +kernel) ⟨(Nat.le_of_ble_eq_true rfl), (Nat.le_of_ble_eq_true rfl)⟩) hK hP hD hS hA [0, 1, 2, 3, 4] [] [0, 1, 2, 3, 4] rfl rfl rfl rfl (by decide) rfl (fun _ => rfl) rfl rfl rfl hl.1 rfl (Nat.le_of_ble_eq_true rfl) dX0_note_60 ⟨Nat.le_refl _, Nat.le_refl _⟩ (fun u H locs hw hP hD hS => ?_)
      obtain ⟨fi_ends_3, fi_endValues_4, fi_endStates_5⟩ := u
      try dsimp only at hw
      have hP : va_P D vwCl (sh_X0 cA a_fi fi_states fi_vertices fi_ends_3 (fi_stepless + 1) (if fi_mostPending < x3 then x3 else fi_mostPending) fi_whole fi_endValues_4 fi_endStates_5 (upd fi_parents fi_states.toNatClampNeg x1) (upd fi_steps fi_states.toNatClampNeg x2)) H := hP
      have hD : va_D A (sh_X0 cA a_fi fi_states fi_vertices fi_ends_3 (fi_stepless + 1) (if fi_mostPending < x3 then x3 else fi_mostPending) fi_whole fi_endValues_4 fi_endStates_5 (upd fi_parents fi_states.toNatClampNeg x1) (upd fi_steps fi_states.toNatClampNeg x2)) := hD
      exact k_X0_note_63 C hA hK (lv_sub hl [0] rfl) hP hD hS hw
  · have hw := hw.2 hc
    exact W.vret hx hb hr (fun t ht hW => ⟨⟨(fi_states, fi_ends, fi_stepless, fi_mostPending, fi_endValues, fi_endStates, fi_parents, fi_steps), rfl, hw, by rw [ht]; exact hP, va_K.moved hW.alike hK, hD⟩, hS.F ht⟩) hS.2.2 dX0_note_10
set_option maxHeartbeats 4000000 in
set_option maxRecDepth 100000 in
theorem c_X0_note (l : Launch) (D : va_G) (cA : Nat → ClassId) (a_fi : Nat → Nat) (sz : Nat) (fi_states : Int32) (fi_vertices : Int32) (fi_ends : Int32) (fi_stepless : Int32) (fi_mostPending : Int32) (fi_whole : Int32) (fi_endValues : (Nat → Int32)) (fi_endStates : (Nat → Int32)) (fi_parents : (Nat → Int32)) (fi_steps : (Nat → Int32)) (x1 : Int32) (x2 : Int32) (x3 : Int32) (x4 : Int32) (post : Int32 → Int32 → Int32 → Int32 → (Nat → Int32) → (Nat → Int32) → (Nat → Int32) → (Nat → Int32) → Prop) (hw : wp_X0_note fi_states fi_ends fi_stepless fi_mostPending fi_endValues fi_endStates fi_parents fi_steps x1 x2 x3 x4 post) : Met l yX0_note wsX0_note rm_X0_note (cPre D cA sz [.ref (a_fi 0), .int x1, .int x2, .int x3, .int x4] (sh_X0 cA a_fi fi_states fi_vertices fi_ends fi_stepless fi_mostPending fi_whole fi_endValues fi_endStates fi_parents fi_steps)) (q_X0_note D cA (va_A (sh_X0 cA a_fi fi_states fi_vertices fi_ends fi_stepless fi_mostPending fi_whole fi_endValues fi_endStates fi_parents fi_steps) sz) a_fi fi_vertices fi_whole post) 0 0 (va_A (sh_X0 cA a_fi fi_states fi_vertices fi_ends fi_stepless fi_mostPending fi_whole fi_endValues fi_endStates fi_parents fi_steps) sz) := by
  refine Met.ofW (cc := cX0_note) (maxL := 5) (ret := none) (by decide) rfl ?_
  intro p e s m args below meth c s₁ B hml hv
  obtain ⟨rfl, hsz, hP, hK, hD0⟩ := hv
  have hown : s.vm.findClass RX0 = some m.cls := findClass_of_methodNamed B.named
  subst hsz
  have hD := hD0.self (sz := s.heap.size)
  have hl := lv_entry ([.ref (a_fi 0), .int x1, .int x2, .int x3, .int x4]) (n := 5) (Nat.le_of_ble_eq_true rfl)
  rw [lg_entry_eq]
  exact k_X0_note_0 ⟨B.exec, B.bytes, B.returns, atoms_spec (ws := wsX0_note) B.pre, hown, B.notSynchronized, hml⟩ (fun q h => Or.inr h) hK hl hP hD va_S.rf hw
/-! X0_hasEnd: hasEnd(I)Z -/
theorem fi_X0_hasEnd_X0 : ∀ w ∈ wsX00, w ∈ wsX0_hasEnd := by decide +kernel
theorem fl_X0_hasEnd_1 : ((.fieldLink RX0 31 "OrderTests$Findings" "ends" "I") : Cond) ∈ wsX0_hasEnd := by decide +kernel
abbrev rm_X0_hasEnd : Room := { frames := 0, cells := 0, slots := 0, locals := 0 }
abbrev q_X0_hasEnd (D : va_G) (cA : Nat → ClassId) (A : Nat → Prop) (a_fi : Nat → Nat) (fi_states : Int32) (fi_vertices : Int32) (fi_ends : Int32) (fi_stepless : Int32) (fi_mostPending : Int32) (fi_whole : Int32) (fi_endValues : (Nat → Int32)) (fi_endStates : (Nat → Int32)) (fi_parents : (Nat → Int32)) (fi_steps : (Nat → Int32)) (post : Int32 → Prop) : Array Value → State → Outcome → State → Prop := va_Qi (fun (r : Int32) (u : Unit) => post r) (cOut D cA A (fun (u : Unit) => sh_X0 cA a_fi fi_states fi_vertices fi_ends fi_stepless fi_mostPending fi_whole fi_endValues fi_endStates fi_parents fi_steps)) A
set_option maxHeartbeats 4000000 in
set_option maxRecDepth 100000 in
theorem k_X0_hasEnd_16 {p : Program} {l : Launch} {e : Env} {s : State} {m : MethodId} {args : Array Value} {below : List Frame} {meth : Method} {c : Code} {D : va_G} {cA : Nat → ClassId} {A : Nat → Prop} {a_fi : Nat → Nat} (C : cxm RX0 cX0_hasEnd 2 (some .boolean) wsX0_hasEnd p s m args meth c) (hA : ∀ q, s.heap.size ≤ q → A q) (hK : va_K D vwCl (tyL cA) s) {fi_states : Int32} {fi_vertices : Int32} {fi_ends : Int32} {fi_stepless : Int32} {fi_mostPending : Int32} {fi_whole : Int32} {fi_endValues : (Nat → Int32)} {fi_endStates : (Nat → Int32)} {fi_parents : (Nat → Int32)} {fi_steps : (Nat → Int32)} {post : Int32 → Prop} {H : Heap} {locs : List Loc} {ls : Array Slot} (hl : lv_has ls 2 []) (hP : va_P D vwCl (sh_X0 cA a_fi fi_states fi_vertices fi_ends fi_stepless fi_mostPending fi_whole fi_endValues fi_endStates fi_parents fi_steps) H) (hD : va_D A (sh_X0 cA a_fi fi_states fi_vertices fi_ends fi_stepless fi_mostPending fi_whole fi_endValues fi_endStates fi_parents fi_steps)) (hS : va_S A s.heap H locs) (hw : wp_X0_hasEnd_16 fi_ends post) : W p l e rm_X0_hasEnd s m args below meth c H locs 0 0 (MQ below (q_X0_hasEnd D cA A a_fi fi_states fi_vertices fi_ends fi_stepless fi_mostPending fi_whole fi_endValues fi_endStates fi_parents fi_steps post) args s 0 0 A) (F0 m 16 ls []) := by
  obtain ⟨hx, hb, hr, hts, hown, hlocks, hml⟩ := id C
  unfold wp_X0_hasEnd_16 at hw
  refine lv_iconst (v := 0) hx hb dX0_hasEnd_16 (by decide) ?_
  exact W.zret (v := 0) hx hb hr rfl (fun t ht hW => ⟨⟨0, (), rfl, hw, by rw [ht]; exact hP, va_K.moved hW.alike hK, hD⟩, hS.F ht⟩) hS.2.2 dX0_hasEnd_17
set_option maxHeartbeats 4000000 in
set_option maxRecDepth 100000 in
theorem k_X0_hasEnd_0 {p : Program} {l : Launch} {e : Env} {s : State} {m : MethodId} {args : Array Value} {below : List Frame} {meth : Method} {c : Code} {D : va_G} {cA : Nat → ClassId} {A : Nat → Prop} {a_fi : Nat → Nat} (C : cxm RX0 cX0_hasEnd 2 (some .boolean) wsX0_hasEnd p s m args meth c) (hA : ∀ q, s.heap.size ≤ q → A q) (hK : va_K D vwCl (tyL cA) s) {fi_states : Int32} {fi_vertices : Int32} {fi_ends : Int32} {fi_stepless : Int32} {fi_mostPending : Int32} {fi_whole : Int32} {fi_endValues : (Nat → Int32)} {fi_endStates : (Nat → Int32)} {fi_parents : (Nat → Int32)} {fi_steps : (Nat → Int32)} {post : Int32 → Prop} {x1 : Int32} {H : Heap} {locs : List Loc} {ls : Array Slot} (hl : lv_has ls 2 [(0, .ref (a_fi 0)), (1, .int x1)]) (hP : va_P D vwCl (sh_X0 cA a_fi fi_states fi_vertices fi_ends fi_stepless fi_mostPending fi_whole fi_endValues fi_endStates fi_parents fi_steps) H) (hD : va_D A (sh_X0 cA a_fi fi_states fi_vertices fi_ends fi_stepless fi_mostPending fi_whole fi_endValues fi_endStates fi_parents fi_steps)) (hS : va_S A s.heap H locs) (hw : wp_X0_hasEnd_0 fi_ends post x1) : W p l e rm_X0_hasEnd s m args below meth c H locs 0 0 (MQ below (q_X0_hasEnd D cA A a_fi fi_states fi_vertices fi_ends fi_stepless fi_mostPending fi_whole fi_endValues fi_endStates fi_parents fi_steps post) args s 0 0 A) (F0 m 0 ls []) := by
  obtain ⟨hx, hb, hr, hts, hown, hlocks, hml⟩ := id C
  unfold wp_X0_hasEnd_0 at hw
  refine lv_iload_n hx hb dX0_hasEnd_0 rfl (lv_at hl 1 rfl) ?_
  refine lv_if_lt (tgt := 16) hx hb dX0_hasEnd_1 (by decide) (fun hc => ?_) (fun hc => ?_)
  · have hw := hw.1 hc
    exact k_X0_hasEnd_16 C hA hK (lv_sub hl [] rfl) hP hD hS hw
  · have hw := hw.2 hc
    refine lv_iload_n hx hb dX0_hasEnd_4 rfl (lv_at hl 1 rfl) ?_
    refine lv_aload_n hx hb dX0_hasEnd_5 rfl (lv_at hl 0 rfl) ?_
    refine va_get (D := D) (ci := 0) (v := .int fi_ends) (C := RX0) (T := TX0) (N := 10) hx hb hts fi_X0_hasEnd_X0 hown hK hP 0 rfl rfl 2 (by decide) (hts _ fl_X0_hasEnd_1) (fun _ h9 => h9) rfl dX0_hasEnd_6 ?_
    refine lv_icmp_ge (tgt := 16) hx hb dX0_hasEnd_9 (by decide) (fun hc => ?_) (fun hc => ?_)
    · have hw := hw.1 hc
      exact k_X0_hasEnd_16 C hA hK (lv_sub hl [] rfl) hP hD hS hw
    · have hw := hw.2 hc
      refine lv_iconst (v := 1) hx hb dX0_hasEnd_12 (by decide) ?_
      refine lv_goto (tgt := 17) hx hb dX0_hasEnd_13 (by decide) ?_
      exact W.zret (v := 1) hx hb hr rfl (fun t ht hW => ⟨⟨1, (), rfl, hw, by rw [ht]; exact hP, va_K.moved hW.alike hK, hD⟩, hS.F ht⟩) hS.2.2 dX0_hasEnd_17
set_option maxHeartbeats 4000000 in
set_option maxRecDepth 100000 in
theorem c_X0_hasEnd (l : Launch) (D : va_G) (cA : Nat → ClassId) (a_fi : Nat → Nat) (sz : Nat) (fi_states : Int32) (fi_vertices : Int32) (fi_ends : Int32) (fi_stepless : Int32) (fi_mostPending : Int32) (fi_whole : Int32) (fi_endValues : (Nat → Int32)) (fi_endStates : (Nat → Int32)) (fi_parents : (Nat → Int32)) (fi_steps : (Nat → Int32)) (x1 : Int32) (post : Int32 → Prop) (hw : wp_X0_hasEnd fi_ends x1 post) : Met l yX0_hasEnd wsX0_hasEnd rm_X0_hasEnd (cPre D cA sz [.ref (a_fi 0), .int x1] (sh_X0 cA a_fi fi_states fi_vertices fi_ends fi_stepless fi_mostPending fi_whole fi_endValues fi_endStates fi_parents fi_steps)) (q_X0_hasEnd D cA (va_A (sh_X0 cA a_fi fi_states fi_vertices fi_ends fi_stepless fi_mostPending fi_whole fi_endValues fi_endStates fi_parents fi_steps) sz) a_fi fi_states fi_vertices fi_ends fi_stepless fi_mostPending fi_whole fi_endValues fi_endStates fi_parents fi_steps post) 0 0 (va_A (sh_X0 cA a_fi fi_states fi_vertices fi_ends fi_stepless fi_mostPending fi_whole fi_endValues fi_endStates fi_parents fi_steps) sz) := by
  refine Met.ofW (cc := cX0_hasEnd) (maxL := 2) (ret := (some .boolean)) (by decide) rfl ?_
  intro p e s m args below meth c s₁ B hml hv
  obtain ⟨rfl, hsz, hP, hK, hD0⟩ := hv
  have hown : s.vm.findClass RX0 = some m.cls := findClass_of_methodNamed B.named
  subst hsz
  have hD := hD0.self (sz := s.heap.size)
  have hl := lv_entry ([.ref (a_fi 0), .int x1]) (n := 2) (Nat.le_of_ble_eq_true rfl)
  rw [lg_entry_eq]
  exact k_X0_hasEnd_0 ⟨B.exec, B.bytes, B.returns, atoms_spec (ws := wsX0_hasEnd) B.pre, hown, B.notSynchronized, hml⟩ (fun q h => Or.inr h) hK hl hP hD va_S.rf hw
/-! X0_wayLength: wayLength(I)I -/
theorem fi_X0_wayLength_X0 : ∀ w ∈ wsX00, w ∈ wsX0_wayLength := by decide +kernel
theorem fl_X0_wayLength_1 : ((.fieldLink RX0 15 "OrderTests$Findings" "endStates" "[I") : Cond) ∈ wsX0_wayLength := by decide +kernel
theorem fl_X0_wayLength_2 : ((.fieldLink RX0 18 "OrderTests$Findings" "parents" "[I") : Cond) ∈ wsX0_wayLength := by decide +kernel
abbrev rm_X0_wayLength : Room := { frames := 0, cells := 0, slots := 0, locals := 0 }
abbrev q_X0_wayLength (D : va_G) (cA : Nat → ClassId) (A : Nat → Prop) (a_fi : Nat → Nat) (fi_states : Int32) (fi_vertices : Int32) (fi_ends : Int32) (fi_stepless : Int32) (fi_mostPending : Int32) (fi_whole : Int32) (fi_endValues : (Nat → Int32)) (fi_endStates : (Nat → Int32)) (fi_parents : (Nat → Int32)) (fi_steps : (Nat → Int32)) (post : Int32 → Prop) : Array Value → State → Outcome → State → Prop := va_Qi (fun (r : Int32) (u : Unit) => post r) (cOut D cA A (fun (u : Unit) => sh_X0 cA a_fi fi_states fi_vertices fi_ends fi_stepless fi_mostPending fi_whole fi_endValues fi_endStates fi_parents fi_steps)) A
set_option maxHeartbeats 4000000 in
set_option maxRecDepth 100000 in
theorem b_X0_wayLength_9 {p : Program} {l : Launch} {e : Env} {s : State} {m : MethodId} {args : Array Value} {below : List Frame} {meth : Method} {c : Code} {D : va_G} {cA : Nat → ClassId} {A : Nat → Prop} {a_fi : Nat → Nat} (C : cxm RX0 cX0_wayLength 4 (some .int) wsX0_wayLength p s m args meth c) (hA : ∀ q, s.heap.size ≤ q → A q) (hK : va_K D vwCl (tyL cA) s) {fi_states : Int32} {fi_vertices : Int32} {fi_ends : Int32} {fi_stepless : Int32} {fi_mostPending : Int32} {fi_whole : Int32} {fi_endValues : (Nat → Int32)} {fi_endStates : (Nat → Int32)} {fi_parents : (Nat → Int32)} {fi_steps : (Nat → Int32)} {post : Int32 → Prop} {x2 : Int32} {x3 : Int32} {K9 : Int32 → Int32 → Prop} (hk9 : ∀ (H : Heap) (locs : List Loc) (ls : Array Slot) (x2 : Int32) (x3 : Int32), lv_has ls 4 [(0, .ref (a_fi 0)), (2, .int x2), (3, .int x3)] → va_P D vwCl (sh_X0 cA a_fi fi_states fi_vertices fi_ends fi_stepless fi_mostPending fi_whole fi_endValues fi_endStates fi_parents fi_steps) H → va_D A (sh_X0 cA a_fi fi_states fi_vertices fi_ends fi_stepless fi_mostPending fi_whole fi_endValues fi_endStates fi_parents fi_steps) → va_S A s.heap H locs → K9 x2 x3 → W p l e rm_X0_wayLength s m args below meth c H locs 0 0 (MQ below (q_X0_wayLength D cA A a_fi fi_states fi_vertices fi_ends fi_stepless fi_mostPending fi_whole fi_endValues fi_endStates fi_parents fi_steps post) args s 0 0 A) (F0 m 9 ls [])) {H : Heap} {locs : List Loc} {ls : Array Slot} (hl : lv_has ls 4 [(0, .ref (a_fi 0)), (2, .int x2), (3, .int x3)]) (hP : va_P D vwCl (sh_X0 cA a_fi fi_states fi_vertices fi_ends fi_stepless fi_mostPending fi_whole fi_endValues fi_endStates fi_parents fi_steps) H) (hD : va_D A (sh_X0 cA a_fi fi_states fi_vertices fi_ends fi_stepless fi_mostPending fi_whole fi_endValues fi_endStates fi_parents fi_steps)) (hS : va_S A s.heap H locs) (hw : bd_X0_wayLength_9 fi_endStates fi_parents post K9 x2 x3) : W p l e rm_X0_wayLength s m args below meth c H locs 0 0 (MQ below (q_X0_wayLength D cA A a_fi fi_states fi_vertices fi_ends fi_stepless fi_mostPending fi_whole fi_endValues fi_endStates fi_parents fi_steps post) args s 0 0 A) (F0 m 9 ls []) := by
  obtain ⟨hx, hb, hr, hts, hown, hlocks, hml⟩ := id C
  unfold bd_X0_wayLength_9 at hw
  refine lv_iload_n hx hb dX0_wayLength_9 rfl (lv_at hl 2 rfl) ?_
  refine lv_if_le (tgt := 33) hx hb dX0_wayLength_10 (by decide) (fun hc => ?_) (fun hc => ?_)
  · have hw := hw.1 hc
    refine lv_iload_n hx hb dX0_wayLength_33 rfl (lv_at hl 1 rfl) ?_
    exact W.iret (v := x2) hx hb hr (fun t ht hW => ⟨⟨x2, (), rfl, hw, by rw [ht]; exact hP, va_K.moved hW.alike hK, hD⟩, hS.F ht⟩) hS.2.2 dX0_wayLength_34
  · have hw := hw.2 hc
    refine lv_iload_n hx hb dX0_wayLength_13 rfl (lv_at hl 1 rfl) ?_
    refine lv_sipush (v := 600) hx hb dX0_wayLength_14 (by decide) ?_
    refine lv_icmp_ge (tgt := 33) hx hb dX0_wayLength_17 (by decide) (fun hc => ?_) (fun hc => ?_)
    · have hw := hw.1 hc
      refine lv_iload_n hx hb dX0_wayLength_33 rfl (lv_at hl 1 rfl) ?_
      exact W.iret (v := x2) hx hb hr (fun t ht hW => ⟨⟨x2, (), rfl, hw, by rw [ht]; exact hP, va_K.moved hW.alike hK, hD⟩, hS.F ht⟩) hS.2.2 dX0_wayLength_34
    · have hw := hw.2 hc
      refine lv_aload_n hx hb dX0_wayLength_20 rfl (lv_at hl 0 rfl) ?_
      refine va_get (D := D) (ci := 0) (v := .ref (a_fi 3)) (C := RX0) (T := TX0) (N := 10) hx hb hts fi_X0_wayLength_X0 hown hK hP 0 rfl rfl 8 (by decide) (hts _ fl_X0_wayLength_2) (fun _ h9 => h9) rfl dX0_wayLength_21 ?_
      refine lv_iload_n hx hb dX0_wayLength_24 rfl (lv_at hl 2 rfl) ?_
      obtain ⟨hi3, hw⟩ := hw
      refine va_iald hx hb hK hP 3 0 rfl rfl hi3 dX0_wayLength_25 ?_
      refine lv_topi (fun y4 ey4 => ?_)
      have hw := hw y4 ey4
      refine lv_istore_n (lv' := [(3, .int y4), (0, .ref (a_fi 0)), (2, .int x2)]) hx hb dX0_wayLength_26 rfl hl (by decide) rfl (fun ls hl => ?_)
      refine lv_iinc (v := (x2 + 1)) (lv' := [(2, .int (x2 + 1)), (3, .int y4), (0, .ref (a_fi 0))]) hx hb dX0_wayLength_27 hl (k := 2) rfl rfl (by decide) rfl (fun ls hl => ?_)
      refine lv_goto (tgt := 9) hx hb dX0_wayLength_30 (by decide) ?_
      exact hk9 _ _ _ (x2 + 1) y4 (lv_sub hl [2, 0, 1] rfl) hP hD hS hw
set_option maxHeartbeats 4000000 in
set_option maxRecDepth 100000 in
theorem k_X0_wayLength_9 {p : Program} {l : Launch} {e : Env} {s : State} {m : MethodId} {args : Array Value} {below : List Frame} {meth : Method} {c : Code} {D : va_G} {cA : Nat → ClassId} {A : Nat → Prop} {a_fi : Nat → Nat} (C : cxm RX0 cX0_wayLength 4 (some .int) wsX0_wayLength p s m args meth c) (hA : ∀ q, s.heap.size ≤ q → A q) (hK : va_K D vwCl (tyL cA) s) {fi_states : Int32} {fi_vertices : Int32} {fi_ends : Int32} {fi_stepless : Int32} {fi_mostPending : Int32} {fi_whole : Int32} {fi_endValues : (Nat → Int32)} {fi_endStates : (Nat → Int32)} {fi_parents : (Nat → Int32)} {fi_steps : (Nat → Int32)} {post : Int32 → Prop} {x2 : Int32} {x3 : Int32} {H : Heap} {locs : List Loc} {ls : Array Slot} (hl : lv_has ls 4 [(0, .ref (a_fi 0)), (2, .int x2), (3, .int x3)]) (hP : va_P D vwCl (sh_X0 cA a_fi fi_states fi_vertices fi_ends fi_stepless fi_mostPending fi_whole fi_endValues fi_endStates fi_parents fi_steps) H) (hD : va_D A (sh_X0 cA a_fi fi_states fi_vertices fi_ends fi_stepless fi_mostPending fi_whole fi_endValues fi_endStates fi_parents fi_steps)) (hS : va_S A s.heap H locs) (hw : wp_X0_wayLength_9 fi_endStates fi_parents post x2 x3) : W p l e rm_X0_wayLength s m args below meth c H locs 0 0 (MQ below (q_X0_wayLength D cA A a_fi fi_states fi_vertices fi_ends fi_stepless fi_mostPending fi_whole fi_endValues fi_endStates fi_parents fi_steps post) args s 0 0 A) (F0 m 9 ls []) := by
  obtain ⟨I, n, hI, hstep⟩ := hw
  have key : ∀ (n : Nat) (H : Heap) (locs : List Loc) (ls : Array Slot) (x2 : Int32) (x3 : Int32), I n x2 x3 → lv_has ls 4 [(0, .ref (a_fi 0)), (2, .int x2), (3, .int x3)] → va_P D vwCl (sh_X0 cA a_fi fi_states fi_vertices fi_ends fi_stepless fi_mostPending fi_whole fi_endValues fi_endStates fi_parents fi_steps) H → va_D A (sh_X0 cA a_fi fi_states fi_vertices fi_ends fi_stepless fi_mostPending fi_whole fi_endValues fi_endStates fi_parents fi_steps) → va_S A s.heap H locs → W p l e rm_X0_wayLength s m args below meth c H locs 0 0 (MQ below (q_X0_wayLength D cA A a_fi fi_states fi_vertices fi_ends fi_stepless fi_mostPending fi_whole fi_endValues fi_endStates fi_parents fi_steps post) args s 0 0 A) (F0 m 9 ls []) := by
    intro n
    induction n using Nat.strongRecOn with
    | _ n ih =>
      intro H locs ls x2 x3 hI hl hP hD hS
      exact b_X0_wayLength_9 C hA hK (fun H locs ls x2 x3 hl hP hD hS hw => by obtain ⟨n', hn, hI⟩ := hw; exact ih n' hn H locs ls x2 x3 hI hl hP hD hS) hl hP hD hS (hstep n x2 x3 hI)
  exact key n H locs ls x2 x3 hI hl hP hD hS
set_option maxHeartbeats 4000000 in
set_option maxRecDepth 100000 in
theorem k_X0_wayLength_0 {p : Program} {l : Launch} {e : Env} {s : State} {m : MethodId} {args : Array Value} {below : List Frame} {meth : Method} {c : Code} {D : va_G} {cA : Nat → ClassId} {A : Nat → Prop} {a_fi : Nat → Nat} (C : cxm RX0 cX0_wayLength 4 (some .int) wsX0_wayLength p s m args meth c) (hA : ∀ q, s.heap.size ≤ q → A q) (hK : va_K D vwCl (tyL cA) s) {fi_states : Int32} {fi_vertices : Int32} {fi_ends : Int32} {fi_stepless : Int32} {fi_mostPending : Int32} {fi_whole : Int32} {fi_endValues : (Nat → Int32)} {fi_endStates : (Nat → Int32)} {fi_parents : (Nat → Int32)} {fi_steps : (Nat → Int32)} {post : Int32 → Prop} {x1 : Int32} {H : Heap} {locs : List Loc} {ls : Array Slot} (hl : lv_has ls 4 [(0, .ref (a_fi 0)), (1, .int x1)]) (hP : va_P D vwCl (sh_X0 cA a_fi fi_states fi_vertices fi_ends fi_stepless fi_mostPending fi_whole fi_endValues fi_endStates fi_parents fi_steps) H) (hD : va_D A (sh_X0 cA a_fi fi_states fi_vertices fi_ends fi_stepless fi_mostPending fi_whole fi_endValues fi_endStates fi_parents fi_steps)) (hS : va_S A s.heap H locs) (hw : wp_X0_wayLength_0 fi_endStates fi_parents post x1) : W p l e rm_X0_wayLength s m args below meth c H locs 0 0 (MQ below (q_X0_wayLength D cA A a_fi fi_states fi_vertices fi_ends fi_stepless fi_mostPending fi_whole fi_endValues fi_endStates fi_parents fi_steps post) args s 0 0 A) (F0 m 0 ls []) := by
  obtain ⟨hx, hb, hr, hts, hown, hlocks, hml⟩ := id C
  unfold wp_X0_wayLength_0 at hw
  refine lv_iconst (v := 0) hx hb dX0_wayLength_0 (by decide) ?_
  refine lv_istore_n (lv' := [(2, .int 0), (0, .ref (a_fi 0)), (1, .int x1)]) hx hb dX0_wayLength_1 rfl hl (by decide) rfl (fun ls hl => ?_)
  refine lv_aload_n hx hb dX0_wayLength_2 rfl (lv_at hl 1 rfl) ?_
  refine va_get (D := D) (ci := 0) (v := .ref (a_fi 2)) (C := RX0) (T := TX0) (N := 10) hx hb hts fi_X0_wayLength_X0 hown hK hP 0 rfl rfl 7 (by decide) (hts _ fl_X0_wayLength_1) (fun _ h9 => h9) rfl dX0_wayLength_3 ?_
  refine lv_iload_n hx hb dX0_wayLength_6 rfl (lv_at hl 2 rfl) ?_
  obtain ⟨hi1, hw⟩ := hw
  refine va_iald hx hb hK hP 2 0 rfl rfl hi1 dX0_wayLength_7 ?_
  refine lv_topi (fun y2 ey2 => ?_)
  have hw := hw y2 ey2
  refine lv_istore_n (lv' := [(3, .int y2), (2, .int 0), (0, .ref (a_fi 0)), (1, .int x1)]) hx hb dX0_wayLength_8 rfl hl (by decide) rfl (fun ls hl => ?_)
  exact k_X0_wayLength_9 C hA hK (lv_sub hl [2, 1, 0] rfl) hP hD hS hw
set_option maxHeartbeats 4000000 in
set_option maxRecDepth 100000 in
theorem c_X0_wayLength (l : Launch) (D : va_G) (cA : Nat → ClassId) (a_fi : Nat → Nat) (sz : Nat) (fi_states : Int32) (fi_vertices : Int32) (fi_ends : Int32) (fi_stepless : Int32) (fi_mostPending : Int32) (fi_whole : Int32) (fi_endValues : (Nat → Int32)) (fi_endStates : (Nat → Int32)) (fi_parents : (Nat → Int32)) (fi_steps : (Nat → Int32)) (x1 : Int32) (post : Int32 → Prop) (hw : wp_X0_wayLength fi_endStates fi_parents x1 post) : Met l yX0_wayLength wsX0_wayLength rm_X0_wayLength (cPre D cA sz [.ref (a_fi 0), .int x1] (sh_X0 cA a_fi fi_states fi_vertices fi_ends fi_stepless fi_mostPending fi_whole fi_endValues fi_endStates fi_parents fi_steps)) (q_X0_wayLength D cA (va_A (sh_X0 cA a_fi fi_states fi_vertices fi_ends fi_stepless fi_mostPending fi_whole fi_endValues fi_endStates fi_parents fi_steps) sz) a_fi fi_states fi_vertices fi_ends fi_stepless fi_mostPending fi_whole fi_endValues fi_endStates fi_parents fi_steps post) 0 0 (va_A (sh_X0 cA a_fi fi_states fi_vertices fi_ends fi_stepless fi_mostPending fi_whole fi_endValues fi_endStates fi_parents fi_steps) sz) := by
  refine Met.ofW (cc := cX0_wayLength) (maxL := 4) (ret := (some .int)) (by decide) rfl ?_
  intro p e s m args below meth c s₁ B hml hv
  obtain ⟨rfl, hsz, hP, hK, hD0⟩ := hv
  have hown : s.vm.findClass RX0 = some m.cls := findClass_of_methodNamed B.named
  subst hsz
  have hD := hD0.self (sz := s.heap.size)
  have hl := lv_entry ([.ref (a_fi 0), .int x1]) (n := 4) (Nat.le_of_ble_eq_true rfl)
  rw [lg_entry_eq]
  exact k_X0_wayLength_0 ⟨B.exec, B.bytes, B.returns, atoms_spec (ws := wsX0_wayLength) B.pre, hown, B.notSynchronized, hml⟩ (fun q h => Or.inr h) hK hl hP hD va_S.rf hw
/-! X0_stepBefore: stepBefore(II)I -/
theorem fi_X0_stepBefore_X0 : ∀ w ∈ wsX00, w ∈ wsX0_stepBefore := by decide +kernel
theorem fl_X0_stepBefore_1 : ((.fieldLink RX0 15 "OrderTests$Findings" "endStates" "[I") : Cond) ∈ wsX0_stepBefore := by decide +kernel
theorem fl_X0_stepBefore_2 : ((.fieldLink RX0 18 "OrderTests$Findings" "parents" "[I") : Cond) ∈ wsX0_stepBefore := by decide +kernel
theorem fl_X0_stepBefore_3 : ((.fieldLink RX0 21 "OrderTests$Findings" "steps" "[I") : Cond) ∈ wsX0_stepBefore := by decide +kernel
abbrev rm_X0_stepBefore : Room := { frames := 0, cells := 0, slots := 0, locals := 0 }
abbrev q_X0_stepBefore (D : va_G) (cA : Nat → ClassId) (A : Nat → Prop) (a_fi : Nat → Nat) (fi_states : Int32) (fi_vertices : Int32) (fi_ends : Int32) (fi_stepless : Int32) (fi_mostPending : Int32) (fi_whole : Int32) (fi_endValues : (Nat → Int32)) (fi_endStates : (Nat → Int32)) (fi_parents : (Nat → Int32)) (fi_steps : (Nat → Int32)) (post : Int32 → Prop) : Array Value → State → Outcome → State → Prop := va_Qi (fun (r : Int32) (u : Unit) => post r) (cOut D cA A (fun (u : Unit) => sh_X0 cA a_fi fi_states fi_vertices fi_ends fi_stepless fi_mostPending fi_whole fi_endValues fi_endStates fi_parents fi_steps)) A
set_option maxHeartbeats 4000000 in
set_option maxRecDepth 100000 in
theorem k_X0_stepBefore_33 {p : Program} {l : Launch} {e : Env} {s : State} {m : MethodId} {args : Array Value} {below : List Frame} {meth : Method} {c : Code} {D : va_G} {cA : Nat → ClassId} {A : Nat → Prop} {a_fi : Nat → Nat} (C : cxm RX0 cX0_stepBefore 5 (some .int) wsX0_stepBefore p s m args meth c) (hA : ∀ q, s.heap.size ≤ q → A q) (hK : va_K D vwCl (tyL cA) s) {fi_states : Int32} {fi_vertices : Int32} {fi_ends : Int32} {fi_stepless : Int32} {fi_mostPending : Int32} {fi_whole : Int32} {fi_endValues : (Nat → Int32)} {fi_endStates : (Nat → Int32)} {fi_parents : (Nat → Int32)} {fi_steps : (Nat → Int32)} {post : Int32 → Prop} {x3 : Int32} {H : Heap} {locs : List Loc} {ls : Array Slot} (hl : lv_has ls 5 [(0, .ref (a_fi 0)), (3, .int x3)]) (hP : va_P D vwCl (sh_X0 cA a_fi fi_states fi_vertices fi_ends fi_stepless fi_mostPending fi_whole fi_endValues fi_endStates fi_parents fi_steps) H) (hD : va_D A (sh_X0 cA a_fi fi_states fi_vertices fi_ends fi_stepless fi_mostPending fi_whole fi_endValues fi_endStates fi_parents fi_steps)) (hS : va_S A s.heap H locs) (hw : wp_X0_stepBefore_33 fi_endStates fi_parents fi_steps post x3) : W p l e rm_X0_stepBefore s m args below meth c H locs 0 0 (MQ below (q_X0_stepBefore D cA A a_fi fi_states fi_vertices fi_ends fi_stepless fi_mostPending fi_whole fi_endValues fi_endStates fi_parents fi_steps post) args s 0 0 A) (F0 m 33 ls []) := by
  obtain ⟨hx, hb, hr, hts, hown, hlocks, hml⟩ := id C
  unfold wp_X0_stepBefore_33 at hw
  refine lv_aload_n hx hb dX0_stepBefore_33 rfl (lv_at hl 0 rfl) ?_
  refine va_get (D := D) (ci := 0) (v := .ref (a_fi 4)) (C := RX0) (T := TX0) (N := 10) hx hb hts fi_X0_stepBefore_X0 hown hK hP 0 rfl rfl 9 (by decide) (hts _ fl_X0_stepBefore_3) (fun _ h9 => h9) rfl dX0_stepBefore_34 ?_
  refine lv_iload_n hx hb dX0_stepBefore_37 rfl (lv_at hl 1 rfl) ?_
  obtain ⟨hi5, hw⟩ := hw
  refine va_iald hx hb hK hP 4 0 rfl rfl hi5 dX0_stepBefore_38 ?_
  exact W.iret (v := (fi_steps x3.toNatClampNeg)) hx hb hr (fun t ht hW => ⟨⟨(fi_steps x3.toNatClampNeg), (), rfl, hw, by rw [ht]; exact hP, va_K.moved hW.alike hK, hD⟩, hS.F ht⟩) hS.2.2 dX0_stepBefore_39
set_option maxHeartbeats 4000000 in
set_option maxRecDepth 100000 in
theorem b_X0_stepBefore_10 {p : Program} {l : Launch} {e : Env} {s : State} {m : MethodId} {args : Array Value} {below : List Frame} {meth : Method} {c : Code} {D : va_G} {cA : Nat → ClassId} {A : Nat → Prop} {a_fi : Nat → Nat} (C : cxm RX0 cX0_stepBefore 5 (some .int) wsX0_stepBefore p s m args meth c) (hA : ∀ q, s.heap.size ≤ q → A q) (hK : va_K D vwCl (tyL cA) s) {fi_states : Int32} {fi_vertices : Int32} {fi_ends : Int32} {fi_stepless : Int32} {fi_mostPending : Int32} {fi_whole : Int32} {fi_endValues : (Nat → Int32)} {fi_endStates : (Nat → Int32)} {fi_parents : (Nat → Int32)} {fi_steps : (Nat → Int32)} {post : Int32 → Prop} {x2 : Int32} {x3 : Int32} {x4 : Int32} {K10 : Int32 → Int32 → Prop} (hk10 : ∀ (H : Heap) (locs : List Loc) (ls : Array Slot) (x3 : Int32) (x4 : Int32), lv_has ls 5 [(0, .ref (a_fi 0)), (2, .int x2), (3, .int x3), (4, .int x4)] → va_P D vwCl (sh_X0 cA a_fi fi_states fi_vertices fi_ends fi_stepless fi_mostPending fi_whole fi_endValues fi_endStates fi_parents fi_steps) H → va_D A (sh_X0 cA a_fi fi_states fi_vertices fi_ends fi_stepless fi_mostPending fi_whole fi_endValues fi_endStates fi_parents fi_steps) → va_S A s.heap H locs → K10 x3 x4 → W p l e rm_X0_stepBefore s m args below meth c H locs 0 0 (MQ below (q_X0_stepBefore D cA A a_fi fi_states fi_vertices fi_ends fi_stepless fi_mostPending fi_whole fi_endValues fi_endStates fi_parents fi_steps post) args s 0 0 A) (F0 m 10 ls [])) {H : Heap} {locs : List Loc} {ls : Array Slot} (hl : lv_has ls 5 [(0, .ref (a_fi 0)), (2, .int x2), (3, .int x3), (4, .int x4)]) (hP : va_P D vwCl (sh_X0 cA a_fi fi_states fi_vertices fi_ends fi_stepless fi_mostPending fi_whole fi_endValues fi_endStates fi_parents fi_steps) H) (hD : va_D A (sh_X0 cA a_fi fi_states fi_vertices fi_ends fi_stepless fi_mostPending fi_whole fi_endValues fi_endStates fi_parents fi_steps)) (hS : va_S A s.heap H locs) (hw : bd_X0_stepBefore_10 fi_endStates fi_parents fi_steps post K10 x2 x3 x4) : W p l e rm_X0_stepBefore s m args below meth c H locs 0 0 (MQ below (q_X0_stepBefore D cA A a_fi fi_states fi_vertices fi_ends fi_stepless fi_mostPending fi_whole fi_endValues fi_endStates fi_parents fi_steps post) args s 0 0 A) (F0 m 10 ls []) := by
  obtain ⟨hx, hb, hr, hts, hown, hlocks, hml⟩ := id C
  unfold bd_X0_stepBefore_10 at hw
  refine lv_iload hx hb dX0_stepBefore_10 (lv_at hl 3 rfl) ?_
  refine lv_iload_n hx hb dX0_stepBefore_12 rfl (lv_at hl 1 rfl) ?_
  refine lv_icmp_ge (tgt := 33) hx hb dX0_stepBefore_13 (by decide) (fun hc => ?_) (fun hc => ?_)
  · have hw := hw.1 hc
    exact k_X0_stepBefore_33 C hA hK (lv_sub hl [0, 2] rfl) hP hD hS hw
  · have hw := hw.2 hc
    refine lv_iload_n hx hb dX0_stepBefore_16 rfl (lv_at hl 2 rfl) ?_
    refine lv_if_le (tgt := 33) hx hb dX0_stepBefore_17 (by decide) (fun hc => ?_) (fun hc => ?_)
    · have hw := hw.1 hc
      exact k_X0_stepBefore_33 C hA hK (lv_sub hl [0, 2] rfl) hP hD hS hw
    · have hw := hw.2 hc
      refine lv_aload_n hx hb dX0_stepBefore_20 rfl (lv_at hl 0 rfl) ?_
      refine va_get (D := D) (ci := 0) (v := .ref (a_fi 3)) (C := RX0) (T := TX0) (N := 10) hx hb hts fi_X0_stepBefore_X0 hown hK hP 0 rfl rfl 8 (by decide) (hts _ fl_X0_stepBefore_2) (fun _ h9 => h9) rfl dX0_stepBefore_21 ?_
      refine lv_iload_n hx hb dX0_stepBefore_24 rfl (lv_at hl 2 rfl) ?_
      obtain ⟨hi3, hw⟩ := hw
      refine va_iald hx hb hK hP 3 0 rfl rfl hi3 dX0_stepBefore_25 ?_
      refine lv_topi (fun y4 ey4 => ?_)
      have hw := hw y4 ey4
      refine lv_istore_n (lv' := [(3, .int y4), (0, .ref (a_fi 0)), (2, .int x2), (4, .int x4)]) hx hb dX0_stepBefore_26 rfl hl (by decide) rfl (fun ls hl => ?_)
      refine lv_iinc (v := (x4 + 1)) (lv' := [(4, .int (x4 + 1)), (3, .int y4), (0, .ref (a_fi 0)), (2, .int x2)]) hx hb dX0_stepBefore_27 hl (k := 3) rfl rfl (by decide) rfl (fun ls hl => ?_)
      refine lv_goto (tgt := 10) hx hb dX0_stepBefore_30 (by decide) ?_
      exact hk10 _ _ _ y4 (x4 + 1) (lv_sub hl [2, 3, 1, 0] rfl) hP hD hS hw
set_option maxHeartbeats 4000000 in
set_option maxRecDepth 100000 in
theorem k_X0_stepBefore_10 {p : Program} {l : Launch} {e : Env} {s : State} {m : MethodId} {args : Array Value} {below : List Frame} {meth : Method} {c : Code} {D : va_G} {cA : Nat → ClassId} {A : Nat → Prop} {a_fi : Nat → Nat} (C : cxm RX0 cX0_stepBefore 5 (some .int) wsX0_stepBefore p s m args meth c) (hA : ∀ q, s.heap.size ≤ q → A q) (hK : va_K D vwCl (tyL cA) s) {fi_states : Int32} {fi_vertices : Int32} {fi_ends : Int32} {fi_stepless : Int32} {fi_mostPending : Int32} {fi_whole : Int32} {fi_endValues : (Nat → Int32)} {fi_endStates : (Nat → Int32)} {fi_parents : (Nat → Int32)} {fi_steps : (Nat → Int32)} {post : Int32 → Prop} {x2 : Int32} {x3 : Int32} {x4 : Int32} {H : Heap} {locs : List Loc} {ls : Array Slot} (hl : lv_has ls 5 [(0, .ref (a_fi 0)), (2, .int x2), (3, .int x3), (4, .int x4)]) (hP : va_P D vwCl (sh_X0 cA a_fi fi_states fi_vertices fi_ends fi_stepless fi_mostPending fi_whole fi_endValues fi_endStates fi_parents fi_steps) H) (hD : va_D A (sh_X0 cA a_fi fi_states fi_vertices fi_ends fi_stepless fi_mostPending fi_whole fi_endValues fi_endStates fi_parents fi_steps)) (hS : va_S A s.heap H locs) (hw : wp_X0_stepBefore_10 fi_endStates fi_parents fi_steps post x2 x3 x4) : W p l e rm_X0_stepBefore s m args below meth c H locs 0 0 (MQ below (q_X0_stepBefore D cA A a_fi fi_states fi_vertices fi_ends fi_stepless fi_mostPending fi_whole fi_endValues fi_endStates fi_parents fi_steps post) args s 0 0 A) (F0 m 10 ls []) := by
  obtain ⟨I, n, hI, hstep⟩ := hw
  have key : ∀ (n : Nat) (H : Heap) (locs : List Loc) (ls : Array Slot) (x3 : Int32) (x4 : Int32), I n x3 x4 → lv_has ls 5 [(0, .ref (a_fi 0)), (2, .int x2), (3, .int x3), (4, .int x4)] → va_P D vwCl (sh_X0 cA a_fi fi_states fi_vertices fi_ends fi_stepless fi_mostPending fi_whole fi_endValues fi_endStates fi_parents fi_steps) H → va_D A (sh_X0 cA a_fi fi_states fi_vertices fi_ends fi_stepless fi_mostPending fi_whole fi_endValues fi_endStates fi_parents fi_steps) → va_S A s.heap H locs → W p l e rm_X0_stepBefore s m args below meth c H locs 0 0 (MQ below (q_X0_stepBefore D cA A a_fi fi_states fi_vertices fi_ends fi_stepless fi_mostPending fi_whole fi_endValues fi_endStates fi_parents fi_steps post) args s 0 0 A) (F0 m 10 ls []) := by
    intro n
    induction n using Nat.strongRecOn with
    | _ n ih =>
      intro H locs ls x3 x4 hI hl hP hD hS
      exact b_X0_stepBefore_10 C hA hK (fun H locs ls x3 x4 hl hP hD hS hw => by obtain ⟨n', hn, hI⟩ := hw; exact ih n' hn H locs ls x3 x4 hI hl hP hD hS) hl hP hD hS (hstep n x3 x4 hI)
  exact key n H locs ls x3 x4 hI hl hP hD hS
set_option maxHeartbeats 4000000 in
set_option maxRecDepth 100000 in
theorem k_X0_stepBefore_0 {p : Program} {l : Launch} {e : Env} {s : State} {m : MethodId} {args : Array Value} {below : List Frame} {meth : Method} {c : Code} {D : va_G} {cA : Nat → ClassId} {A : Nat → Prop} {a_fi : Nat → Nat} (C : cxm RX0 cX0_stepBefore 5 (some .int) wsX0_stepBefore p s m args meth c) (hA : ∀ q, s.heap.size ≤ q → A q) (hK : va_K D vwCl (tyL cA) s) {fi_states : Int32} {fi_vertices : Int32} {fi_ends : Int32} {fi_stepless : Int32} {fi_mostPending : Int32} {fi_whole : Int32} {fi_endValues : (Nat → Int32)} {fi_endStates : (Nat → Int32)} {fi_parents : (Nat → Int32)} {fi_steps : (Nat → Int32)} {post : Int32 → Prop} {x1 : Int32} {x2 : Int32} {H : Heap} {locs : List Loc} {ls : Array Slot} (hl : lv_has ls 5 [(0, .ref (a_fi 0)), (1, .int x1), (2, .int x2)]) (hP : va_P D vwCl (sh_X0 cA a_fi fi_states fi_vertices fi_ends fi_stepless fi_mostPending fi_whole fi_endValues fi_endStates fi_parents fi_steps) H) (hD : va_D A (sh_X0 cA a_fi fi_states fi_vertices fi_ends fi_stepless fi_mostPending fi_whole fi_endValues fi_endStates fi_parents fi_steps)) (hS : va_S A s.heap H locs) (hw : wp_X0_stepBefore_0 fi_endStates fi_parents fi_steps post x1 x2) : W p l e rm_X0_stepBefore s m args below meth c H locs 0 0 (MQ below (q_X0_stepBefore D cA A a_fi fi_states fi_vertices fi_ends fi_stepless fi_mostPending fi_whole fi_endValues fi_endStates fi_parents fi_steps post) args s 0 0 A) (F0 m 0 ls []) := by
  obtain ⟨hx, hb, hr, hts, hown, hlocks, hml⟩ := id C
  unfold wp_X0_stepBefore_0 at hw
  refine lv_aload_n hx hb dX0_stepBefore_0 rfl (lv_at hl 0 rfl) ?_
  refine va_get (D := D) (ci := 0) (v := .ref (a_fi 2)) (C := RX0) (T := TX0) (N := 10) hx hb hts fi_X0_stepBefore_X0 hown hK hP 0 rfl rfl 7 (by decide) (hts _ fl_X0_stepBefore_1) (fun _ h9 => h9) rfl dX0_stepBefore_1 ?_
  refine lv_iload_n hx hb dX0_stepBefore_4 rfl (lv_at hl 1 rfl) ?_
  obtain ⟨hi1, hw⟩ := hw
  refine va_iald hx hb hK hP 2 0 rfl rfl hi1 dX0_stepBefore_5 ?_
  refine lv_topi (fun y2 ey2 => ?_)
  have hw := hw y2 ey2
  refine lv_istore_n (lv' := [(3, .int y2), (0, .ref (a_fi 0)), (1, .int x1), (2, .int x2)]) hx hb dX0_stepBefore_6 rfl hl (by decide) rfl (fun ls hl => ?_)
  refine lv_iconst (v := 0) hx hb dX0_stepBefore_7 (by decide) ?_
  refine lv_istore (lv' := [(4, .int 0), (3, .int y2), (0, .ref (a_fi 0)), (1, .int x1), (2, .int x2)]) hx hb dX0_stepBefore_8 hl (by decide) rfl (fun ls hl => ?_)
  exact k_X0_stepBefore_10 C hA hK (lv_sub hl [2, 4, 1, 0] rfl) hP hD hS hw
set_option maxHeartbeats 4000000 in
set_option maxRecDepth 100000 in
theorem c_X0_stepBefore (l : Launch) (D : va_G) (cA : Nat → ClassId) (a_fi : Nat → Nat) (sz : Nat) (fi_states : Int32) (fi_vertices : Int32) (fi_ends : Int32) (fi_stepless : Int32) (fi_mostPending : Int32) (fi_whole : Int32) (fi_endValues : (Nat → Int32)) (fi_endStates : (Nat → Int32)) (fi_parents : (Nat → Int32)) (fi_steps : (Nat → Int32)) (x1 : Int32) (x2 : Int32) (post : Int32 → Prop) (hw : wp_X0_stepBefore fi_endStates fi_parents fi_steps x1 x2 post) : Met l yX0_stepBefore wsX0_stepBefore rm_X0_stepBefore (cPre D cA sz [.ref (a_fi 0), .int x1, .int x2] (sh_X0 cA a_fi fi_states fi_vertices fi_ends fi_stepless fi_mostPending fi_whole fi_endValues fi_endStates fi_parents fi_steps)) (q_X0_stepBefore D cA (va_A (sh_X0 cA a_fi fi_states fi_vertices fi_ends fi_stepless fi_mostPending fi_whole fi_endValues fi_endStates fi_parents fi_steps) sz) a_fi fi_states fi_vertices fi_ends fi_stepless fi_mostPending fi_whole fi_endValues fi_endStates fi_parents fi_steps post) 0 0 (va_A (sh_X0 cA a_fi fi_states fi_vertices fi_ends fi_stepless fi_mostPending fi_whole fi_endValues fi_endStates fi_parents fi_steps) sz) := by
  refine Met.ofW (cc := cX0_stepBefore) (maxL := 5) (ret := (some .int)) (by decide) rfl ?_
  intro p e s m args below meth c s₁ B hml hv
  obtain ⟨rfl, hsz, hP, hK, hD0⟩ := hv
  have hown : s.vm.findClass RX0 = some m.cls := findClass_of_methodNamed B.named
  subst hsz
  have hD := hD0.self (sz := s.heap.size)
  have hl := lv_entry ([.ref (a_fi 0), .int x1, .int x2]) (n := 5) (Nat.le_of_ble_eq_true rfl)
  rw [lg_entry_eq]
  exact k_X0_stepBefore_0 ⟨B.exec, B.bytes, B.returns, atoms_spec (ws := wsX0_stepBefore) B.pre, hown, B.notSynchronized, hml⟩ (fun q h => Or.inr h) hK hl hP hD va_S.rf hw
