/-! X2_tell: tell(III)I -/
theorem fi_X2_tell_X2 : ∀ w ∈ wsX20, w ∈ wsX2_tell := by decide +kernel
theorem fl_X2_tell_1 : ((.fieldLink RX2 15 "OrderTests$Rules" "told" "[I") : Cond) ∈ wsX2_tell := by decide +kernel
abbrev rm_X2_tell : Room := { frames := 1, cells := 0, slots := 0, locals := 21 }
abbrev q_X2_tell (D : va_G) (cA : Nat → ClassId) (A : Nat → Prop) (a_r : Nat → Nat) (r_settings : (Nat → Int32)) (post : Int32 → (Nat → Int32) → Prop) : Array Value → State → Outcome → State → Prop := va_Qi (fun (r : Int32) (u : (Nat → Int32)) => post r u) (cOut D cA A (fun (u : (Nat → Int32)) => sh_X2 cA a_r r_settings u)) A
set_option maxHeartbeats 4000000 in
set_option maxRecDepth 100000 in
theorem k_X2_tell_0 {p : Program} {l : Launch} {e : Env} {s : State} {m : MethodId} {args : Array Value} {below : List Frame} {meth : Method} {c : Code} {D : va_G} {cA : Nat → ClassId} {A : Nat → Prop} {a_r : Nat → Nat} (C : cxm RX2 cX2_tell 5 (some .int) wsX2_tell p s m args meth c) (hA : ∀ q, s.heap.size ≤ q → A q) (hK : va_K D vwCl (tyL cA) s) {r_settings : (Nat → Int32)} {post : Int32 → (Nat → Int32) → Prop} {x1 : Int32} {x2 : Int32} {x3 : Int32} {r_told : (Nat → Int32)} {H : Heap} {locs : List Loc} {ls : Array Slot} (hl : lv_has ls 5 [(0, .ref (a_r 0)), (1, .int x1), (2, .int x2), (3, .int x3)]) (hP : va_P D vwCl (sh_X2 cA a_r r_settings r_told) H) (hD : va_D A (sh_X2 cA a_r r_settings r_told)) (hS : va_S A s.heap H locs) (hw : wp_X2_tell_0 post x1 x2 x3 r_told) : W p l e rm_X2_tell s m args below meth c H locs 0 0 (MQ below (q_X2_tell D cA A a_r r_settings post) args s 0 0 A) (F0 m 0 ls []) := by
  obtain ⟨hx, hb, hr, hts, hown, hlocks, hml⟩ := id C
  unfold wp_X2_tell_0 at hw
  refine lv_aload_n hx hb dX2_tell_0 rfl (lv_at hl 0 rfl) ?_
  refine va_get (D := D) (ci := 2) (v := .ref (a_r 2)) (C := RX2) (T := TX2) (N := 2) hx hb hts fi_X2_tell_X2 hown hK hP 0 rfl rfl 1 (by decide) (hts _ fl_X2_tell_1) (fun _ h9 => h9) rfl dX2_tell_1 ?_
  refine lv_iload_n hx hb dX2_tell_4 rfl (lv_at hl 1 rfl) ?_
  refine lv_iload_n hx hb dX2_tell_5 rfl (lv_at hl 2 rfl) ?_
  refine cS_i (As := [.int x1, .int x2]) (rest := [.ref (a_r 2)]) (wr := [((a_r 0), .inr (2, [.ref (a_r 1), .ref (a_r 2)])), ((a_r 1), .inl (cA 0, 6, .inl r_settings)), ((a_r 2), .inl (cA 0, 256, .inl r_told))]) (w2 := (fun (u : Unit) => sh_X2 cA a_r r_settings r_told)) ⟨hx, hb, hml, hown, hts⟩ (c_X2_cell l D cA H.size x1 x2 _ hw) (va_cwS 2 hts gX2_tell_X2_cell rfl rfl rfl (by decide +kernel) ⟨(Nat.le_of_ble_eq_true rfl), (Nat.le_of_ble_eq_true rfl)⟩) hK hP hD hS hA [] [0, 1, 2] [0, 1, 2] rfl rfl rfl rfl (by decide) rfl (fun _ => rfl) rfl hl.1 rfl (Nat.le_of_ble_eq_true rfl) dX2_tell_6 ⟨Nat.le_refl _, Nat.le_refl _⟩ (fun r1 u H locs hw hP hD hS => ?_)
  try dsimp only at hw
  have hP : va_P D vwCl (sh_X2 cA a_r r_settings r_told) H := hP
  have hD : va_D A (sh_X2 cA a_r r_settings r_told) := hD
  obtain ⟨hi2, hw⟩ := hw
  refine va_iald hx hb hK hP 2 0 rfl rfl hi2 dX2_tell_9 ?_
  refine lv_topi (fun y3 ey3 => ?_)
  have hw := hw y3 ey3
  refine lv_istore (lv' := [(4, .int y3), (0, .ref (a_r 0)), (1, .int x1), (2, .int x2), (3, .int x3)]) hx hb dX2_tell_10 hl (by decide) rfl (fun ls hl => ?_)
  refine lv_aload_n hx hb dX2_tell_12 rfl (lv_at hl 1 rfl) ?_
  refine va_get (D := D) (ci := 2) (v := .ref (a_r 2)) (C := RX2) (T := TX2) (N := 2) hx hb hts fi_X2_tell_X2 hown hK hP 0 rfl rfl 1 (by decide) (hts _ fl_X2_tell_1) (fun _ h9 => h9) rfl dX2_tell_13 ?_
  refine lv_iload_n hx hb dX2_tell_16 rfl (lv_at hl 2 rfl) ?_
  refine lv_iload_n hx hb dX2_tell_17 rfl (lv_at hl 3 rfl) ?_
  refine cS_i (As := [.int x1, .int x2]) (rest := [.ref (a_r 2)]) (wr := [((a_r 0), .inr (2, [.ref (a_r 1), .ref (a_r 2)])), ((a_r 1), .inl (cA 0, 6, .inl r_settings)), ((a_r 2), .inl (cA 0, 256, .inl r_told))]) (w2 := (fun (u : Unit) => sh_X2 cA a_r r_settings r_told)) ⟨hx, hb, hml, hown, hts⟩ (c_X2_cell l D cA H.size x1 x2 _ hw) (va_cwS 2 hts gX2_tell_X2_cell rfl rfl rfl (by decide +kernel) ⟨(Nat.le_of_ble_eq_true rfl), (Nat.le_of_ble_eq_true rfl)⟩) hK hP hD hS hA [] [0, 1, 2] [0, 1, 2] rfl rfl rfl rfl (by decide) rfl (fun _ => rfl) rfl hl.1 rfl (Nat.le_of_ble_eq_true rfl) dX2_tell_18 ⟨Nat.le_refl _, Nat.le_refl _⟩ (fun r4 u H locs hw hP hD hS => ?_)
  try dsimp only at hw
  have hP : va_P D vwCl (sh_X2 cA a_r r_settings r_told) H := hP
  have hD : va_D A (sh_X2 cA a_r r_settings r_told) := hD
  refine lv_iload_n hx hb dX2_tell_21 rfl (lv_at hl 4 rfl) ?_
  obtain ⟨hi5, hw⟩ := hw
  refine va_iast hx hb hK hP hD hS 2 0 rfl rfl hi5 dX2_tell_22 (fun H locs hP hD hS => ?_)
  have hP : va_P D vwCl (sh_X2 cA a_r r_settings (upd r_told r4.toNatClampNeg x3)) H := hP
  have hD : va_D A (sh_X2 cA a_r r_settings (upd r_told r4.toNatClampNeg x3)) := hD
  refine lv_iload hx hb dX2_tell_23 (lv_at hl 0 rfl) ?_
  exact W.iret (v := y3) hx hb hr (fun t ht hW => ⟨⟨y3, ((upd r_told r4.toNatClampNeg x3)), rfl, hw, by rw [ht]; exact hP, va_K.moved hW.alike hK, hD⟩, hS.F ht⟩) hS.2.2 dX2_tell_25
set_option maxHeartbeats 4000000 in
set_option maxRecDepth 100000 in
theorem c_X2_tell (l : Launch) (D : va_G) (cA : Nat → ClassId) (a_r : Nat → Nat) (sz : Nat) (r_settings : (Nat → Int32)) (r_told : (Nat → Int32)) (x1 : Int32) (x2 : Int32) (x3 : Int32) (post : Int32 → (Nat → Int32) → Prop) (hw : wp_X2_tell r_told x1 x2 x3 post) : Met l yX2_tell wsX2_tell rm_X2_tell (cPre D cA sz [.ref (a_r 0), .int x1, .int x2, .int x3] (sh_X2 cA a_r r_settings r_told)) (q_X2_tell D cA (va_A (sh_X2 cA a_r r_settings r_told) sz) a_r r_settings post) 0 0 (va_A (sh_X2 cA a_r r_settings r_told) sz) := by
  refine Met.ofW (cc := cX2_tell) (maxL := 5) (ret := (some .int)) (by decide) rfl ?_
  intro p e s m args below meth c s₁ B hml hv
  obtain ⟨rfl, hsz, hP, hK, hD0⟩ := hv
  have hown : s.vm.findClass RX2 = some m.cls := findClass_of_methodNamed B.named
  subst hsz
  have hD := hD0.self (sz := s.heap.size)
  have hl := lv_entry ([.ref (a_r 0), .int x1, .int x2, .int x3]) (n := 5) (Nat.le_of_ble_eq_true rfl)
  rw [lg_entry_eq]
  exact k_X2_tell_0 ⟨B.exec, B.bytes, B.returns, atoms_spec (ws := wsX2_tell) B.pre, hown, B.notSynchronized, hml⟩ (fun q h => Or.inr h) hK hl hP hD va_S.rf hw
/-! X2_folded: folded(II)I -/
theorem fi_X2_folded_X2 : ∀ w ∈ wsX20, w ∈ wsX2_folded := by decide +kernel
theorem fl_X2_folded_1 : ((.fieldLink RX2 9 "OrderTests$Rules" "settings" "[I") : Cond) ∈ wsX2_folded := by decide +kernel
theorem fl_X2_folded_2 : ((.methodLink RX2 22 Lib.Math.min.name) : Cond) ∈ wsX2_folded := by decide +kernel
theorem fl_X2_folded_3 : ((.static Lib.Math.min.name) : Cond) ∈ wsX2_folded := by decide +kernel
theorem fl_X2_folded_4 : ((.initialized "java/lang/Math") : Cond) ∈ wsX2_folded := by decide +kernel
theorem fl_X2_folded_5 : ((.code Lib.Math.min.name Lib.Math.min.code 2 (some .int)) : Cond) ∈ wsX2_folded := by decide +kernel
theorem fl_X2_folded_6 : ((.methodLink RX2 27 Lib.Math.max.name) : Cond) ∈ wsX2_folded := by decide +kernel
theorem fl_X2_folded_7 : ((.static Lib.Math.max.name) : Cond) ∈ wsX2_folded := by decide +kernel
theorem fl_X2_folded_8 : ((.code Lib.Math.max.name Lib.Math.max.code 2 (some .int)) : Cond) ∈ wsX2_folded := by decide +kernel
theorem fl_X2_folded_9 : ((.fieldLink RX2 15 "OrderTests$Rules" "told" "[I") : Cond) ∈ wsX2_folded := by decide +kernel
abbrev rm_X2_folded : Room := { frames := 1, cells := 0, slots := 0, locals := 21 }
abbrev q_X2_folded (D : va_G) (cA : Nat → ClassId) (A : Nat → Prop) (a_r : Nat → Nat) (r_settings : (Nat → Int32)) (r_told : (Nat → Int32)) (post : Int32 → Prop) : Array Value → State → Outcome → State → Prop := va_Qi (fun (r : Int32) (u : Unit) => post r) (cOut D cA A (fun (u : Unit) => sh_X2 cA a_r r_settings r_told)) A
set_option maxHeartbeats 4000000 in
set_option maxRecDepth 100000 in
theorem k_X2_folded_0 {p : Program} {l : Launch} {e : Env} {s : State} {m : MethodId} {args : Array Value} {below : List Frame} {meth : Method} {c : Code} {D : va_G} {cA : Nat → ClassId} {A : Nat → Prop} {a_r : Nat → Nat} (C : cxm RX2 cX2_folded 3 (some .int) wsX2_folded p s m args meth c) (hA : ∀ q, s.heap.size ≤ q → A q) (hK : va_K D vwCl (tyL cA) s) {r_settings : (Nat → Int32)} {r_told : (Nat → Int32)} {post : Int32 → Prop} {x1 : Int32} {x2 : Int32} {H : Heap} {locs : List Loc} {ls : Array Slot} (hl : lv_has ls 3 [(0, .ref (a_r 0)), (1, .int x1), (2, .int x2)]) (hP : va_P D vwCl (sh_X2 cA a_r r_settings r_told) H) (hD : va_D A (sh_X2 cA a_r r_settings r_told)) (hS : va_S A s.heap H locs) (hw : wp_X2_folded_0 r_settings r_told post x1 x2) : W p l e rm_X2_folded s m args below meth c H locs 0 0 (MQ below (q_X2_folded D cA A a_r r_settings r_told post) args s 0 0 A) (F0 m 0 ls []) := by
  obtain ⟨hx, hb, hr, hts, hown, hlocks, hml⟩ := id C
  unfold wp_X2_folded_0 at hw
  refine lv_aload_n hx hb dX2_folded_0 rfl (lv_at hl 0 rfl) ?_
  refine va_get (D := D) (ci := 2) (v := .ref (a_r 1)) (C := RX2) (T := TX2) (N := 2) hx hb hts fi_X2_folded_X2 hown hK hP 0 rfl rfl 0 (by decide) (hts _ fl_X2_folded_1) (fun _ h9 => h9) rfl dX2_folded_1 ?_
  refine lv_iconst (v := 0) hx hb dX2_folded_4 (by decide) ?_
  obtain ⟨hi1, hw⟩ := hw
  refine va_iald hx hb hK hP 1 0 rfl rfl hi1 dX2_folded_5 ?_
  by_cases hc0 : (r_settings (0 : Int32).toNatClampNeg) = 0
  · have hw := hw.1 hc0
    refine lv_tableIn (off := 50) (tgt := 56) hx hb dX2_folded_6 (by rw [hc0]; decide) (by rw [hc0]; decide) (by rw [hc0]; rfl) (by decide) ?_
    refine lv_iload_n hx hb dX2_folded_56 rfl (lv_at hl 1 rfl) ?_
    refine lv_iload_n hx hb dX2_folded_57 rfl (lv_at hl 2 rfl) ?_
    refine lv_iadd hx hb dX2_folded_58 ?_
    refine lv_bipush (v := 15) hx hb dX2_folded_59 (by decide) ?_
    refine lv_iand hx hb dX2_folded_61 ?_
    exact W.iret (v := ((x1 + x2) &&& 15)) hx hb hr (fun t ht hW => ⟨⟨((x1 + x2) &&& 15), (), rfl, hw, by rw [ht]; exact hP, va_K.moved hW.alike hK, hD⟩, hS.F ht⟩) hS.2.2 dX2_folded_62
  have hw := hw.2 hc0
  by_cases hc1 : (r_settings (0 : Int32).toNatClampNeg) = 1
  · have hw := hw.1 hc1
    refine lv_tableIn (off := 57) (tgt := 63) hx hb dX2_folded_6 (by rw [hc1]; decide) (by rw [hc1]; decide) (by rw [hc1]; rfl) (by decide) ?_
    refine lv_iload_n hx hb dX2_folded_63 rfl (lv_at hl 1 rfl) ?_
    refine lv_iload_n hx hb dX2_folded_64 rfl (lv_at hl 2 rfl) ?_
    refine va_mmin hx hb (by rw [hml]; exact hl.1.symm) hown (hts _ fl_X2_folded_2) (hts _ fl_X2_folded_3) (hts _ fl_X2_folded_4) (hts _ fl_X2_folded_5) (Nat.le_of_ble_eq_true rfl) (Nat.le_of_ble_eq_true rfl) (Nat.le_of_ble_eq_true rfl) (Nat.le_of_ble_eq_true rfl) dX2_folded_65 ?_
    exact W.iret (v := (if x2 < x1 then x2 else x1)) hx hb hr (fun t ht hW => ⟨⟨(if x2 < x1 then x2 else x1), (), rfl, hw, by rw [ht]; exact hP, va_K.moved hW.alike hK, hD⟩, hS.F ht⟩) hS.2.2 dX2_folded_68
  have hw := hw.2 hc1
  by_cases hc2 : (r_settings (0 : Int32).toNatClampNeg) = 2
  · have hw := hw.1 hc2
    refine lv_tableIn (off := 63) (tgt := 69) hx hb dX2_folded_6 (by rw [hc2]; decide) (by rw [hc2]; decide) (by rw [hc2]; rfl) (by decide) ?_
    refine lv_iload_n hx hb dX2_folded_69 rfl (lv_at hl 1 rfl) ?_
    refine lv_iload_n hx hb dX2_folded_70 rfl (lv_at hl 2 rfl) ?_
    refine va_mmax hx hb (by rw [hml]; exact hl.1.symm) hown (hts _ fl_X2_folded_6) (hts _ fl_X2_folded_7) (hts _ fl_X2_folded_4) (hts _ fl_X2_folded_8) (Nat.le_of_ble_eq_true rfl) (Nat.le_of_ble_eq_true rfl) (Nat.le_of_ble_eq_true rfl) (Nat.le_of_ble_eq_true rfl) dX2_folded_71 ?_
    exact W.iret (v := (if x1 < x2 then x2 else x1)) hx hb hr (fun t ht hW => ⟨⟨(if x1 < x2 then x2 else x1), (), rfl, hw, by rw [ht]; exact hP, va_K.moved hW.alike hK, hD⟩, hS.F ht⟩) hS.2.2 dX2_folded_74
  have hw := hw.2 hc2
  by_cases hc3 : (r_settings (0 : Int32).toNatClampNeg) = 3
  · have hw := hw.1 hc3
    refine lv_tableIn (off := 69) (tgt := 75) hx hb dX2_folded_6 (by rw [hc3]; decide) (by rw [hc3]; decide) (by rw [hc3]; rfl) (by decide) ?_
    refine lv_iload_n hx hb dX2_folded_75 rfl (lv_at hl 1 rfl) ?_
    refine lv_iload_n hx hb dX2_folded_76 rfl (lv_at hl 2 rfl) ?_
    refine lv_ixor hx hb dX2_folded_77 ?_
    exact W.iret (v := (x1 ^^^ x2)) hx hb hr (fun t ht hW => ⟨⟨(x1 ^^^ x2), (), rfl, hw, by rw [ht]; exact hP, va_K.moved hW.alike hK, hD⟩, hS.F ht⟩) hS.2.2 dX2_folded_78
  have hw := hw.2 hc3
  by_cases hc4 : (r_settings (0 : Int32).toNatClampNeg) = 4
  · have hw := hw.1 hc4
    refine lv_tableIn (off := 73) (tgt := 79) hx hb dX2_folded_6 (by rw [hc4]; decide) (by rw [hc4]; decide) (by rw [hc4]; rfl) (by decide) ?_
    refine lv_iload_n hx hb dX2_folded_79 rfl (lv_at hl 2 rfl) ?_
    exact W.iret (v := x2) hx hb hr (fun t ht hW => ⟨⟨x2, (), rfl, hw, by rw [ht]; exact hP, va_K.moved hW.alike hK, hD⟩, hS.F ht⟩) hS.2.2 dX2_folded_80
  have hw := hw.2 hc4
  by_cases hc5 : (r_settings (0 : Int32).toNatClampNeg) = 5
  · have hw := hw.1 hc5
    refine lv_tableIn (off := 75) (tgt := 81) hx hb dX2_folded_6 (by rw [hc5]; decide) (by rw [hc5]; decide) (by rw [hc5]; rfl) (by decide) ?_
    refine lv_iload_n hx hb dX2_folded_81 rfl (lv_at hl 1 rfl) ?_
    exact W.iret (v := x1) hx hb hr (fun t ht hW => ⟨⟨x1, (), rfl, hw, by rw [ht]; exact hP, va_K.moved hW.alike hK, hD⟩, hS.F ht⟩) hS.2.2 dX2_folded_82
  have hw := hw.2 hc5
  by_cases hc6 : (r_settings (0 : Int32).toNatClampNeg) = 6
  · have hw := hw.1 hc6
    refine lv_tableIn (off := 77) (tgt := 83) hx hb dX2_folded_6 (by rw [hc6]; decide) (by rw [hc6]; decide) (by rw [hc6]; rfl) (by decide) ?_
    refine lv_iconst (v := 2) hx hb dX2_folded_83 (by decide) ?_
    refine lv_iload_n hx hb dX2_folded_84 rfl (lv_at hl 1 rfl) ?_
    refine lv_imul hx hb dX2_folded_85 ?_
    refine lv_iload_n hx hb dX2_folded_86 rfl (lv_at hl 2 rfl) ?_
    refine lv_iadd hx hb dX2_folded_87 ?_
    refine lv_bipush (v := 15) hx hb dX2_folded_88 (by decide) ?_
    refine lv_iand hx hb dX2_folded_90 ?_
    exact W.iret (v := (((2 * x1) + x2) &&& 15)) hx hb hr (fun t ht hW => ⟨⟨(((2 * x1) + x2) &&& 15), (), rfl, hw, by rw [ht]; exact hP, va_K.moved hW.alike hK, hD⟩, hS.F ht⟩) hS.2.2 dX2_folded_91
  have hw := hw.2 hc6
  by_cases hc7 : (r_settings (0 : Int32).toNatClampNeg) = 7
  · have hw := hw.1 hc7
    refine lv_tableIn (off := 86) (tgt := 92) hx hb dX2_folded_6 (by rw [hc7]; decide) (by rw [hc7]; decide) (by rw [hc7]; rfl) (by decide) ?_
    refine lv_iload_n hx hb dX2_folded_92 rfl (lv_at hl 1 rfl) ?_
    refine lv_iload_n hx hb dX2_folded_93 rfl (lv_at hl 2 rfl) ?_
    refine lv_iand hx hb dX2_folded_94 ?_
    exact W.iret (v := (x1 &&& x2)) hx hb hr (fun t ht hW => ⟨⟨(x1 &&& x2), (), rfl, hw, by rw [ht]; exact hP, va_K.moved hW.alike hK, hD⟩, hS.F ht⟩) hS.2.2 dX2_folded_95
  have hw := hw.2 hc7
  by_cases hc8 : (r_settings (0 : Int32).toNatClampNeg) = 8
  · have hw := hw.1 hc8
    refine lv_tableIn (off := 90) (tgt := 96) hx hb dX2_folded_6 (by rw [hc8]; decide) (by rw [hc8]; decide) (by rw [hc8]; rfl) (by decide) ?_
    refine lv_iload_n hx hb dX2_folded_96 rfl (lv_at hl 1 rfl) ?_
    refine lv_iload_n hx hb dX2_folded_97 rfl (lv_at hl 2 rfl) ?_
    refine lv_ior hx hb dX2_folded_98 ?_
    exact W.iret (v := (x1 ||| x2)) hx hb hr (fun t ht hW => ⟨⟨(x1 ||| x2), (), rfl, hw, by rw [ht]; exact hP, va_K.moved hW.alike hK, hD⟩, hS.F ht⟩) hS.2.2 dX2_folded_99
  have hw := hw.2 hc8
  refine lv_tableOut (tgt := 100) hx hb dX2_folded_6 (by have e0 := lv_neT hc0 (show (0 : Int32).toInt = 0 by decide); have e1 := lv_neT hc1 (show (1 : Int32).toInt = 1 by decide); have e2 := lv_neT hc2 (show (2 : Int32).toInt = 2 by decide); have e3 := lv_neT hc3 (show (3 : Int32).toInt = 3 by decide); have e4 := lv_neT hc4 (show (4 : Int32).toInt = 4 by decide); have e5 := lv_neT hc5 (show (5 : Int32).toInt = 5 by decide); have e6 := lv_neT hc6 (show (6 : Int32).toInt = 6 by decide); have e7 := lv_neT hc7 (show (7 : Int32).toInt = 7 by decide); have e8 := lv_neT hc8 (show (8 : Int32).toInt = 8 by decide); omega) (by decide) ?_
  refine lv_aload_n hx hb dX2_folded_100 rfl (lv_at hl 0 rfl) ?_
  refine va_get (D := D) (ci := 2) (v := .ref (a_r 2)) (C := RX2) (T := TX2) (N := 2) hx hb hts fi_X2_folded_X2 hown hK hP 0 rfl rfl 1 (by decide) (hts _ fl_X2_folded_9) (fun _ h9 => h9) rfl dX2_folded_101 ?_
  refine lv_iload_n hx hb dX2_folded_104 rfl (lv_at hl 1 rfl) ?_
  refine lv_iload_n hx hb dX2_folded_105 rfl (lv_at hl 2 rfl) ?_
  refine cS_i (As := [.int x1, .int x2]) (rest := [.ref (a_r 2)]) (wr := [((a_r 0), .inr (2, [.ref (a_r 1), .ref (a_r 2)])), ((a_r 1), .inl (cA 0, 6, .inl r_settings)), ((a_r 2), .inl (cA 0, 256, .inl r_told))]) (w2 := (fun (u : Unit) => sh_X2 cA a_r r_settings r_told)) ⟨hx, hb, hml, hown, hts⟩ (c_X2_cell l D cA H.size x1 x2 _ hw) (va_cwS 2 hts gX2_folded_X2_cell rfl rfl rfl (by decide +kernel) ⟨(Nat.le_of_ble_eq_true rfl), (Nat.le_of_ble_eq_true rfl)⟩) hK hP hD hS hA [] [0, 1, 2] [0, 1, 2] rfl rfl rfl rfl (by decide) rfl (fun _ => rfl) rfl hl.1 rfl (Nat.le_of_ble_eq_true rfl) dX2_folded_106 ⟨Nat.le_refl _, Nat.le_refl _⟩ (fun r2 u H locs hw hP hD hS => ?_)
  try dsimp only at hw
  have hP : va_P D vwCl (sh_X2 cA a_r r_settings r_told) H := hP
  have hD : va_D A (sh_X2 cA a_r r_settings r_told) := hD
  obtain ⟨hi3, hw⟩ := hw
  refine va_iald hx hb hK hP 2 0 rfl rfl hi3 dX2_folded_109 ?_
  exact W.iret (v := (r_told r2.toNatClampNeg)) hx hb hr (fun t ht hW => ⟨⟨(r_told r2.toNatClampNeg), (), rfl, hw, by rw [ht]; exact hP, va_K.moved hW.alike hK, hD⟩, hS.F ht⟩) hS.2.2 dX2_folded_110
set_option maxHeartbeats 4000000 in
set_option maxRecDepth 100000 in
theorem c_X2_folded (l : Launch) (D : va_G) (cA : Nat → ClassId) (a_r : Nat → Nat) (sz : Nat) (r_settings : (Nat → Int32)) (r_told : (Nat → Int32)) (x1 : Int32) (x2 : Int32) (post : Int32 → Prop) (hw : wp_X2_folded r_settings r_told x1 x2 post) : Met l yX2_folded wsX2_folded rm_X2_folded (cPre D cA sz [.ref (a_r 0), .int x1, .int x2] (sh_X2 cA a_r r_settings r_told)) (q_X2_folded D cA (va_A (sh_X2 cA a_r r_settings r_told) sz) a_r r_settings r_told post) 0 0 (va_A (sh_X2 cA a_r r_settings r_told) sz) := by
  refine Met.ofW (cc := cX2_folded) (maxL := 3) (ret := (some .int)) (by decide) rfl ?_
  intro p e s m args below meth c s₁ B hml hv
  obtain ⟨rfl, hsz, hP, hK, hD0⟩ := hv
  have hown : s.vm.findClass RX2 = some m.cls := findClass_of_methodNamed B.named
  subst hsz
  have hD := hD0.self (sz := s.heap.size)
  have hl := lv_entry ([.ref (a_r 0), .int x1, .int x2]) (n := 3) (Nat.le_of_ble_eq_true rfl)
  rw [lg_entry_eq]
  exact k_X2_folded_0 ⟨B.exec, B.bytes, B.returns, atoms_spec (ws := wsX2_folded) B.pre, hown, B.notSynchronized, hml⟩ (fun q h => Or.inr h) hK hl hP hD va_S.rf hw
/-! X2_sentOut: sentOut(II)I -/
theorem fi_X2_sentOut_X2 : ∀ w ∈ wsX20, w ∈ wsX2_sentOut := by decide +kernel
theorem fl_X2_sentOut_1 : ((.fieldLink RX2 9 "OrderTests$Rules" "settings" "[I") : Cond) ∈ wsX2_sentOut := by decide +kernel
theorem fl_X2_sentOut_2 : ((.methodLink RX2 22 Lib.Math.min.name) : Cond) ∈ wsX2_sentOut := by decide +kernel
theorem fl_X2_sentOut_3 : ((.static Lib.Math.min.name) : Cond) ∈ wsX2_sentOut := by decide +kernel
theorem fl_X2_sentOut_4 : ((.initialized "java/lang/Math") : Cond) ∈ wsX2_sentOut := by decide +kernel
theorem fl_X2_sentOut_5 : ((.code Lib.Math.min.name Lib.Math.min.code 2 (some .int)) : Cond) ∈ wsX2_sentOut := by decide +kernel
theorem fl_X2_sentOut_6 : ((.methodLink RX2 27 Lib.Math.max.name) : Cond) ∈ wsX2_sentOut := by decide +kernel
theorem fl_X2_sentOut_7 : ((.static Lib.Math.max.name) : Cond) ∈ wsX2_sentOut := by decide +kernel
theorem fl_X2_sentOut_8 : ((.code Lib.Math.max.name Lib.Math.max.code 2 (some .int)) : Cond) ∈ wsX2_sentOut := by decide +kernel
abbrev rm_X2_sentOut : Room := { frames := 1, cells := 0, slots := 0, locals := 21 }
abbrev q_X2_sentOut (D : va_G) (cA : Nat → ClassId) (A : Nat → Prop) (a_r : Nat → Nat) (r_settings : (Nat → Int32)) (r_told : (Nat → Int32)) (post : Int32 → Prop) : Array Value → State → Outcome → State → Prop := va_Qi (fun (r : Int32) (u : Unit) => post r) (cOut D cA A (fun (u : Unit) => sh_X2 cA a_r r_settings r_told)) A
set_option maxHeartbeats 4000000 in
set_option maxRecDepth 100000 in
theorem k_X2_sentOut_0 {p : Program} {l : Launch} {e : Env} {s : State} {m : MethodId} {args : Array Value} {below : List Frame} {meth : Method} {c : Code} {D : va_G} {cA : Nat → ClassId} {A : Nat → Prop} {a_r : Nat → Nat} (C : cxm RX2 cX2_sentOut 3 (some .int) wsX2_sentOut p s m args meth c) (hA : ∀ q, s.heap.size ≤ q → A q) (hK : va_K D vwCl (tyL cA) s) {r_settings : (Nat → Int32)} {r_told : (Nat → Int32)} {post : Int32 → Prop} {x1 : Int32} {x2 : Int32} {H : Heap} {locs : List Loc} {ls : Array Slot} (hl : lv_has ls 3 [(0, .ref (a_r 0)), (1, .int x1), (2, .int x2)]) (hP : va_P D vwCl (sh_X2 cA a_r r_settings r_told) H) (hD : va_D A (sh_X2 cA a_r r_settings r_told)) (hS : va_S A s.heap H locs) (hw : wp_X2_sentOut_0 r_settings post x1 x2) : W p l e rm_X2_sentOut s m args below meth c H locs 0 0 (MQ below (q_X2_sentOut D cA A a_r r_settings r_told post) args s 0 0 A) (F0 m 0 ls []) := by
  obtain ⟨hx, hb, hr, hts, hown, hlocks, hml⟩ := id C
  unfold wp_X2_sentOut_0 at hw
  refine lv_aload_n hx hb dX2_sentOut_0 rfl (lv_at hl 0 rfl) ?_
  refine va_get (D := D) (ci := 2) (v := .ref (a_r 1)) (C := RX2) (T := TX2) (N := 2) hx hb hts fi_X2_sentOut_X2 hown hK hP 0 rfl rfl 0 (by decide) (hts _ fl_X2_sentOut_1) (fun _ h9 => h9) rfl dX2_sentOut_1 ?_
  refine lv_iconst (v := 1) hx hb dX2_sentOut_4 (by decide) ?_
  obtain ⟨hi1, hw⟩ := hw
  refine va_iald hx hb hK hP 1 0 rfl rfl hi1 dX2_sentOut_5 ?_
  by_cases hc0 : (r_settings (1 : Int32).toNatClampNeg) = 0
  · have hw := hw.1 hc0
    refine lv_tableIn (off := 30) (tgt := 36) hx hb dX2_sentOut_6 (by rw [hc0]; decide) (by rw [hc0]; decide) (by rw [hc0]; rfl) (by decide) ?_
    refine lv_iload_n hx hb dX2_sentOut_36 rfl (lv_at hl 1 rfl) ?_
    exact W.iret (v := x1) hx hb hr (fun t ht hW => ⟨⟨x1, (), rfl, hw, by rw [ht]; exact hP, va_K.moved hW.alike hK, hD⟩, hS.F ht⟩) hS.2.2 dX2_sentOut_37
  have hw := hw.2 hc0
  by_cases hc1 : (r_settings (1 : Int32).toNatClampNeg) = 1
  · have hw := hw.1 hc1
    refine lv_tableIn (off := 32) (tgt := 38) hx hb dX2_sentOut_6 (by rw [hc1]; decide) (by rw [hc1]; decide) (by rw [hc1]; rfl) (by decide) ?_
    refine lv_iload_n hx hb dX2_sentOut_38 rfl (lv_at hl 1 rfl) ?_
    refine lv_iload_n hx hb dX2_sentOut_39 rfl (lv_at hl 2 rfl) ?_
    refine lv_iadd hx hb dX2_sentOut_40 ?_
    refine lv_bipush (v := 15) hx hb dX2_sentOut_41 (by decide) ?_
    refine lv_iand hx hb dX2_sentOut_43 ?_
    exact W.iret (v := ((x1 + x2) &&& 15)) hx hb hr (fun t ht hW => ⟨⟨((x1 + x2) &&& 15), (), rfl, hw, by rw [ht]; exact hP, va_K.moved hW.alike hK, hD⟩, hS.F ht⟩) hS.2.2 dX2_sentOut_44
  have hw := hw.2 hc1
  by_cases hc2 : (r_settings (1 : Int32).toNatClampNeg) = 2
  · have hw := hw.1 hc2
    refine lv_tableIn (off := 39) (tgt := 45) hx hb dX2_sentOut_6 (by rw [hc2]; decide) (by rw [hc2]; decide) (by rw [hc2]; rfl) (by decide) ?_
    refine lv_iload_n hx hb dX2_sentOut_45 rfl (lv_at hl 1 rfl) ?_
    refine lv_iload_n hx hb dX2_sentOut_46 rfl (lv_at hl 2 rfl) ?_
    refine va_mmin hx hb (by rw [hml]; exact hl.1.symm) hown (hts _ fl_X2_sentOut_2) (hts _ fl_X2_sentOut_3) (hts _ fl_X2_sentOut_4) (hts _ fl_X2_sentOut_5) (Nat.le_of_ble_eq_true rfl) (Nat.le_of_ble_eq_true rfl) (Nat.le_of_ble_eq_true rfl) (Nat.le_of_ble_eq_true rfl) dX2_sentOut_47 ?_
    exact W.iret (v := (if x2 < x1 then x2 else x1)) hx hb hr (fun t ht hW => ⟨⟨(if x2 < x1 then x2 else x1), (), rfl, hw, by rw [ht]; exact hP, va_K.moved hW.alike hK, hD⟩, hS.F ht⟩) hS.2.2 dX2_sentOut_50
  have hw := hw.2 hc2
  by_cases hc3 : (r_settings (1 : Int32).toNatClampNeg) = 3
  · have hw := hw.1 hc3
    refine lv_tableIn (off := 45) (tgt := 51) hx hb dX2_sentOut_6 (by rw [hc3]; decide) (by rw [hc3]; decide) (by rw [hc3]; rfl) (by decide) ?_
    refine lv_iload_n hx hb dX2_sentOut_51 rfl (lv_at hl 1 rfl) ?_
    refine lv_iload_n hx hb dX2_sentOut_52 rfl (lv_at hl 2 rfl) ?_
    refine va_mmax hx hb (by rw [hml]; exact hl.1.symm) hown (hts _ fl_X2_sentOut_6) (hts _ fl_X2_sentOut_7) (hts _ fl_X2_sentOut_4) (hts _ fl_X2_sentOut_8) (Nat.le_of_ble_eq_true rfl) (Nat.le_of_ble_eq_true rfl) (Nat.le_of_ble_eq_true rfl) (Nat.le_of_ble_eq_true rfl) dX2_sentOut_53 ?_
    exact W.iret (v := (if x1 < x2 then x2 else x1)) hx hb hr (fun t ht hW => ⟨⟨(if x1 < x2 then x2 else x1), (), rfl, hw, by rw [ht]; exact hP, va_K.moved hW.alike hK, hD⟩, hS.F ht⟩) hS.2.2 dX2_sentOut_56
  have hw := hw.2 hc3
  refine lv_tableOut (tgt := 57) hx hb dX2_sentOut_6 (by have e0 := lv_neT hc0 (show (0 : Int32).toInt = 0 by decide); have e1 := lv_neT hc1 (show (1 : Int32).toInt = 1 by decide); have e2 := lv_neT hc2 (show (2 : Int32).toInt = 2 by decide); have e3 := lv_neT hc3 (show (3 : Int32).toInt = 3 by decide); omega) (by decide) ?_
  refine lv_iload_n hx hb dX2_sentOut_57 rfl (lv_at hl 1 rfl) ?_
  refine lv_iload_n hx hb dX2_sentOut_58 rfl (lv_at hl 2 rfl) ?_
  refine lv_imul hx hb dX2_sentOut_59 ?_
  refine lv_bipush (v := 15) hx hb dX2_sentOut_60 (by decide) ?_
  refine lv_iand hx hb dX2_sentOut_62 ?_
  exact W.iret (v := ((x1 * x2) &&& 15)) hx hb hr (fun t ht hW => ⟨⟨((x1 * x2) &&& 15), (), rfl, hw, by rw [ht]; exact hP, va_K.moved hW.alike hK, hD⟩, hS.F ht⟩) hS.2.2 dX2_sentOut_63
set_option maxHeartbeats 4000000 in
set_option maxRecDepth 100000 in
theorem c_X2_sentOut (l : Launch) (D : va_G) (cA : Nat → ClassId) (a_r : Nat → Nat) (sz : Nat) (r_settings : (Nat → Int32)) (r_told : (Nat → Int32)) (x1 : Int32) (x2 : Int32) (post : Int32 → Prop) (hw : wp_X2_sentOut r_settings x1 x2 post) : Met l yX2_sentOut wsX2_sentOut rm_X2_sentOut (cPre D cA sz [.ref (a_r 0), .int x1, .int x2] (sh_X2 cA a_r r_settings r_told)) (q_X2_sentOut D cA (va_A (sh_X2 cA a_r r_settings r_told) sz) a_r r_settings r_told post) 0 0 (va_A (sh_X2 cA a_r r_settings r_told) sz) := by
  refine Met.ofW (cc := cX2_sentOut) (maxL := 3) (ret := (some .int)) (by decide) rfl ?_
  intro p e s m args below meth c s₁ B hml hv
  obtain ⟨rfl, hsz, hP, hK, hD0⟩ := hv
  have hown : s.vm.findClass RX2 = some m.cls := findClass_of_methodNamed B.named
  subst hsz
  have hD := hD0.self (sz := s.heap.size)
  have hl := lv_entry ([.ref (a_r 0), .int x1, .int x2]) (n := 3) (Nat.le_of_ble_eq_true rfl)
  rw [lg_entry_eq]
  exact k_X2_sentOut_0 ⟨B.exec, B.bytes, B.returns, atoms_spec (ws := wsX2_sentOut) B.pre, hown, B.notSynchronized, hml⟩ (fun q h => Or.inr h) hK hl hP hD va_S.rf hw
/-! X2_lawHolds: lawHolds(IIII)Z -/
abbrev rm_X2_lawHolds : Room := { frames := 2, cells := 0, slots := 0, locals := 43 }
abbrev q_X2_lawHolds (D : va_G) (cA : Nat → ClassId) (A : Nat → Prop) (a_r : Nat → Nat) (r_settings : (Nat → Int32)) (r_told : (Nat → Int32)) (post : Int32 → Prop) : Array Value → State → Outcome → State → Prop := va_Qi (fun (r : Int32) (u : Unit) => post r) (cOut D cA A (fun (u : Unit) => sh_X2 cA a_r r_settings r_told)) A
set_option maxHeartbeats 4000000 in
set_option maxRecDepth 100000 in
theorem k_X2_lawHolds_191 {p : Program} {l : Launch} {e : Env} {s : State} {m : MethodId} {args : Array Value} {below : List Frame} {meth : Method} {c : Code} {D : va_G} {cA : Nat → ClassId} {A : Nat → Prop} {a_r : Nat → Nat} (C : cxm RX2 cX2_lawHolds 5 (some .boolean) wsX2_lawHolds p s m args meth c) (hA : ∀ q, s.heap.size ≤ q → A q) (hK : va_K D vwCl (tyL cA) s) {r_settings : (Nat → Int32)} {r_told : (Nat → Int32)} {post : Int32 → Prop} {H : Heap} {locs : List Loc} {ls : Array Slot} (hl : lv_has ls 5 []) (hP : va_P D vwCl (sh_X2 cA a_r r_settings r_told) H) (hD : va_D A (sh_X2 cA a_r r_settings r_told)) (hS : va_S A s.heap H locs) (hw : wp_X2_lawHolds_191 r_settings r_told post) : W p l e rm_X2_lawHolds s m args below meth c H locs 0 0 (MQ below (q_X2_lawHolds D cA A a_r r_settings r_told post) args s 0 0 A) (F0 m 191 ls []) := by
  obtain ⟨hx, hb, hr, hts, hown, hlocks, hml⟩ := id C
  unfold wp_X2_lawHolds_191 at hw
  refine lv_iconst (v := 1) hx hb dX2_lawHolds_191 (by decide) ?_
  refine lv_goto (tgt := 196) hx hb dX2_lawHolds_192 (by decide) ?_
  exact W.zret (v := 1) hx hb hr rfl (fun t ht hW => ⟨⟨1, (), rfl, hw, by rw [ht]; exact hP, va_K.moved hW.alike hK, hD⟩, hS.F ht⟩) hS.2.2 dX2_lawHolds_196
set_option maxHeartbeats 4000000 in
set_option maxRecDepth 100000 in
theorem k_X2_lawHolds_0 {p : Program} {l : Launch} {e : Env} {s : State} {m : MethodId} {args : Array Value} {below : List Frame} {meth : Method} {c : Code} {D : va_G} {cA : Nat → ClassId} {A : Nat → Prop} {a_r : Nat → Nat} (C : cxm RX2 cX2_lawHolds 5 (some .boolean) wsX2_lawHolds p s m args meth c) (hA : ∀ q, s.heap.size ≤ q → A q) (hK : va_K D vwCl (tyL cA) s) {r_settings : (Nat → Int32)} {r_told : (Nat → Int32)} {post : Int32 → Prop} {x1 : Int32} {x2 : Int32} {x3 : Int32} {x4 : Int32} {H : Heap} {locs : List Loc} {ls : Array Slot} (hl : lv_has ls 5 [(0, .ref (a_r 0)), (1, .int x1), (2, .int x2), (3, .int x3), (4, .int x4)]) (hP : va_P D vwCl (sh_X2 cA a_r r_settings r_told) H) (hD : va_D A (sh_X2 cA a_r r_settings r_told)) (hS : va_S A s.heap H locs) (hw : wp_X2_lawHolds_0 r_settings r_told post x1 x2 x3 x4) : W p l e rm_X2_lawHolds s m args below meth c H locs 0 0 (MQ below (q_X2_lawHolds D cA A a_r r_settings r_told post) args s 0 0 A) (F0 m 0 ls []) := by
  obtain ⟨hx, hb, hr, hts, hown, hlocks, hml⟩ := id C
  unfold wp_X2_lawHolds_0 at hw
  refine lv_iload_n hx hb dX2_lawHolds_0 rfl (lv_at hl 1 rfl) ?_
  by_cases hc0 : x1 = 0
  · have hw := hw.1 hc0
    refine lv_tableIn (off := 39) (tgt := 40) hx hb dX2_lawHolds_1 (by rw [hc0]; decide) (by rw [hc0]; decide) (by rw [hc0]; rfl) (by decide) ?_
    refine lv_aload_n hx hb dX2_lawHolds_40 rfl (lv_at hl 0 rfl) ?_
    refine lv_aload_n hx hb dX2_lawHolds_41 rfl (lv_at hl 0 rfl) ?_
    refine lv_iload_n hx hb dX2_lawHolds_42 rfl (lv_at hl 2 rfl) ?_
    refine lv_iload_n hx hb dX2_lawHolds_43 rfl (lv_at hl 3 rfl) ?_
    refine cV_i (As := [.int x2, .int x3]) (rest := [.ref (a_r 0)]) (wr := []) (w2 := (fun (u : Unit) => sh_X2 cA a_r r_settings r_told)) ⟨hx, hb, hml, hown, hts⟩ (c_X2_folded l D cA a_r H.size r_settings r_told x2 x3 _ hw) (cwV 2 hts gX2_lawHolds_X2_folded rfl rfl rfl (by decide +kernel) ⟨(Nat.le_of_ble_eq_true rfl), (Nat.le_of_ble_eq_true rfl)⟩) hK hP hD hS hA [0, 1, 2] [] [0, 1, 2] rfl rfl rfl rfl (by decide) rfl (fun _ => rfl) rfl rfl rfl hl.1 rfl (Nat.le_of_ble_eq_true rfl) dX2_lawHolds_44 ⟨Nat.le_refl _, Nat.le_refl _⟩ (fun r1 u H locs hw hP hD hS => ?_)
    try dsimp only at hw
    have hP : va_P D vwCl (sh_X2 cA a_r r_settings r_told) H := hP
    have hD : va_D A (sh_X2 cA a_r r_settings r_told) := hD
    refine lv_iload hx hb dX2_lawHolds_47 (lv_at hl 4 rfl) ?_
    refine cV_i (As := [.int r1, .int x4]) (rest := []) (wr := []) (w2 := (fun (u : Unit) => sh_X2 cA a_r r_settings r_told)) ⟨hx, hb, hml, hown, hts⟩ (c_X2_folded l D cA a_r H.size r_settings r_told r1 x4 _ hw) (cwV 2 hts gX2_lawHolds_X2_folded rfl rfl rfl (by decide +kernel) ⟨(Nat.le_of_ble_eq_true rfl), (Nat.le_of_ble_eq_true rfl)⟩) hK hP hD hS hA [0, 1, 2] [] [0, 1, 2] rfl rfl rfl rfl (by decide) rfl (fun _ => rfl) rfl rfl rfl hl.1 rfl (Nat.le_of_ble_eq_true rfl) dX2_lawHolds_49 ⟨Nat.le_refl _, Nat.le_refl _⟩ (fun r2 u H locs hw hP hD hS => ?_)
    try dsimp only at hw
    have hP : va_P D vwCl (sh_X2 cA a_r r_settings r_told) H := hP
    have hD : va_D A (sh_X2 cA a_r r_settings r_told) := hD
    refine lv_aload_n hx hb dX2_lawHolds_52 rfl (lv_at hl 0 rfl) ?_
    refine lv_iload_n hx hb dX2_lawHolds_53 rfl (lv_at hl 2 rfl) ?_
    refine lv_aload_n hx hb dX2_lawHolds_54 rfl (lv_at hl 0 rfl) ?_
    refine lv_iload_n hx hb dX2_lawHolds_55 rfl (lv_at hl 3 rfl) ?_
    refine lv_iload hx hb dX2_lawHolds_56 (lv_at hl 4 rfl) ?_
    refine cV_i (As := [.int x3, .int x4]) (rest := [.int x2, .ref (a_r 0), .int r2]) (wr := []) (w2 := (fun (u : Unit) => sh_X2 cA a_r r_settings r_told)) ⟨hx, hb, hml, hown, hts⟩ (c_X2_folded l D cA a_r H.size r_settings r_told x3 x4 _ hw) (cwV 2 hts gX2_lawHolds_X2_folded rfl rfl rfl (by decide +kernel) ⟨(Nat.le_of_ble_eq_true rfl), (Nat.le_of_ble_eq_true rfl)⟩) hK hP hD hS hA [0, 1, 2] [] [0, 1, 2] rfl rfl rfl rfl (by decide) rfl (fun _ => rfl) rfl rfl rfl hl.1 rfl (Nat.le_of_ble_eq_true rfl) dX2_lawHolds_58 ⟨Nat.le_refl _, Nat.le_refl _⟩ (fun r3 u H locs hw hP hD hS => ?_)
    try dsimp only at hw
    have hP : va_P D vwCl (sh_X2 cA a_r r_settings r_told) H := hP
    have hD : va_D A (sh_X2 cA a_r r_settings r_told) := hD
    refine cV_i (As := [.int x2, .int r3]) (rest := [.int r2]) (wr := []) (w2 := (fun (u : Unit) => sh_X2 cA a_r r_settings r_told)) ⟨hx, hb, hml, hown, hts⟩ (c_X2_folded l D cA a_r H.size r_settings r_told x2 r3 _ hw) (cwV 2 hts gX2_lawHolds_X2_folded rfl rfl rfl (by decide +kernel) ⟨(Nat.le_of_ble_eq_true rfl), (Nat.le_of_ble_eq_true rfl)⟩) hK hP hD hS hA [0, 1, 2] [] [0, 1, 2] rfl rfl rfl rfl (by decide) rfl (fun _ => rfl) rfl rfl rfl hl.1 rfl (Nat.le_of_ble_eq_true rfl) dX2_lawHolds_61 ⟨Nat.le_refl _, Nat.le_refl _⟩ (fun r4 u H locs hw hP hD hS => ?_)
    try dsimp only at hw
    have hP : va_P D vwCl (sh_X2 cA a_r r_settings r_told) H := hP
    have hD : va_D A (sh_X2 cA a_r r_settings r_told) := hD
    refine lv_icmp_ne (tgt := 71) hx hb dX2_lawHolds_64 (by decide) (fun hc => ?_) (fun hc => ?_)
    · have hw := hw.1 hc
      refine lv_iconst (v := 0) hx hb dX2_lawHolds_71 (by decide) ?_
      exact W.zret (v := 0) hx hb hr rfl (fun t ht hW => ⟨⟨0, (), rfl, hw, by rw [ht]; exact hP, va_K.moved hW.alike hK, hD⟩, hS.F ht⟩) hS.2.2 dX2_lawHolds_72
    · have hw := hw.2 hc
      refine lv_iconst (v := 1) hx hb dX2_lawHolds_67 (by decide) ?_
      refine lv_goto (tgt := 72) hx hb dX2_lawHolds_68 (by decide) ?_
      exact W.zret (v := 1) hx hb hr rfl (fun t ht hW => ⟨⟨1, (), rfl, hw, by rw [ht]; exact hP, va_K.moved hW.alike hK, hD⟩, hS.F ht⟩) hS.2.2 dX2_lawHolds_72
  have hw := hw.2 hc0
  by_cases hc1 : x1 = 1
  · have hw := hw.1 hc1
    refine lv_tableIn (off := 72) (tgt := 73) hx hb dX2_lawHolds_1 (by rw [hc1]; decide) (by rw [hc1]; decide) (by rw [hc1]; rfl) (by decide) ?_
    refine lv_aload_n hx hb dX2_lawHolds_73 rfl (lv_at hl 0 rfl) ?_
    refine lv_iload_n hx hb dX2_lawHolds_74 rfl (lv_at hl 2 rfl) ?_
    refine lv_iload_n hx hb dX2_lawHolds_75 rfl (lv_at hl 3 rfl) ?_
    refine cV_i (As := [.int x2, .int x3]) (rest := []) (wr := []) (w2 := (fun (u : Unit) => sh_X2 cA a_r r_settings r_told)) ⟨hx, hb, hml, hown, hts⟩ (c_X2_folded l D cA a_r H.size r_settings r_told x2 x3 _ hw) (cwV 2 hts gX2_lawHolds_X2_folded rfl rfl rfl (by decide +kernel) ⟨(Nat.le_of_ble_eq_true rfl), (Nat.le_of_ble_eq_true rfl)⟩) hK hP hD hS hA [0, 1, 2] [] [0, 1, 2] rfl rfl rfl rfl (by decide) rfl (fun _ => rfl) rfl rfl rfl hl.1 rfl (Nat.le_of_ble_eq_true rfl) dX2_lawHolds_76 ⟨Nat.le_refl _, Nat.le_refl _⟩ (fun r5 u H locs hw hP hD hS => ?_)
    try dsimp only at hw
    have hP : va_P D vwCl (sh_X2 cA a_r r_settings r_told) H := hP
    have hD : va_D A (sh_X2 cA a_r r_settings r_told) := hD
    refine lv_aload_n hx hb dX2_lawHolds_79 rfl (lv_at hl 0 rfl) ?_
    refine lv_iload_n hx hb dX2_lawHolds_80 rfl (lv_at hl 3 rfl) ?_
    refine lv_iload_n hx hb dX2_lawHolds_81 rfl (lv_at hl 2 rfl) ?_
    refine cV_i (As := [.int x3, .int x2]) (rest := [.int r5]) (wr := []) (w2 := (fun (u : Unit) => sh_X2 cA a_r r_settings r_told)) ⟨hx, hb, hml, hown, hts⟩ (c_X2_folded l D cA a_r H.size r_settings r_told x3 x2 _ hw) (cwV 2 hts gX2_lawHolds_X2_folded rfl rfl rfl (by decide +kernel) ⟨(Nat.le_of_ble_eq_true rfl), (Nat.le_of_ble_eq_true rfl)⟩) hK hP hD hS hA [0, 1, 2] [] [0, 1, 2] rfl rfl rfl rfl (by decide) rfl (fun _ => rfl) rfl rfl rfl hl.1 rfl (Nat.le_of_ble_eq_true rfl) dX2_lawHolds_82 ⟨Nat.le_refl _, Nat.le_refl _⟩ (fun r6 u H locs hw hP hD hS => ?_)
    try dsimp only at hw
    have hP : va_P D vwCl (sh_X2 cA a_r r_settings r_told) H := hP
    have hD : va_D A (sh_X2 cA a_r r_settings r_told) := hD
    refine lv_icmp_ne (tgt := 92) hx hb dX2_lawHolds_85 (by decide) (fun hc => ?_) (fun hc => ?_)
    · have hw := hw.1 hc
      refine lv_iconst (v := 0) hx hb dX2_lawHolds_92 (by decide) ?_
      exact W.zret (v := 0) hx hb hr rfl (fun t ht hW => ⟨⟨0, (), rfl, hw, by rw [ht]; exact hP, va_K.moved hW.alike hK, hD⟩, hS.F ht⟩) hS.2.2 dX2_lawHolds_93
    · have hw := hw.2 hc
      refine lv_iconst (v := 1) hx hb dX2_lawHolds_88 (by decide) ?_
      refine lv_goto (tgt := 93) hx hb dX2_lawHolds_89 (by decide) ?_
      exact W.zret (v := 1) hx hb hr rfl (fun t ht hW => ⟨⟨1, (), rfl, hw, by rw [ht]; exact hP, va_K.moved hW.alike hK, hD⟩, hS.F ht⟩) hS.2.2 dX2_lawHolds_93
  have hw := hw.2 hc1
  by_cases hc2 : x1 = 2
  · have hw := hw.1 hc2
    refine lv_tableIn (off := 93) (tgt := 94) hx hb dX2_lawHolds_1 (by rw [hc2]; decide) (by rw [hc2]; decide) (by rw [hc2]; rfl) (by decide) ?_
    refine lv_aload_n hx hb dX2_lawHolds_94 rfl (lv_at hl 0 rfl) ?_
    refine lv_iload_n hx hb dX2_lawHolds_95 rfl (lv_at hl 2 rfl) ?_
    refine lv_iload_n hx hb dX2_lawHolds_96 rfl (lv_at hl 2 rfl) ?_
    refine cV_i (As := [.int x2, .int x2]) (rest := []) (wr := []) (w2 := (fun (u : Unit) => sh_X2 cA a_r r_settings r_told)) ⟨hx, hb, hml, hown, hts⟩ (c_X2_folded l D cA a_r H.size r_settings r_told x2 x2 _ hw) (cwV 2 hts gX2_lawHolds_X2_folded rfl rfl rfl (by decide +kernel) ⟨(Nat.le_of_ble_eq_true rfl), (Nat.le_of_ble_eq_true rfl)⟩) hK hP hD hS hA [0, 1, 2] [] [0, 1, 2] rfl rfl rfl rfl (by decide) rfl (fun _ => rfl) rfl rfl rfl hl.1 rfl (Nat.le_of_ble_eq_true rfl) dX2_lawHolds_97 ⟨Nat.le_refl _, Nat.le_refl _⟩ (fun r7 u H locs hw hP hD hS => ?_)
    try dsimp only at hw
    have hP : va_P D vwCl (sh_X2 cA a_r r_settings r_told) H := hP
    have hD : va_D A (sh_X2 cA a_r r_settings r_told) := hD
    refine lv_iload_n hx hb dX2_lawHolds_100 rfl (lv_at hl 2 rfl) ?_
    refine lv_icmp_ne (tgt := 108) hx hb dX2_lawHolds_101 (by decide) (fun hc => ?_) (fun hc => ?_)
    · have hw := hw.1 hc
      refine lv_iconst (v := 0) hx hb dX2_lawHolds_108 (by decide) ?_
      exact W.zret (v := 0) hx hb hr rfl (fun t ht hW => ⟨⟨0, (), rfl, hw, by rw [ht]; exact hP, va_K.moved hW.alike hK, hD⟩, hS.F ht⟩) hS.2.2 dX2_lawHolds_109
    · have hw := hw.2 hc
      refine lv_iconst (v := 1) hx hb dX2_lawHolds_104 (by decide) ?_
      refine lv_goto (tgt := 109) hx hb dX2_lawHolds_105 (by decide) ?_
      exact W.zret (v := 1) hx hb hr rfl (fun t ht hW => ⟨⟨1, (), rfl, hw, by rw [ht]; exact hP, va_K.moved hW.alike hK, hD⟩, hS.F ht⟩) hS.2.2 dX2_lawHolds_109
  have hw := hw.2 hc2
  by_cases hc3 : x1 = 3
  · have hw := hw.1 hc3
    refine lv_tableIn (off := 109) (tgt := 110) hx hb dX2_lawHolds_1 (by rw [hc3]; decide) (by rw [hc3]; decide) (by rw [hc3]; rfl) (by decide) ?_
    refine lv_aload_n hx hb dX2_lawHolds_110 rfl (lv_at hl 0 rfl) ?_
    refine lv_aload_n hx hb dX2_lawHolds_111 rfl (lv_at hl 0 rfl) ?_
    refine lv_iload_n hx hb dX2_lawHolds_112 rfl (lv_at hl 2 rfl) ?_
    refine lv_iload_n hx hb dX2_lawHolds_113 rfl (lv_at hl 3 rfl) ?_
    refine cV_i (As := [.int x2, .int x3]) (rest := [.ref (a_r 0)]) (wr := []) (w2 := (fun (u : Unit) => sh_X2 cA a_r r_settings r_told)) ⟨hx, hb, hml, hown, hts⟩ (c_X2_folded l D cA a_r H.size r_settings r_told x2 x3 _ hw) (cwV 2 hts gX2_lawHolds_X2_folded rfl rfl rfl (by decide +kernel) ⟨(Nat.le_of_ble_eq_true rfl), (Nat.le_of_ble_eq_true rfl)⟩) hK hP hD hS hA [0, 1, 2] [] [0, 1, 2] rfl rfl rfl rfl (by decide) rfl (fun _ => rfl) rfl rfl rfl hl.1 rfl (Nat.le_of_ble_eq_true rfl) dX2_lawHolds_114 ⟨Nat.le_refl _, Nat.le_refl _⟩ (fun r8 u H locs hw hP hD hS => ?_)
    try dsimp only at hw
    have hP : va_P D vwCl (sh_X2 cA a_r r_settings r_told) H := hP
    have hD : va_D A (sh_X2 cA a_r r_settings r_told) := hD
    refine lv_iload hx hb dX2_lawHolds_117 (lv_at hl 4 rfl) ?_
    refine cV_i (As := [.int r8, .int x4]) (rest := []) (wr := []) (w2 := (fun (u : Unit) => sh_X2 cA a_r r_settings r_told)) ⟨hx, hb, hml, hown, hts⟩ (c_X2_folded l D cA a_r H.size r_settings r_told r8 x4 _ hw) (cwV 2 hts gX2_lawHolds_X2_folded rfl rfl rfl (by decide +kernel) ⟨(Nat.le_of_ble_eq_true rfl), (Nat.le_of_ble_eq_true rfl)⟩) hK hP hD hS hA [0, 1, 2] [] [0, 1, 2] rfl rfl rfl rfl (by decide) rfl (fun _ => rfl) rfl rfl rfl hl.1 rfl (Nat.le_of_ble_eq_true rfl) dX2_lawHolds_119 ⟨Nat.le_refl _, Nat.le_refl _⟩ (fun r9 u H locs hw hP hD hS => ?_)
    try dsimp only at hw
    have hP : va_P D vwCl (sh_X2 cA a_r r_settings r_told) H := hP
    have hD : va_D A (sh_X2 cA a_r r_settings r_told) := hD
    refine lv_aload_n hx hb dX2_lawHolds_122 rfl (lv_at hl 0 rfl) ?_
    refine lv_aload_n hx hb dX2_lawHolds_123 rfl (lv_at hl 0 rfl) ?_
    refine lv_iload_n hx hb dX2_lawHolds_124 rfl (lv_at hl 2 rfl) ?_
    refine lv_iload hx hb dX2_lawHolds_125 (lv_at hl 4 rfl) ?_
    refine cV_i (As := [.int x2, .int x4]) (rest := [.ref (a_r 0), .int r9]) (wr := []) (w2 := (fun (u : Unit) => sh_X2 cA a_r r_settings r_told)) ⟨hx, hb, hml, hown, hts⟩ (c_X2_folded l D cA a_r H.size r_settings r_told x2 x4 _ hw) (cwV 2 hts gX2_lawHolds_X2_folded rfl rfl rfl (by decide +kernel) ⟨(Nat.le_of_ble_eq_true rfl), (Nat.le_of_ble_eq_true rfl)⟩) hK hP hD hS hA [0, 1, 2] [] [0, 1, 2] rfl rfl rfl rfl (by decide) rfl (fun _ => rfl) rfl rfl rfl hl.1 rfl (Nat.le_of_ble_eq_true rfl) dX2_lawHolds_127 ⟨Nat.le_refl _, Nat.le_refl _⟩ (fun r10 u H locs hw hP hD hS => ?_)
    try dsimp only at hw
    have hP : va_P D vwCl (sh_X2 cA a_r r_settings r_told) H := hP
    have hD : va_D A (sh_X2 cA a_r r_settings r_told) := hD
    refine lv_iload_n hx hb dX2_lawHolds_130 rfl (lv_at hl 3 rfl) ?_
    refine cV_i (As := [.int r10, .int x3]) (rest := [.int r9]) (wr := []) (w2 := (fun (u : Unit) => sh_X2 cA a_r r_settings r_told)) ⟨hx, hb, hml, hown, hts⟩ (c_X2_folded l D cA a_r H.size r_settings r_told r10 x3 _ hw) (cwV 2 hts gX2_lawHolds_X2_folded rfl rfl rfl (by decide +kernel) ⟨(Nat.le_of_ble_eq_true rfl), (Nat.le_of_ble_eq_true rfl)⟩) hK hP hD hS hA [0, 1, 2] [] [0, 1, 2] rfl rfl rfl rfl (by decide) rfl (fun _ => rfl) rfl rfl rfl hl.1 rfl (Nat.le_of_ble_eq_true rfl) dX2_lawHolds_131 ⟨Nat.le_refl _, Nat.le_refl _⟩ (fun r11 u H locs hw hP hD hS => ?_)
    try dsimp only at hw
    have hP : va_P D vwCl (sh_X2 cA a_r r_settings r_told) H := hP
    have hD : va_D A (sh_X2 cA a_r r_settings r_told) := hD
    refine lv_icmp_ne (tgt := 141) hx hb dX2_lawHolds_134 (by decide) (fun hc => ?_) (fun hc => ?_)
    · have hw := hw.1 hc
      refine lv_iconst (v := 0) hx hb dX2_lawHolds_141 (by decide) ?_
      exact W.zret (v := 0) hx hb hr rfl (fun t ht hW => ⟨⟨0, (), rfl, hw, by rw [ht]; exact hP, va_K.moved hW.alike hK, hD⟩, hS.F ht⟩) hS.2.2 dX2_lawHolds_142
    · have hw := hw.2 hc
      refine lv_iconst (v := 1) hx hb dX2_lawHolds_137 (by decide) ?_
      refine lv_goto (tgt := 142) hx hb dX2_lawHolds_138 (by decide) ?_
      exact W.zret (v := 1) hx hb hr rfl (fun t ht hW => ⟨⟨1, (), rfl, hw, by rw [ht]; exact hP, va_K.moved hW.alike hK, hD⟩, hS.F ht⟩) hS.2.2 dX2_lawHolds_142
  have hw := hw.2 hc3
  by_cases hc4 : x1 = 4
  · have hw := hw.1 hc4
    refine lv_tableIn (off := 142) (tgt := 143) hx hb dX2_lawHolds_1 (by rw [hc4]; decide) (by rw [hc4]; decide) (by rw [hc4]; rfl) (by decide) ?_
    refine lv_aload_n hx hb dX2_lawHolds_143 rfl (lv_at hl 0 rfl) ?_
    refine lv_aload_n hx hb dX2_lawHolds_144 rfl (lv_at hl 0 rfl) ?_
    refine lv_iload_n hx hb dX2_lawHolds_145 rfl (lv_at hl 2 rfl) ?_
    refine lv_iload_n hx hb dX2_lawHolds_146 rfl (lv_at hl 3 rfl) ?_
    refine cV_i (As := [.int x2, .int x3]) (rest := [.ref (a_r 0)]) (wr := []) (w2 := (fun (u : Unit) => sh_X2 cA a_r r_settings r_told)) ⟨hx, hb, hml, hown, hts⟩ (c_X2_folded l D cA a_r H.size r_settings r_told x2 x3 _ hw) (cwV 2 hts gX2_lawHolds_X2_folded rfl rfl rfl (by decide +kernel) ⟨(Nat.le_of_ble_eq_true rfl), (Nat.le_of_ble_eq_true rfl)⟩) hK hP hD hS hA [0, 1, 2] [] [0, 1, 2] rfl rfl rfl rfl (by decide) rfl (fun _ => rfl) rfl rfl rfl hl.1 rfl (Nat.le_of_ble_eq_true rfl) dX2_lawHolds_147 ⟨Nat.le_refl _, Nat.le_refl _⟩ (fun r12 u H locs hw hP hD hS => ?_)
    try dsimp only at hw
    have hP : va_P D vwCl (sh_X2 cA a_r r_settings r_told) H := hP
    have hD : va_D A (sh_X2 cA a_r r_settings r_told) := hD
    refine lv_iload_n hx hb dX2_lawHolds_150 rfl (lv_at hl 3 rfl) ?_
    refine cV_i (As := [.int r12, .int x3]) (rest := []) (wr := []) (w2 := (fun (u : Unit) => sh_X2 cA a_r r_settings r_told)) ⟨hx, hb, hml, hown, hts⟩ (c_X2_folded l D cA a_r H.size r_settings r_told r12 x3 _ hw) (cwV 2 hts gX2_lawHolds_X2_folded rfl rfl rfl (by decide +kernel) ⟨(Nat.le_of_ble_eq_true rfl), (Nat.le_of_ble_eq_true rfl)⟩) hK hP hD hS hA [0, 1, 2] [] [0, 1, 2] rfl rfl rfl rfl (by decide) rfl (fun _ => rfl) rfl rfl rfl hl.1 rfl (Nat.le_of_ble_eq_true rfl) dX2_lawHolds_151 ⟨Nat.le_refl _, Nat.le_refl _⟩ (fun r13 u H locs hw hP hD hS => ?_)
    try dsimp only at hw
    have hP : va_P D vwCl (sh_X2 cA a_r r_settings r_told) H := hP
    have hD : va_D A (sh_X2 cA a_r r_settings r_told) := hD
    refine lv_aload_n hx hb dX2_lawHolds_154 rfl (lv_at hl 0 rfl) ?_
    refine lv_iload_n hx hb dX2_lawHolds_155 rfl (lv_at hl 2 rfl) ?_
    refine lv_iload_n hx hb dX2_lawHolds_156 rfl (lv_at hl 3 rfl) ?_
    refine cV_i (As := [.int x2, .int x3]) (rest := [.int r13]) (wr := []) (w2 := (fun (u : Unit) => sh_X2 cA a_r r_settings r_told)) ⟨hx, hb, hml, hown, hts⟩ (c_X2_folded l D cA a_r H.size r_settings r_told x2 x3 _ hw) (cwV 2 hts gX2_lawHolds_X2_folded rfl rfl rfl (by decide +kernel) ⟨(Nat.le_of_ble_eq_true rfl), (Nat.le_of_ble_eq_true rfl)⟩) hK hP hD hS hA [0, 1, 2] [] [0, 1, 2] rfl rfl rfl rfl (by decide) rfl (fun _ => rfl) rfl rfl rfl hl.1 rfl (Nat.le_of_ble_eq_true rfl) dX2_lawHolds_157 ⟨Nat.le_refl _, Nat.le_refl _⟩ (fun r14 u H locs hw hP hD hS => ?_)
    try dsimp only at hw
    have hP : va_P D vwCl (sh_X2 cA a_r r_settings r_told) H := hP
    have hD : va_D A (sh_X2 cA a_r r_settings r_told) := hD
    refine lv_icmp_ne (tgt := 167) hx hb dX2_lawHolds_160 (by decide) (fun hc => ?_) (fun hc => ?_)
    · have hw := hw.1 hc
      refine lv_iconst (v := 0) hx hb dX2_lawHolds_167 (by decide) ?_
      exact W.zret (v := 0) hx hb hr rfl (fun t ht hW => ⟨⟨0, (), rfl, hw, by rw [ht]; exact hP, va_K.moved hW.alike hK, hD⟩, hS.F ht⟩) hS.2.2 dX2_lawHolds_168
    · have hw := hw.2 hc
      refine lv_iconst (v := 1) hx hb dX2_lawHolds_163 (by decide) ?_
      refine lv_goto (tgt := 168) hx hb dX2_lawHolds_164 (by decide) ?_
      exact W.zret (v := 1) hx hb hr rfl (fun t ht hW => ⟨⟨1, (), rfl, hw, by rw [ht]; exact hP, va_K.moved hW.alike hK, hD⟩, hS.F ht⟩) hS.2.2 dX2_lawHolds_168
  have hw := hw.2 hc4
  by_cases hc5 : x1 = 5
  · have hw := hw.1 hc5
    refine lv_tableIn (off := 168) (tgt := 169) hx hb dX2_lawHolds_1 (by rw [hc5]; decide) (by rw [hc5]; decide) (by rw [hc5]; rfl) (by decide) ?_
    refine lv_iload_n hx hb dX2_lawHolds_169 rfl (lv_at hl 2 rfl) ?_
    refine lv_iload_n hx hb dX2_lawHolds_170 rfl (lv_at hl 3 rfl) ?_
    refine lv_icmp_gt (tgt := 191) hx hb dX2_lawHolds_171 (by decide) (fun hc => ?_) (fun hc => ?_)
    · have hw := hw.1 hc
      exact k_X2_lawHolds_191 C hA hK (lv_sub hl [] rfl) hP hD hS hw
    · have hw := hw.2 hc
      refine lv_aload_n hx hb dX2_lawHolds_174 rfl (lv_at hl 0 rfl) ?_
      refine lv_iload_n hx hb dX2_lawHolds_175 rfl (lv_at hl 2 rfl) ?_
      refine lv_iload hx hb dX2_lawHolds_176 (lv_at hl 4 rfl) ?_
      refine cV_i (As := [.int x2, .int x4]) (rest := []) (wr := []) (w2 := (fun (u : Unit) => sh_X2 cA a_r r_settings r_told)) ⟨hx, hb, hml, hown, hts⟩ (c_X2_folded l D cA a_r H.size r_settings r_told x2 x4 _ hw) (cwV 2 hts gX2_lawHolds_X2_folded rfl rfl rfl (by decide +kernel) ⟨(Nat.le_of_ble_eq_true rfl), (Nat.le_of_ble_eq_true rfl)⟩) hK hP hD hS hA [0, 1, 2] [] [0, 1, 2] rfl rfl rfl rfl (by decide) rfl (fun _ => rfl) rfl rfl rfl hl.1 rfl (Nat.le_of_ble_eq_true rfl) dX2_lawHolds_178 ⟨Nat.le_refl _, Nat.le_refl _⟩ (fun r15 u H locs hw hP hD hS => ?_)
      try dsimp only at hw
      have hP : va_P D vwCl (sh_X2 cA a_r r_settings r_told) H := hP
      have hD : va_D A (sh_X2 cA a_r r_settings r_told) := hD
      refine lv_aload_n hx hb dX2_lawHolds_181 rfl (lv_at hl 0 rfl) ?_
      refine lv_iload_n hx hb dX2_lawHolds_182 rfl (lv_at hl 3 rfl) ?_
      refine lv_iload hx hb dX2_lawHolds_183 (lv_at hl 4 rfl) ?_
      refine cV_i (As := [.int x3, .int x4]) (rest := [.int r15]) (wr := []) (w2 := (fun (u : Unit) => sh_X2 cA a_r r_settings r_told)) ⟨hx, hb, hml, hown, hts⟩ (c_X2_folded l D cA a_r H.size r_settings r_told x3 x4 _ hw) (cwV 2 hts gX2_lawHolds_X2_folded rfl rfl rfl (by decide +kernel) ⟨(Nat.le_of_ble_eq_true rfl), (Nat.le_of_ble_eq_true rfl)⟩) hK hP hD hS hA [0, 1, 2] [] [0, 1, 2] rfl rfl rfl rfl (by decide) rfl (fun _ => rfl) rfl rfl rfl hl.1 rfl (Nat.le_of_ble_eq_true rfl) dX2_lawHolds_185 ⟨Nat.le_refl _, Nat.le_refl _⟩ (fun r16 u H locs hw hP hD hS => ?_)
      try dsimp only at hw
      have hP : va_P D vwCl (sh_X2 cA a_r r_settings r_told) H := hP
      have hD : va_D A (sh_X2 cA a_r r_settings r_told) := hD
      refine lv_icmp_gt (tgt := 195) hx hb dX2_lawHolds_188 (by decide) (fun hc => ?_) (fun hc => ?_)
      · have hw := hw.1 hc
        refine lv_iconst (v := 0) hx hb dX2_lawHolds_195 (by decide) ?_
        exact W.zret (v := 0) hx hb hr rfl (fun t ht hW => ⟨⟨0, (), rfl, hw, by rw [ht]; exact hP, va_K.moved hW.alike hK, hD⟩, hS.F ht⟩) hS.2.2 dX2_lawHolds_196
      · have hw := hw.2 hc
        exact k_X2_lawHolds_191 C hA hK (lv_sub hl [] rfl) hP hD hS hw
  have hw := hw.2 hc5
  refine lv_tableOut (tgt := 197) hx hb dX2_lawHolds_1 (by have e0 := lv_neT hc0 (show (0 : Int32).toInt = 0 by decide); have e1 := lv_neT hc1 (show (1 : Int32).toInt = 1 by decide); have e2 := lv_neT hc2 (show (2 : Int32).toInt = 2 by decide); have e3 := lv_neT hc3 (show (3 : Int32).toInt = 3 by decide); have e4 := lv_neT hc4 (show (4 : Int32).toInt = 4 by decide); have e5 := lv_neT hc5 (show (5 : Int32).toInt = 5 by decide); omega) (by decide) ?_
  refine lv_aload_n hx hb dX2_lawHolds_197 rfl (lv_at hl 0 rfl) ?_
  refine lv_iload_n hx hb dX2_lawHolds_198 rfl (lv_at hl 2 rfl) ?_
  refine lv_iload_n hx hb dX2_lawHolds_199 rfl (lv_at hl 3 rfl) ?_
  refine cV_i (As := [.int x2, .int x3]) (rest := []) (wr := []) (w2 := (fun (u : Unit) => sh_X2 cA a_r r_settings r_told)) ⟨hx, hb, hml, hown, hts⟩ (c_X2_folded l D cA a_r H.size r_settings r_told x2 x3 _ hw) (cwV 2 hts gX2_lawHolds_X2_folded rfl rfl rfl (by decide +kernel) ⟨(Nat.le_of_ble_eq_true rfl), (Nat.le_of_ble_eq_true rfl)⟩) hK hP hD hS hA [0, 1, 2] [] [0, 1, 2] rfl rfl rfl rfl (by decide) rfl (fun _ => rfl) rfl rfl rfl hl.1 rfl (Nat.le_of_ble_eq_true rfl) dX2_lawHolds_200 ⟨Nat.le_refl _, Nat.le_refl _⟩ (fun r17 u H locs hw hP hD hS => ?_)
  try dsimp only at hw
  have hP : va_P D vwCl (sh_X2 cA a_r r_settings r_told) H := hP
  have hD : va_D A (sh_X2 cA a_r r_settings r_told) := hD
  refine lv_iload_n hx hb dX2_lawHolds_203 rfl (lv_at hl 2 rfl) ?_
  refine lv_icmp_gt (tgt := 211) hx hb dX2_lawHolds_204 (by decide) (fun hc => ?_) (fun hc => ?_)
  · have hw := hw.1 hc
    refine lv_iconst (v := 0) hx hb dX2_lawHolds_211 (by decide) ?_
    exact W.zret (v := 0) hx hb hr rfl (fun t ht hW => ⟨⟨0, (), rfl, hw, by rw [ht]; exact hP, va_K.moved hW.alike hK, hD⟩, hS.F ht⟩) hS.2.2 dX2_lawHolds_212
  · have hw := hw.2 hc
    refine lv_iconst (v := 1) hx hb dX2_lawHolds_207 (by decide) ?_
    refine lv_goto (tgt := 212) hx hb dX2_lawHolds_208 (by decide) ?_
    exact W.zret (v := 1) hx hb hr rfl (fun t ht hW => ⟨⟨1, (), rfl, hw, by rw [ht]; exact hP, va_K.moved hW.alike hK, hD⟩, hS.F ht⟩) hS.2.2 dX2_lawHolds_212
set_option maxHeartbeats 4000000 in
set_option maxRecDepth 100000 in
theorem c_X2_lawHolds (l : Launch) (D : va_G) (cA : Nat → ClassId) (a_r : Nat → Nat) (sz : Nat) (r_settings : (Nat → Int32)) (r_told : (Nat → Int32)) (x1 : Int32) (x2 : Int32) (x3 : Int32) (x4 : Int32) (post : Int32 → Prop) (hw : wp_X2_lawHolds r_settings r_told x1 x2 x3 x4 post) : Met l yX2_lawHolds wsX2_lawHolds rm_X2_lawHolds (cPre D cA sz [.ref (a_r 0), .int x1, .int x2, .int x3, .int x4] (sh_X2 cA a_r r_settings r_told)) (q_X2_lawHolds D cA (va_A (sh_X2 cA a_r r_settings r_told) sz) a_r r_settings r_told post) 0 0 (va_A (sh_X2 cA a_r r_settings r_told) sz) := by
  refine Met.ofW (cc := cX2_lawHolds) (maxL := 5) (ret := (some .boolean)) (by decide) rfl ?_
  intro p e s m args below meth c s₁ B hml hv
  obtain ⟨rfl, hsz, hP, hK, hD0⟩ := hv
  have hown : s.vm.findClass RX2 = some m.cls := findClass_of_methodNamed B.named
  subst hsz
  have hD := hD0.self (sz := s.heap.size)
  have hl := lv_entry ([.ref (a_r 0), .int x1, .int x2, .int x3, .int x4]) (n := 5) (Nat.le_of_ble_eq_true rfl)
  rw [lg_entry_eq]
  exact k_X2_lawHolds_0 ⟨B.exec, B.bytes, B.returns, atoms_spec (ws := wsX2_lawHolds) B.pre, hown, B.notSynchronized, hml⟩ (fun q h => Or.inr h) hK hl hP hD va_S.rf hw
