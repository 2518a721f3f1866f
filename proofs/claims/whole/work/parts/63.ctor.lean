/-! constructors, by program -/
theorem arr_eqI {D : va_G} {cA : Nat → ClassId} {c1 : ClassId} {s : State} (h : va_K D vwCl (tyL cA ++ [(c1, .int)]) s) : c1 = cA 0 := by
  have h0 : s.vm.findClass ("[" ++ FieldType.toString .int) = some (cA 0) := (h.2 0 (cA 0, .int) rfl).2
  have h1 : s.vm.findClass ("[" ++ FieldType.toString .int) = some c1 := (h.2 3 (c1, .int) rfl).2
  exact Option.some.inj (h1.symm.trans h0)
theorem arr_eqJ {D : va_G} {cA : Nat → ClassId} {c1 : ClassId} {s : State} (h : va_K D vwCl (tyL cA ++ [(c1, .long)]) s) : c1 = cA 1 := by
  have h0 : s.vm.findClass ("[" ++ FieldType.toString .long) = some (cA 1) := (h.2 1 (cA 1, .long) rfl).2
  have h1 : s.vm.findClass ("[" ++ FieldType.toString .long) = some c1 := (h.2 3 (c1, .long) rfl).2
  exact Option.some.inj (h1.symm.trans h0)
theorem arr_eqB {D : va_G} {cA : Nat → ClassId} {c1 : ClassId} {s : State} (h : va_K D vwCl (tyL cA ++ [(c1, .byte)]) s) : c1 = cA 2 := by
  have h0 : s.vm.findClass ("[" ++ FieldType.toString .byte) = some (cA 2) := (h.2 2 (cA 2, .byte) rfl).2
  have h1 : s.vm.findClass ("[" ++ FieldType.toString .byte) = some c1 := (h.2 3 (c1, .byte) rfl).2
  exact Option.some.inj (h1.symm.trans h0)
abbrev cPreN (D : va_G) (cA : Nat → ClassId) (sz : Nat) (av : List Value) (ws : va_W) (N : State → Prop) : Array Value → State → Prop := va_Pc av (fun U => (U.heap.size = sz ∧ va_P D vwCl ws U.heap ∧ va_K D vwCl (tyL cA) U ∧ va_D (fun _ => True) ws) ∧ N U)
/-- words on links between nest mates, that a constructor needs -/
def nN3 (U : State) : Prop := va_Nw (.methodLinkNest RX3 11 yX5_init RX7) U ∧ va_Nw (.methodLinkNest RX3 20 yX4_init RX7) U
def nN7 (U : State) : Prop := (va_Nw (.methodLinkNest RX7 9 yX1_init RX7) U ∧ va_Nw (.methodLinkNest RX7 18 yX2_init RX7) U ∧ va_Nw (.methodLinkNest RX7 25 yX0_init RX7) U) ∧ nN3 U
theorem nN3.same {u U : State} (h : u.vm = U.vm) (q : nN3 u) : nN3 U := ⟨q.1.same rfl h, q.2.same rfl h⟩
theorem nN7.same {u U : State} (h : u.vm = U.vm) (q : nN7 u) : nN7 U := ⟨⟨q.1.1.same rfl h, q.1.2.1.same rfl h, q.1.2.2.same rfl h⟩, q.2.same h⟩
theorem nN3.warm {s U : State} (hW : s.WarmedH U.vm) (q : nN3 s) : nN3 U := ⟨va_Nw.warmM hW q.1, va_Nw.warmM hW q.2⟩
theorem nN7.warm {s U : State} (hW : s.WarmedH U.vm) (q : nN7 s) : nN7 U := ⟨⟨va_Nw.warmM hW q.1.1, va_Nw.warmM hW q.1.2.1, va_Nw.warmM hW q.1.2.2⟩, q.2.warm hW⟩
section CI
variable {p : Program} {l : Launch} {e : Env} {R : Room} {s : State} {m : MethodId} {args : Array Value} {below : List Frame} {meth : Method} {c : Code} {H : Heap} {locs : List Loc} {cells slots mc ms : Nat} {Q : State → Prop}
variable {pc : Nat} {ls : Array Slot} {rest st0 As : List Value} {a : Array Value} {A : Nat → Prop} {H0 : Heap} {D : va_G} {cA : Nat → ClassId} {ws wc wr : va_W}
variable {y : MethodName} {bytes cc : ByteArray} {maxL nL n index : Nat} {ret : Option FieldType} {w Ts : List Cond} {rm : Room} {own host : String} {b : Addr} {Pc : Array Value → State → Prop}
theorem cPreSN {N : State → Prop} (hN : N s) (hs : ∀ u U : State, u.vm = U.vm → N u → N U) (hw : ∀ U : State, s.WarmedH U.vm → N s → N U) (hK : va_K D vwCl (tyL cA) s) (hP : va_P D vwCl wc H) (hD : va_D A wc) : PreS s H (cPreN D cA H.size As wc N) As :=
  ⟨fun a U g mk q => by
    obtain ⟨q0, ⟨q1, qP, qK, qD⟩, qN⟩ := q
    exact ⟨q0, ⟨q1, qP, va_K.moved (u := U) (U := U.calling g mk a) (Vm.Alike.refl U.vm) qK, qD⟩, hs U _ rfl qN⟩,
   fun U hU hW => ⟨rfl, ⟨by rw [hU], by rw [hU]; exact hP, va_K.moved hW.alike hK, hD.weaken (fun _ _ _ _ => trivial)⟩, hw U hW hN⟩⟩
theorem cBm_v {S : Type} {post : S → Prop} {w1 : S → va_W} (hr : va_Run p l e R s m args below meth c H locs cells slots mc ms (F0 m pc ls st0) rest (va_Qv post (cOut D cA (va_A wc H.size) w1) (va_A wc H.size) a) (va_A wc H.size))
    (hP : va_P D vwCl ws H) (hD : va_D A ws) (hS : va_S A H0 H locs) (hA : ∀ q, H0.size ≤ q → A q) (isC isR : List Nat) (hC : isC.map (fun i => ws[i]?) = wc.map some) (hR : isR.map (fun i => ws[i]?) = wr.map some) (hn : va_nd isR = true) (hdis : ∀ i ∈ isR, i ∉ isC)
    (kk : ∀ (u : S) (H1 : Heap) (locs1 : List Loc), post u → va_P D vwCl (wr ++ w1 u) H1 → va_D A (wr ++ w1 u) → va_S A H0 H1 locs1 → W p l e R s m args below meth c H1 locs1 (cells + mc) (slots + ms) Q (F0 m (pc + 3) ls rest)) : W p l e R s m args below meth c H locs cells slots Q (F0 m pc ls st0) := by
  have hF := va_free (wc := wc) hD hS hA isC hC
  refine va_callv hr hS (fun q _ h => hF q h) hF (fun u t H1 locs1 ht hvm hp hB hz hk hS1 => ?_)
  obtain ⟨hP1, hK1, hD1⟩ := hB
  rw [ht] at hP1
  obtain ⟨hP2, hD2⟩ := va_join hP hD isC isR hC hR hn hdis hk hF hP1 hD1
  exact kk u H1 locs1 hp hP2 hD2 hS1
theorem cIN_v {S : Type} {post : S → Prop} {w1 : S → va_W} (C : CallFix p m c cc nL s args Ts own) (hM : Met l y w rm Pc (va_Qv post (cOut D cA (va_A wc H.size) w1) (va_A wc H.size)) mc ms (va_A wc H.size)) (cw : va_CN R s args own index y host bytes maxL none w rm mc ms n ∧ y.name = "<init>" ∧ (Cond.instanceMethod y).before args s = true)
    (hP : va_P D vwCl ws H) (hD : va_D A ws) (hS : va_S A H0 H locs) (hA : ∀ q, H0.size ≤ q → A q) (isC isR : List Nat) (hC : isC.map (fun i => ws[i]?) = wc.map some) (hR : isR.map (fun i => ws[i]?) = wr.map some) (hn : va_nd isR = true) (hnC : va_nd isC = true) (hdis : ∀ i ∈ isR, i ∉ isC)
    (hp : va_P D vwCl wc H → va_D A wc → PreS s H Pc (.ref b :: As)) (hnn : As.length = n) (hsize : ls.size = nL) (hst : st0 = As.reverse ++ .ref b :: rest) (hroom : (rest.map fun v => v.category).sum ≤ 8) (hdg : decode cc pc = .ok (.invokespecial index, 3)) (hf : cells + mc ≤ R.cells ∧ slots + ms ≤ R.slots)
    (kk : ∀ (u : S) (H1 : Heap) (locs1 : List Loc), post u → va_P D vwCl (wr ++ w1 u) H1 → va_D A (wr ++ w1 u) → va_S A H0 H1 locs1 → W p l e R s m args below meth c H1 locs1 (cells + mc) (slots + ms) Q (F0 m (pc + 3) ls rest)) : W p l e R s m args below meth c H locs cells slots Q (F0 m pc ls st0) := by
  obtain ⟨hPc, hDc⟩ := nd_of hD hP hC hnC
  exact cBm_v (va_runIN (rest := rest) C hM cw (hp hPc hDc) rfl hnn hsize hst (lv_room hroom) hdg hf) hP hD hS hA isC isR hC hR hn hdis kk
theorem cI_v {S : Type} {post : S → Prop} {w1 : S → va_W} (C : CallFix p m c cc nL s args Ts own) (hM : Met l y w rm Pc (va_Qv post (cOut D cA (va_A wc H.size) w1) (va_A wc H.size)) mc ms (va_A wc H.size)) (cw : CallB R s args own index y bytes maxL none w rm mc ms n ∧ y.name = "<init>" ∧ (Cond.instanceMethod y).before args s = true)
    (hP : va_P D vwCl ws H) (hD : va_D A ws) (hS : va_S A H0 H locs) (hA : ∀ q, H0.size ≤ q → A q) (isC isR : List Nat) (hC : isC.map (fun i => ws[i]?) = wc.map some) (hR : isR.map (fun i => ws[i]?) = wr.map some) (hn : va_nd isR = true) (hnC : va_nd isC = true) (hdis : ∀ i ∈ isR, i ∉ isC)
    (hp : va_P D vwCl wc H → va_D A wc → PreS s H Pc (.ref b :: As)) (hnn : As.length = n) (hsize : ls.size = nL) (hst : st0 = As.reverse ++ .ref b :: rest) (hroom : (rest.map fun v => v.category).sum ≤ 8) (hdg : decode cc pc = .ok (.invokespecial index, 3)) (hf : cells + mc ≤ R.cells ∧ slots + ms ≤ R.slots)
    (kk : ∀ (u : S) (H1 : Heap) (locs1 : List Loc), post u → va_P D vwCl (wr ++ w1 u) H1 → va_D A (wr ++ w1 u) → va_S A H0 H1 locs1 → W p l e R s m args below meth c H1 locs1 (cells + mc) (slots + ms) Q (F0 m (pc + 3) ls rest)) : W p l e R s m args below meth c H locs cells slots Q (F0 m pc ls st0) := by
  obtain ⟨hPc, hDc⟩ := nd_of hD hP hC hnC
  exact cBm_v (va_runI (rest := rest) C hM cw (hp hPc hDc) rfl hnn hsize hst (lv_room hroom) hdg hf) hP hD hS hA isC isR hC hR hn hdis kk
end CI
theorem fl_X0_init_0 : ((.methodLink RX0 3 objectInit) : Cond) ∈ wsX0_init := by decide +kernel
theorem fl_X0_init_1 : ((.instanceMethod objectInit) : Cond) ∈ wsX0_init := by decide +kernel
theorem fl_X0_init_2 : ((.arrayClass .int) : Cond) ∈ wsX0_init := by decide +kernel
theorem fi_X0_init_X0 : ∀ w ∈ wsX00, w ∈ wsX0_init := by decide +kernel
theorem fl_X0_init_4 : ((.fieldLink RX0 9 "OrderTests$Findings" "endValues" "[I") : Cond) ∈ wsX0_init := by decide +kernel
theorem fl_X0_init_5 : ((.fieldLink RX0 15 "OrderTests$Findings" "endStates" "[I") : Cond) ∈ wsX0_init := by decide +kernel
theorem fl_X0_init_6 : ((.fieldLink RX0 18 "OrderTests$Findings" "parents" "[I") : Cond) ∈ wsX0_init := by decide +kernel
theorem fl_X0_init_7 : ((.fieldLink RX0 21 "OrderTests$Findings" "steps" "[I") : Cond) ∈ wsX0_init := by decide +kernel
abbrev rm_X0_init : Room := { frames := 1, cells := 4, slots := 2400, locals := 20 }
set_option maxHeartbeats 4000000 in
set_option maxRecDepth 100000 in
theorem c_X0_init (l : Launch) (D : va_G) (cA : Nat → ClassId) (h0 sz : Nat)  : Met l yX0_init wsX0_init rm_X0_init (cPre D cA sz [.ref h0] [(h0, .inr (0, [.int 0, .int 0, .int 0, .int 0, .int 0, .int 0, .null, .null, .null, .null]))]) (va_Qv (fun (u : Nat → Nat) => u 0 = h0) (cOut D cA (va_A [(h0, .inr (0, [.int 0, .int 0, .int 0, .int 0, .int 0, .int 0, .null, .null, .null, .null]))] sz) (fun (u : Nat → Nat) => sh_X0 cA u 0 0 0 0 0 0 (fun _ => (0 : Int32)) (fun _ => (0 : Int32)) (fun _ => (0 : Int32)) (fun _ => (0 : Int32)))) (va_A [(h0, .inr (0, [.int 0, .int 0, .int 0, .int 0, .int 0, .int 0, .null, .null, .null, .null]))] sz)) 4 2400 (va_A [(h0, .inr (0, [.int 0, .int 0, .int 0, .int 0, .int 0, .int 0, .null, .null, .null, .null]))] sz) := by
  refine Met.ofW (cc := cX0_init) (maxL := 1) (ret := none) (by decide) rfl ?_
  intro p e s m args below meth c s₁ B hml hv
  obtain ⟨rfl, hsz, hP, hK, hD0⟩ := hv
  have hx := B.exec
  have hb := B.bytes
  have hr := B.returns
  have hts := atoms_spec (ws := wsX0_init) B.pre
  have hown : s.vm.findClass RX0 = some m.cls := findClass_of_methodNamed B.named
  have hlocks := B.notSynchronized
  have hin : meth.name = "<init>" := (name_of_methodNamed B.named B.method).1
  subst hsz
  have hD := hD0.self (sz := s.heap.size)
  generalize hAe : va_A [(h0, .inr (0, [.int 0, .int 0, .int 0, .int 0, .int 0, .int 0, .null, .null, .null, .null]))] s.heap.size = A at hD ⊢
  have hA : ∀ q : Nat, s.heap.size ≤ q → A q := fun q h => by rw [← hAe]; exact Or.inr h
  have hS : va_S A s.heap s.heap [] := va_S.rf
  have hP : va_P D vwCl [(h0, .inr (0, [.int 0, .int 0, .int 0, .int 0, .int 0, .int 0, .null, .null, .null, .null]))] s.heap := hP
  have hl := lv_entry ([.ref h0]) (n := 1) (Nat.le_of_ble_eq_true rfl)
  rw [lg_entry_eq]
  generalize (lg_sl ([.ref h0]) ++ List.replicate (1 - (lg_sl ([.ref h0])).length) Slot.unset).toArray = ls at hl ⊢
  have hl : lv_has ls 1 [(0, .ref h0)] := hl
  refine lv_aload_n hx hb dX0_init_0 rfl (lv_at hl 0 rfl) ?_
  refine W.objInit hx hb hown (hts _ fl_X0_init_0) (hts _ fl_X0_init_1) (hts _ (List.mem_of_getElem? (l := wsX0_init) (i := 3) rfl)) rfl (by rw [hml]; exact hl.1) rfl dX0_init_1 (Nat.le_of_ble_eq_true rfl) (Nat.le_of_ble_eq_true rfl) ?_
  refine W.eq (g2 := F0 m 4 ls []) rfl ?_
  refine lv_aload_n hx hb dX0_init_4 rfl (lv_at hl 0 rfl) ?_
  refine lv_sipush (v := 600) hx hb dX0_init_5 (by decide) ?_
  refine va_newa (atype := .int) (ty := .int) (a0 := (600, .inl (fun _ => (0 : Int32)))) (N' := 600) hx hb (hts _ fl_X0_init_2) rfl hK hP hD hS hA (fun _ => rfl) (by decide) (by decide) (by decide) (Nat.le_of_ble_eq_true rfl) (Nat.le_of_ble_eq_true rfl) dX0_init_8 (fun q1_ c1 H hK1 hP hD hS => ?_)
  obtain rfl := arr_eqI hK1
  have hP : va_P D vwCl [(h0, .inr (0, [.int 0, .int 0, .int 0, .int 0, .int 0, .int 0, .null, .null, .null, .null])), (q1_, .inl (cA 0, 600, .inl (fun _ => (0 : Int32))))] H := hP
  have hD : va_D A [(h0, .inr (0, [.int 0, .int 0, .int 0, .int 0, .int 0, .int 0, .null, .null, .null, .null])), (q1_, .inl (cA 0, 600, .inl (fun _ => (0 : Int32))))] := hD
  refine W.widen (k := 1) (n := 600) (Nat.le_of_ble_eq_true rfl) (Nat.le_of_ble_eq_true rfl) ?_
  refine va_putF (D := D) (ci := 0) (v := .ref q1_) (ty := .array .int) (C := RX0) (T := TX0) (N := 10) hx hb hts fi_X0_init_X0 tyX0 tyX0_ok nmX0 hown hK hP hD hS 0 rfl rfl 6 (by decide) (hts _ fl_X0_init_4) (fun _ h9 => h9) rfl hin rfl (by decide +kernel) rfl rfl (Nat.le_of_ble_eq_true rfl) dX0_init_10 (fun H locs hP hD hS => ?_)
  have hP : va_P D vwCl [(h0, .inr (0, [.int 0, .int 0, .int 0, .int 0, .int 0, .int 0, .ref q1_, .null, .null, .null])), (q1_, .inl (cA 0, 600, .inl (fun _ => (0 : Int32))))] H := hP
  have hD : va_D A [(h0, .inr (0, [.int 0, .int 0, .int 0, .int 0, .int 0, .int 0, .ref q1_, .null, .null, .null])), (q1_, .inl (cA 0, 600, .inl (fun _ => (0 : Int32))))] := hD
  refine lv_aload_n hx hb dX0_init_13 rfl (lv_at hl 0 rfl) ?_
  refine lv_sipush (v := 600) hx hb dX0_init_14 (by decide) ?_
  refine va_newa (atype := .int) (ty := .int) (a0 := (600, .inl (fun _ => (0 : Int32)))) (N' := 600) hx hb (hts _ fl_X0_init_2) rfl hK hP hD hS hA (fun _ => rfl) (by decide) (by decide) (by decide) (Nat.le_of_ble_eq_true rfl) (Nat.le_of_ble_eq_true rfl) dX0_init_17 (fun q2_ c1 H hK1 hP hD hS => ?_)
  obtain rfl := arr_eqI hK1
  have hP : va_P D vwCl [(h0, .inr (0, [.int 0, .int 0, .int 0, .int 0, .int 0, .int 0, .ref q1_, .null, .null, .null])), (q1_, .inl (cA 0, 600, .inl (fun _ => (0 : Int32)))), (q2_, .inl (cA 0, 600, .inl (fun _ => (0 : Int32))))] H := hP
  have hD : va_D A [(h0, .inr (0, [.int 0, .int 0, .int 0, .int 0, .int 0, .int 0, .ref q1_, .null, .null, .null])), (q1_, .inl (cA 0, 600, .inl (fun _ => (0 : Int32)))), (q2_, .inl (cA 0, 600, .inl (fun _ => (0 : Int32))))] := hD
  refine W.widen (k := 2) (n := 1200) (Nat.le_of_ble_eq_true rfl) (Nat.le_of_ble_eq_true rfl) ?_
  refine va_putF (D := D) (ci := 0) (v := .ref q2_) (ty := .array .int) (C := RX0) (T := TX0) (N := 10) hx hb hts fi_X0_init_X0 tyX0 tyX0_ok nmX0 hown hK hP hD hS 0 rfl rfl 7 (by decide) (hts _ fl_X0_init_5) (fun _ h9 => h9) rfl hin rfl (by decide +kernel) rfl rfl (Nat.le_of_ble_eq_true rfl) dX0_init_19 (fun H locs hP hD hS => ?_)
  have hP : va_P D vwCl [(h0, .inr (0, [.int 0, .int 0, .int 0, .int 0, .int 0, .int 0, .ref q1_, .ref q2_, .null, .null])), (q1_, .inl (cA 0, 600, .inl (fun _ => (0 : Int32)))), (q2_, .inl (cA 0, 600, .inl (fun _ => (0 : Int32))))] H := hP
  have hD : va_D A [(h0, .inr (0, [.int 0, .int 0, .int 0, .int 0, .int 0, .int 0, .ref q1_, .ref q2_, .null, .null])), (q1_, .inl (cA 0, 600, .inl (fun _ => (0 : Int32)))), (q2_, .inl (cA 0, 600, .inl (fun _ => (0 : Int32))))] := hD
  refine lv_aload_n hx hb dX0_init_22 rfl (lv_at hl 0 rfl) ?_
  refine lv_sipush (v := 600) hx hb dX0_init_23 (by decide) ?_
  refine va_newa (atype := .int) (ty := .int) (a0 := (600, .inl (fun _ => (0 : Int32)))) (N' := 600) hx hb (hts _ fl_X0_init_2) rfl hK hP hD hS hA (fun _ => rfl) (by decide) (by decide) (by decide) (Nat.le_of_ble_eq_true rfl) (Nat.le_of_ble_eq_true rfl) dX0_init_26 (fun q3_ c1 H hK1 hP hD hS => ?_)
  obtain rfl := arr_eqI hK1
  have hP : va_P D vwCl [(h0, .inr (0, [.int 0, .int 0, .int 0, .int 0, .int 0, .int 0, .ref q1_, .ref q2_, .null, .null])), (q1_, .inl (cA 0, 600, .inl (fun _ => (0 : Int32)))), (q2_, .inl (cA 0, 600, .inl (fun _ => (0 : Int32)))), (q3_, .inl (cA 0, 600, .inl (fun _ => (0 : Int32))))] H := hP
  have hD : va_D A [(h0, .inr (0, [.int 0, .int 0, .int 0, .int 0, .int 0, .int 0, .ref q1_, .ref q2_, .null, .null])), (q1_, .inl (cA 0, 600, .inl (fun _ => (0 : Int32)))), (q2_, .inl (cA 0, 600, .inl (fun _ => (0 : Int32)))), (q3_, .inl (cA 0, 600, .inl (fun _ => (0 : Int32))))] := hD
  refine W.widen (k := 3) (n := 1800) (Nat.le_of_ble_eq_true rfl) (Nat.le_of_ble_eq_true rfl) ?_
  refine va_putF (D := D) (ci := 0) (v := .ref q3_) (ty := .array .int) (C := RX0) (T := TX0) (N := 10) hx hb hts fi_X0_init_X0 tyX0 tyX0_ok nmX0 hown hK hP hD hS 0 rfl rfl 8 (by decide) (hts _ fl_X0_init_6) (fun _ h9 => h9) rfl hin rfl (by decide +kernel) rfl rfl (Nat.le_of_ble_eq_true rfl) dX0_init_28 (fun H locs hP hD hS => ?_)
  have hP : va_P D vwCl [(h0, .inr (0, [.int 0, .int 0, .int 0, .int 0, .int 0, .int 0, .ref q1_, .ref q2_, .ref q3_, .null])), (q1_, .inl (cA 0, 600, .inl (fun _ => (0 : Int32)))), (q2_, .inl (cA 0, 600, .inl (fun _ => (0 : Int32)))), (q3_, .inl (cA 0, 600, .inl (fun _ => (0 : Int32))))] H := hP
  have hD : va_D A [(h0, .inr (0, [.int 0, .int 0, .int 0, .int 0, .int 0, .int 0, .ref q1_, .ref q2_, .ref q3_, .null])), (q1_, .inl (cA 0, 600, .inl (fun _ => (0 : Int32)))), (q2_, .inl (cA 0, 600, .inl (fun _ => (0 : Int32)))), (q3_, .inl (cA 0, 600, .inl (fun _ => (0 : Int32))))] := hD
  refine lv_aload_n hx hb dX0_init_31 rfl (lv_at hl 0 rfl) ?_
  refine lv_sipush (v := 600) hx hb dX0_init_32 (by decide) ?_
  refine va_newa (atype := .int) (ty := .int) (a0 := (600, .inl (fun _ => (0 : Int32)))) (N' := 600) hx hb (hts _ fl_X0_init_2) rfl hK hP hD hS hA (fun _ => rfl) (by decide) (by decide) (by decide) (Nat.le_of_ble_eq_true rfl) (Nat.le_of_ble_eq_true rfl) dX0_init_35 (fun q4_ c1 H hK1 hP hD hS => ?_)
  obtain rfl := arr_eqI hK1
  have hP : va_P D vwCl [(h0, .inr (0, [.int 0, .int 0, .int 0, .int 0, .int 0, .int 0, .ref q1_, .ref q2_, .ref q3_, .null])), (q1_, .inl (cA 0, 600, .inl (fun _ => (0 : Int32)))), (q2_, .inl (cA 0, 600, .inl (fun _ => (0 : Int32)))), (q3_, .inl (cA 0, 600, .inl (fun _ => (0 : Int32)))), (q4_, .inl (cA 0, 600, .inl (fun _ => (0 : Int32))))] H := hP
  have hD : va_D A [(h0, .inr (0, [.int 0, .int 0, .int 0, .int 0, .int 0, .int 0, .ref q1_, .ref q2_, .ref q3_, .null])), (q1_, .inl (cA 0, 600, .inl (fun _ => (0 : Int32)))), (q2_, .inl (cA 0, 600, .inl (fun _ => (0 : Int32)))), (q3_, .inl (cA 0, 600, .inl (fun _ => (0 : Int32)))), (q4_, .inl (cA 0, 600, .inl (fun _ => (0 : Int32))))] := hD
  refine W.widen (k := 4) (n := 2400) (Nat.le_of_ble_eq_true rfl) (Nat.le_of_ble_eq_true rfl) ?_
  refine va_putF (D := D) (ci := 0) (v := .ref q4_) (ty := .array .int) (C := RX0) (T := TX0) (N := 10) hx hb hts fi_X0_init_X0 tyX0 tyX0_ok nmX0 hown hK hP hD hS 0 rfl rfl 9 (by decide) (hts _ fl_X0_init_7) (fun _ h9 => h9) rfl hin rfl (by decide +kernel) rfl rfl (Nat.le_of_ble_eq_true rfl) dX0_init_37 (fun H locs hP hD hS => ?_)
  have hP : va_P D vwCl [(h0, .inr (0, [.int 0, .int 0, .int 0, .int 0, .int 0, .int 0, .ref q1_, .ref q2_, .ref q3_, .ref q4_])), (q1_, .inl (cA 0, 600, .inl (fun _ => (0 : Int32)))), (q2_, .inl (cA 0, 600, .inl (fun _ => (0 : Int32)))), (q3_, .inl (cA 0, 600, .inl (fun _ => (0 : Int32)))), (q4_, .inl (cA 0, 600, .inl (fun _ => (0 : Int32))))] H := hP
  have hD : va_D A [(h0, .inr (0, [.int 0, .int 0, .int 0, .int 0, .int 0, .int 0, .ref q1_, .ref q2_, .ref q3_, .ref q4_])), (q1_, .inl (cA 0, 600, .inl (fun _ => (0 : Int32)))), (q2_, .inl (cA 0, 600, .inl (fun _ => (0 : Int32)))), (q3_, .inl (cA 0, 600, .inl (fun _ => (0 : Int32)))), (q4_, .inl (cA 0, 600, .inl (fun _ => (0 : Int32))))] := hD
  exact W.vret hx hb hr (fun t ht hW => ⟨⟨(fun k => match k with | 0 => h0 | 1 => q1_ | 2 => q2_ | 3 => q3_ | _ => q4_), rfl, rfl, by rw [ht]; exact hP, va_K.moved hW.alike hK, hD⟩, hS.F ht⟩) hS.2.2 dX0_init_40
theorem fl_X1_init_0 : ((.methodLink RX1 3 objectInit) : Cond) ∈ wsX1_init := by decide +kernel
theorem fl_X1_init_1 : ((.instanceMethod objectInit) : Cond) ∈ wsX1_init := by decide +kernel
theorem fl_X1_init_2 : ((.arrayClass .int) : Cond) ∈ wsX1_init := by decide +kernel
theorem fi_X1_init_X1 : ∀ w ∈ wsX10, w ∈ wsX1_init := by decide +kernel
theorem fl_X1_init_4 : ((.fieldLink RX1 9 "OrderTests$Graph" "begins" "[I") : Cond) ∈ wsX1_init := by decide +kernel
theorem fl_X1_init_5 : ((.fieldLink RX1 15 "OrderTests$Graph" "arcFrom" "[I") : Cond) ∈ wsX1_init := by decide +kernel
theorem fl_X1_init_6 : ((.fieldLink RX1 18 "OrderTests$Graph" "arcTo" "[I") : Cond) ∈ wsX1_init := by decide +kernel
theorem fl_X1_init_7 : ((.fieldLink RX1 21 "OrderTests$Graph" "weights" "[I") : Cond) ∈ wsX1_init := by decide +kernel
theorem fl_X1_init_8 : ((.fieldLink RX1 24 "OrderTests$Graph" "firstTo" "[I") : Cond) ∈ wsX1_init := by decide +kernel
theorem fl_X1_init_9 : ((.fieldLink RX1 27 "OrderTests$Graph" "firstValue" "[I") : Cond) ∈ wsX1_init := by decide +kernel
abbrev rm_X1_init : Room := { frames := 1, cells := 6, slots := 37, locals := 20 }
set_option maxHeartbeats 4000000 in
set_option maxRecDepth 100000 in
theorem c_X1_init (l : Launch) (D : va_G) (cA : Nat → ClassId) (h0 sz : Nat)  : Met l yX1_init wsX1_init rm_X1_init (cPre D cA sz [.ref h0] [(h0, .inr (1, [.int 0, .int 0, .int 0, .null, .null, .null, .null, .null, .null]))]) (va_Qv (fun (u : Nat → Nat) => u 0 = h0) (cOut D cA (va_A [(h0, .inr (1, [.int 0, .int 0, .int 0, .null, .null, .null, .null, .null, .null]))] sz) (fun (u : Nat → Nat) => sh_X1 cA u 0 0 0 (fun _ => (0 : Int32)) (fun _ => (0 : Int32)) (fun _ => (0 : Int32)) (fun _ => (0 : Int32)) (fun _ => (0 : Int32)) (fun _ => (0 : Int32)))) (va_A [(h0, .inr (1, [.int 0, .int 0, .int 0, .null, .null, .null, .null, .null, .null]))] sz)) 6 37 (va_A [(h0, .inr (1, [.int 0, .int 0, .int 0, .null, .null, .null, .null, .null, .null]))] sz) := by
  refine Met.ofW (cc := cX1_init) (maxL := 1) (ret := none) (by decide) rfl ?_
  intro p e s m args below meth c s₁ B hml hv
  obtain ⟨rfl, hsz, hP, hK, hD0⟩ := hv
  have hx := B.exec
  have hb := B.bytes
  have hr := B.returns
  have hts := atoms_spec (ws := wsX1_init) B.pre
  have hown : s.vm.findClass RX1 = some m.cls := findClass_of_methodNamed B.named
  have hlocks := B.notSynchronized
  have hin : meth.name = "<init>" := (name_of_methodNamed B.named B.method).1
  subst hsz
  have hD := hD0.self (sz := s.heap.size)
  generalize hAe : va_A [(h0, .inr (1, [.int 0, .int 0, .int 0, .null, .null, .null, .null, .null, .null]))] s.heap.size = A at hD ⊢
  have hA : ∀ q : Nat, s.heap.size ≤ q → A q := fun q h => by rw [← hAe]; exact Or.inr h
  have hS : va_S A s.heap s.heap [] := va_S.rf
  have hP : va_P D vwCl [(h0, .inr (1, [.int 0, .int 0, .int 0, .null, .null, .null, .null, .null, .null]))] s.heap := hP
  have hl := lv_entry ([.ref h0]) (n := 1) (Nat.le_of_ble_eq_true rfl)
  rw [lg_entry_eq]
  generalize (lg_sl ([.ref h0]) ++ List.replicate (1 - (lg_sl ([.ref h0])).length) Slot.unset).toArray = ls at hl ⊢
  have hl : lv_has ls 1 [(0, .ref h0)] := hl
  refine lv_aload_n hx hb dX1_init_0 rfl (lv_at hl 0 rfl) ?_
  refine W.objInit hx hb hown (hts _ fl_X1_init_0) (hts _ fl_X1_init_1) (hts _ (List.mem_of_getElem? (l := wsX1_init) (i := 3) rfl)) rfl (by rw [hml]; exact hl.1) rfl dX1_init_1 (Nat.le_of_ble_eq_true rfl) (Nat.le_of_ble_eq_true rfl) ?_
  refine W.eq (g2 := F0 m 4 ls []) rfl ?_
  refine lv_aload_n hx hb dX1_init_4 rfl (lv_at hl 0 rfl) ?_
  refine lv_iconst (v := 5) hx hb dX1_init_5 (by decide) ?_
  refine va_newa (atype := .int) (ty := .int) (a0 := (5, .inl (fun _ => (0 : Int32)))) (N' := 5) hx hb (hts _ fl_X1_init_2) rfl hK hP hD hS hA (fun _ => rfl) (by decide) (by decide) (by decide) (Nat.le_of_ble_eq_true rfl) (Nat.le_of_ble_eq_true rfl) dX1_init_6 (fun q1_ c1 H hK1 hP hD hS => ?_)
  obtain rfl := arr_eqI hK1
  have hP : va_P D vwCl [(h0, .inr (1, [.int 0, .int 0, .int 0, .null, .null, .null, .null, .null, .null])), (q1_, .inl (cA 0, 5, .inl (fun _ => (0 : Int32))))] H := hP
  have hD : va_D A [(h0, .inr (1, [.int 0, .int 0, .int 0, .null, .null, .null, .null, .null, .null])), (q1_, .inl (cA 0, 5, .inl (fun _ => (0 : Int32))))] := hD
  refine W.widen (k := 1) (n := 5) (Nat.le_of_ble_eq_true rfl) (Nat.le_of_ble_eq_true rfl) ?_
  refine va_putF (D := D) (ci := 1) (v := .ref q1_) (ty := .array .int) (C := RX1) (T := TX1) (N := 9) hx hb hts fi_X1_init_X1 tyX1 tyX1_ok nmX1 hown hK hP hD hS 0 rfl rfl 3 (by decide) (hts _ fl_X1_init_4) (fun _ h9 => h9) rfl hin rfl (by decide +kernel) rfl rfl (Nat.le_of_ble_eq_true rfl) dX1_init_8 (fun H locs hP hD hS => ?_)
  have hP : va_P D vwCl [(h0, .inr (1, [.int 0, .int 0, .int 0, .ref q1_, .null, .null, .null, .null, .null])), (q1_, .inl (cA 0, 5, .inl (fun _ => (0 : Int32))))] H := hP
  have hD : va_D A [(h0, .inr (1, [.int 0, .int 0, .int 0, .ref q1_, .null, .null, .null, .null, .null])), (q1_, .inl (cA 0, 5, .inl (fun _ => (0 : Int32))))] := hD
  refine lv_aload_n hx hb dX1_init_11 rfl (lv_at hl 0 rfl) ?_
  refine lv_bipush (v := 8) hx hb dX1_init_12 (by decide) ?_
  refine va_newa (atype := .int) (ty := .int) (a0 := (8, .inl (fun _ => (0 : Int32)))) (N' := 8) hx hb (hts _ fl_X1_init_2) rfl hK hP hD hS hA (fun _ => rfl) (by decide) (by decide) (by decide) (Nat.le_of_ble_eq_true rfl) (Nat.le_of_ble_eq_true rfl) dX1_init_14 (fun q2_ c1 H hK1 hP hD hS => ?_)
  obtain rfl := arr_eqI hK1
  have hP : va_P D vwCl [(h0, .inr (1, [.int 0, .int 0, .int 0, .ref q1_, .null, .null, .null, .null, .null])), (q1_, .inl (cA 0, 5, .inl (fun _ => (0 : Int32)))), (q2_, .inl (cA 0, 8, .inl (fun _ => (0 : Int32))))] H := hP
  have hD : va_D A [(h0, .inr (1, [.int 0, .int 0, .int 0, .ref q1_, .null, .null, .null, .null, .null])), (q1_, .inl (cA 0, 5, .inl (fun _ => (0 : Int32)))), (q2_, .inl (cA 0, 8, .inl (fun _ => (0 : Int32))))] := hD
  refine W.widen (k := 2) (n := 13) (Nat.le_of_ble_eq_true rfl) (Nat.le_of_ble_eq_true rfl) ?_
  refine va_putF (D := D) (ci := 1) (v := .ref q2_) (ty := .array .int) (C := RX1) (T := TX1) (N := 9) hx hb hts fi_X1_init_X1 tyX1 tyX1_ok nmX1 hown hK hP hD hS 0 rfl rfl 4 (by decide) (hts _ fl_X1_init_5) (fun _ h9 => h9) rfl hin rfl (by decide +kernel) rfl rfl (Nat.le_of_ble_eq_true rfl) dX1_init_16 (fun H locs hP hD hS => ?_)
  have hP : va_P D vwCl [(h0, .inr (1, [.int 0, .int 0, .int 0, .ref q1_, .ref q2_, .null, .null, .null, .null])), (q1_, .inl (cA 0, 5, .inl (fun _ => (0 : Int32)))), (q2_, .inl (cA 0, 8, .inl (fun _ => (0 : Int32))))] H := hP
  have hD : va_D A [(h0, .inr (1, [.int 0, .int 0, .int 0, .ref q1_, .ref q2_, .null, .null, .null, .null])), (q1_, .inl (cA 0, 5, .inl (fun _ => (0 : Int32)))), (q2_, .inl (cA 0, 8, .inl (fun _ => (0 : Int32))))] := hD
  refine lv_aload_n hx hb dX1_init_19 rfl (lv_at hl 0 rfl) ?_
  refine lv_bipush (v := 8) hx hb dX1_init_20 (by decide) ?_
  refine va_newa (atype := .int) (ty := .int) (a0 := (8, .inl (fun _ => (0 : Int32)))) (N' := 8) hx hb (hts _ fl_X1_init_2) rfl hK hP hD hS hA (fun _ => rfl) (by decide) (by decide) (by decide) (Nat.le_of_ble_eq_true rfl) (Nat.le_of_ble_eq_true rfl) dX1_init_22 (fun q3_ c1 H hK1 hP hD hS => ?_)
  obtain rfl := arr_eqI hK1
  have hP : va_P D vwCl [(h0, .inr (1, [.int 0, .int 0, .int 0, .ref q1_, .ref q2_, .null, .null, .null, .null])), (q1_, .inl (cA 0, 5, .inl (fun _ => (0 : Int32)))), (q2_, .inl (cA 0, 8, .inl (fun _ => (0 : Int32)))), (q3_, .inl (cA 0, 8, .inl (fun _ => (0 : Int32))))] H := hP
  have hD : va_D A [(h0, .inr (1, [.int 0, .int 0, .int 0, .ref q1_, .ref q2_, .null, .null, .null, .null])), (q1_, .inl (cA 0, 5, .inl (fun _ => (0 : Int32)))), (q2_, .inl (cA 0, 8, .inl (fun _ => (0 : Int32)))), (q3_, .inl (cA 0, 8, .inl (fun _ => (0 : Int32))))] := hD
  refine W.widen (k := 3) (n := 21) (Nat.le_of_ble_eq_true rfl) (Nat.le_of_ble_eq_true rfl) ?_
  refine va_putF (D := D) (ci := 1) (v := .ref q3_) (ty := .array .int) (C := RX1) (T := TX1) (N := 9) hx hb hts fi_X1_init_X1 tyX1 tyX1_ok nmX1 hown hK hP hD hS 0 rfl rfl 5 (by decide) (hts _ fl_X1_init_6) (fun _ h9 => h9) rfl hin rfl (by decide +kernel) rfl rfl (Nat.le_of_ble_eq_true rfl) dX1_init_24 (fun H locs hP hD hS => ?_)
  have hP : va_P D vwCl [(h0, .inr (1, [.int 0, .int 0, .int 0, .ref q1_, .ref q2_, .ref q3_, .null, .null, .null])), (q1_, .inl (cA 0, 5, .inl (fun _ => (0 : Int32)))), (q2_, .inl (cA 0, 8, .inl (fun _ => (0 : Int32)))), (q3_, .inl (cA 0, 8, .inl (fun _ => (0 : Int32))))] H := hP
  have hD : va_D A [(h0, .inr (1, [.int 0, .int 0, .int 0, .ref q1_, .ref q2_, .ref q3_, .null, .null, .null])), (q1_, .inl (cA 0, 5, .inl (fun _ => (0 : Int32)))), (q2_, .inl (cA 0, 8, .inl (fun _ => (0 : Int32)))), (q3_, .inl (cA 0, 8, .inl (fun _ => (0 : Int32))))] := hD
  refine lv_aload_n hx hb dX1_init_27 rfl (lv_at hl 0 rfl) ?_
  refine lv_bipush (v := 8) hx hb dX1_init_28 (by decide) ?_
  refine va_newa (atype := .int) (ty := .int) (a0 := (8, .inl (fun _ => (0 : Int32)))) (N' := 8) hx hb (hts _ fl_X1_init_2) rfl hK hP hD hS hA (fun _ => rfl) (by decide) (by decide) (by decide) (Nat.le_of_ble_eq_true rfl) (Nat.le_of_ble_eq_true rfl) dX1_init_30 (fun q4_ c1 H hK1 hP hD hS => ?_)
  obtain rfl := arr_eqI hK1
  have hP : va_P D vwCl [(h0, .inr (1, [.int 0, .int 0, .int 0, .ref q1_, .ref q2_, .ref q3_, .null, .null, .null])), (q1_, .inl (cA 0, 5, .inl (fun _ => (0 : Int32)))), (q2_, .inl (cA 0, 8, .inl (fun _ => (0 : Int32)))), (q3_, .inl (cA 0, 8, .inl (fun _ => (0 : Int32)))), (q4_, .inl (cA 0, 8, .inl (fun _ => (0 : Int32))))] H := hP
  have hD : va_D A [(h0, .inr (1, [.int 0, .int 0, .int 0, .ref q1_, .ref q2_, .ref q3_, .null, .null, .null])), (q1_, .inl (cA 0, 5, .inl (fun _ => (0 : Int32)))), (q2_, .inl (cA 0, 8, .inl (fun _ => (0 : Int32)))), (q3_, .inl (cA 0, 8, .inl (fun _ => (0 : Int32)))), (q4_, .inl (cA 0, 8, .inl (fun _ => (0 : Int32))))] := hD
  refine W.widen (k := 4) (n := 29) (Nat.le_of_ble_eq_true rfl) (Nat.le_of_ble_eq_true rfl) ?_
  refine va_putF (D := D) (ci := 1) (v := .ref q4_) (ty := .array .int) (C := RX1) (T := TX1) (N := 9) hx hb hts fi_X1_init_X1 tyX1 tyX1_ok nmX1 hown hK hP hD hS 0 rfl rfl 6 (by decide) (hts _ fl_X1_init_7) (fun _ h9 => h9) rfl hin rfl (by decide +kernel) rfl rfl (Nat.le_of_ble_eq_true rfl) dX1_init_32 (fun H locs hP hD hS => ?_)
  have hP : va_P D vwCl [(h0, .inr (1, [.int 0, .int 0, .int 0, .ref q1_, .ref q2_, .ref q3_, .ref q4_, .null, .null])), (q1_, .inl (cA 0, 5, .inl (fun _ => (0 : Int32)))), (q2_, .inl (cA 0, 8, .inl (fun _ => (0 : Int32)))), (q3_, .inl (cA 0, 8, .inl (fun _ => (0 : Int32)))), (q4_, .inl (cA 0, 8, .inl (fun _ => (0 : Int32))))] H := hP
  have hD : va_D A [(h0, .inr (1, [.int 0, .int 0, .int 0, .ref q1_, .ref q2_, .ref q3_, .ref q4_, .null, .null])), (q1_, .inl (cA 0, 5, .inl (fun _ => (0 : Int32)))), (q2_, .inl (cA 0, 8, .inl (fun _ => (0 : Int32)))), (q3_, .inl (cA 0, 8, .inl (fun _ => (0 : Int32)))), (q4_, .inl (cA 0, 8, .inl (fun _ => (0 : Int32))))] := hD
  refine lv_aload_n hx hb dX1_init_35 rfl (lv_at hl 0 rfl) ?_
  refine lv_iconst (v := 4) hx hb dX1_init_36 (by decide) ?_
  refine va_newa (atype := .int) (ty := .int) (a0 := (4, .inl (fun _ => (0 : Int32)))) (N' := 4) hx hb (hts _ fl_X1_init_2) rfl hK hP hD hS hA (fun _ => rfl) (by decide) (by decide) (by decide) (Nat.le_of_ble_eq_true rfl) (Nat.le_of_ble_eq_true rfl) dX1_init_37 (fun q5_ c1 H hK1 hP hD hS => ?_)
  obtain rfl := arr_eqI hK1
  have hP : va_P D vwCl [(h0, .inr (1, [.int 0, .int 0, .int 0, .ref q1_, .ref q2_, .ref q3_, .ref q4_, .null, .null])), (q1_, .inl (cA 0, 5, .inl (fun _ => (0 : Int32)))), (q2_, .inl (cA 0, 8, .inl (fun _ => (0 : Int32)))), (q3_, .inl (cA 0, 8, .inl (fun _ => (0 : Int32)))), (q4_, .inl (cA 0, 8, .inl (fun _ => (0 : Int32)))), (q5_, .inl (cA 0, 4, .inl (fun _ => (0 : Int32))))] H := hP
  have hD : va_D A [(h0, .inr (1, [.int 0, .int 0, .int 0, .ref q1_, .ref q2_, .ref q3_, .ref q4_, .null, .null])), (q1_, .inl (cA 0, 5, .inl (fun _ => (0 : Int32)))), (q2_, .inl (cA 0, 8, .inl (fun _ => (0 : Int32)))), (q3_, .inl (cA 0, 8, .inl (fun _ => (0 : Int32)))), (q4_, .inl (cA 0, 8, .inl (fun _ => (0 : Int32)))), (q5_, .inl (cA 0, 4, .inl (fun _ => (0 : Int32))))] := hD
  refine W.widen (k := 5) (n := 33) (Nat.le_of_ble_eq_true rfl) (Nat.le_of_ble_eq_true rfl) ?_
  refine va_putF (D := D) (ci := 1) (v := .ref q5_) (ty := .array .int) (C := RX1) (T := TX1) (N := 9) hx hb hts fi_X1_init_X1 tyX1 tyX1_ok nmX1 hown hK hP hD hS 0 rfl rfl 7 (by decide) (hts _ fl_X1_init_8) (fun _ h9 => h9) rfl hin rfl (by decide +kernel) rfl rfl (Nat.le_of_ble_eq_true rfl) dX1_init_39 (fun H locs hP hD hS => ?_)
  have hP : va_P D vwCl [(h0, .inr (1, [.int 0, .int 0, .int 0, .ref q1_, .ref q2_, .ref q3_, .ref q4_, .ref q5_, .null])), (q1_, .inl (cA 0, 5, .inl (fun _ => (0 : Int32)))), (q2_, .inl (cA 0, 8, .inl (fun _ => (0 : Int32)))), (q3_, .inl (cA 0, 8, .inl (fun _ => (0 : Int32)))), (q4_, .inl (cA 0, 8, .inl (fun _ => (0 : Int32)))), (q5_, .inl (cA 0, 4, .inl (fun _ => (0 : Int32))))] H := hP
  have hD : va_D A [(h0, .inr (1, [.int 0, .int 0, .int 0, .ref q1_, .ref q2_, .ref q3_, .ref q4_, .ref q5_, .null])), (q1_, .inl (cA 0, 5, .inl (fun _ => (0 : Int32)))), (q2_, .inl (cA 0, 8, .inl (fun _ => (0 : Int32)))), (q3_, .inl (cA 0, 8, .inl (fun _ => (0 : Int32)))), (q4_, .inl (cA 0, 8, .inl (fun _ => (0 : Int32)))), (q5_, .inl (cA 0, 4, .inl (fun _ => (0 : Int32))))] := hD
  refine lv_aload_n hx hb dX1_init_42 rfl (lv_at hl 0 rfl) ?_
  refine lv_iconst (v := 4) hx hb dX1_init_43 (by decide) ?_
  refine va_newa (atype := .int) (ty := .int) (a0 := (4, .inl (fun _ => (0 : Int32)))) (N' := 4) hx hb (hts _ fl_X1_init_2) rfl hK hP hD hS hA (fun _ => rfl) (by decide) (by decide) (by decide) (Nat.le_of_ble_eq_true rfl) (Nat.le_of_ble_eq_true rfl) dX1_init_44 (fun q6_ c1 H hK1 hP hD hS => ?_)
  obtain rfl := arr_eqI hK1
  have hP : va_P D vwCl [(h0, .inr (1, [.int 0, .int 0, .int 0, .ref q1_, .ref q2_, .ref q3_, .ref q4_, .ref q5_, .null])), (q1_, .inl (cA 0, 5, .inl (fun _ => (0 : Int32)))), (q2_, .inl (cA 0, 8, .inl (fun _ => (0 : Int32)))), (q3_, .inl (cA 0, 8, .inl (fun _ => (0 : Int32)))), (q4_, .inl (cA 0, 8, .inl (fun _ => (0 : Int32)))), (q5_, .inl (cA 0, 4, .inl (fun _ => (0 : Int32)))), (q6_, .inl (cA 0, 4, .inl (fun _ => (0 : Int32))))] H := hP
  have hD : va_D A [(h0, .inr (1, [.int 0, .int 0, .int 0, .ref q1_, .ref q2_, .ref q3_, .ref q4_, .ref q5_, .null])), (q1_, .inl (cA 0, 5, .inl (fun _ => (0 : Int32)))), (q2_, .inl (cA 0, 8, .inl (fun _ => (0 : Int32)))), (q3_, .inl (cA 0, 8, .inl (fun _ => (0 : Int32)))), (q4_, .inl (cA 0, 8, .inl (fun _ => (0 : Int32)))), (q5_, .inl (cA 0, 4, .inl (fun _ => (0 : Int32)))), (q6_, .inl (cA 0, 4, .inl (fun _ => (0 : Int32))))] := hD
  refine W.widen (k := 6) (n := 37) (Nat.le_of_ble_eq_true rfl) (Nat.le_of_ble_eq_true rfl) ?_
  refine va_putF (D := D) (ci := 1) (v := .ref q6_) (ty := .array .int) (C := RX1) (T := TX1) (N := 9) hx hb hts fi_X1_init_X1 tyX1 tyX1_ok nmX1 hown hK hP hD hS 0 rfl rfl 8 (by decide) (hts _ fl_X1_init_9) (fun _ h9 => h9) rfl hin rfl (by decide +kernel) rfl rfl (Nat.le_of_ble_eq_true rfl) dX1_init_46 (fun H locs hP hD hS => ?_)
  have hP : va_P D vwCl [(h0, .inr (1, [.int 0, .int 0, .int 0, .ref q1_, .ref q2_, .ref q3_, .ref q4_, .ref q5_, .ref q6_])), (q1_, .inl (cA 0, 5, .inl (fun _ => (0 : Int32)))), (q2_, .inl (cA 0, 8, .inl (fun _ => (0 : Int32)))), (q3_, .inl (cA 0, 8, .inl (fun _ => (0 : Int32)))), (q4_, .inl (cA 0, 8, .inl (fun _ => (0 : Int32)))), (q5_, .inl (cA 0, 4, .inl (fun _ => (0 : Int32)))), (q6_, .inl (cA 0, 4, .inl (fun _ => (0 : Int32))))] H := hP
  have hD : va_D A [(h0, .inr (1, [.int 0, .int 0, .int 0, .ref q1_, .ref q2_, .ref q3_, .ref q4_, .ref q5_, .ref q6_])), (q1_, .inl (cA 0, 5, .inl (fun _ => (0 : Int32)))), (q2_, .inl (cA 0, 8, .inl (fun _ => (0 : Int32)))), (q3_, .inl (cA 0, 8, .inl (fun _ => (0 : Int32)))), (q4_, .inl (cA 0, 8, .inl (fun _ => (0 : Int32)))), (q5_, .inl (cA 0, 4, .inl (fun _ => (0 : Int32)))), (q6_, .inl (cA 0, 4, .inl (fun _ => (0 : Int32))))] := hD
  exact W.vret hx hb hr (fun t ht hW => ⟨⟨(fun k => match k with | 0 => h0 | 1 => q1_ | 2 => q2_ | 3 => q3_ | 4 => q4_ | 5 => q5_ | _ => q6_), rfl, rfl, by rw [ht]; exact hP, va_K.moved hW.alike hK, hD⟩, hS.F ht⟩) hS.2.2 dX1_init_49
theorem fl_X2_init_0 : ((.methodLink RX2 3 objectInit) : Cond) ∈ wsX2_init := by decide +kernel
theorem fl_X2_init_1 : ((.instanceMethod objectInit) : Cond) ∈ wsX2_init := by decide +kernel
theorem fl_X2_init_2 : ((.arrayClass .int) : Cond) ∈ wsX2_init := by decide +kernel
theorem fi_X2_init_X2 : ∀ w ∈ wsX20, w ∈ wsX2_init := by decide +kernel
theorem fl_X2_init_4 : ((.fieldLink RX2 9 "OrderTests$Rules" "settings" "[I") : Cond) ∈ wsX2_init := by decide +kernel
theorem fl_X2_init_5 : ((.fieldLink RX2 15 "OrderTests$Rules" "told" "[I") : Cond) ∈ wsX2_init := by decide +kernel
abbrev rm_X2_init : Room := { frames := 1, cells := 2, slots := 262, locals := 20 }
set_option maxHeartbeats 4000000 in
set_option maxRecDepth 100000 in
theorem c_X2_init (l : Launch) (D : va_G) (cA : Nat → ClassId) (h0 sz : Nat)  : Met l yX2_init wsX2_init rm_X2_init (cPre D cA sz [.ref h0] [(h0, .inr (2, [.null, .null]))]) (va_Qv (fun (u : Nat → Nat) => u 0 = h0) (cOut D cA (va_A [(h0, .inr (2, [.null, .null]))] sz) (fun (u : Nat → Nat) => sh_X2 cA u (upd (upd (upd (upd (upd (upd (fun _ => (0 : Int32)) (0 : Int32).toNatClampNeg 0) (1 : Int32).toNatClampNeg 0) (2 : Int32).toNatClampNeg 0) (3 : Int32).toNatClampNeg 1) (4 : Int32).toNatClampNeg 0) (5 : Int32).toNatClampNeg 0) (fun _ => (0 : Int32)))) (va_A [(h0, .inr (2, [.null, .null]))] sz)) 2 262 (va_A [(h0, .inr (2, [.null, .null]))] sz) := by
  refine Met.ofW (cc := cX2_init) (maxL := 1) (ret := none) (by decide) rfl ?_
  intro p e s m args below meth c s₁ B hml hv
  obtain ⟨rfl, hsz, hP, hK, hD0⟩ := hv
  have hx := B.exec
  have hb := B.bytes
  have hr := B.returns
  have hts := atoms_spec (ws := wsX2_init) B.pre
  have hown : s.vm.findClass RX2 = some m.cls := findClass_of_methodNamed B.named
  have hlocks := B.notSynchronized
  have hin : meth.name = "<init>" := (name_of_methodNamed B.named B.method).1
  subst hsz
  have hD := hD0.self (sz := s.heap.size)
  generalize hAe : va_A [(h0, .inr (2, [.null, .null]))] s.heap.size = A at hD ⊢
  have hA : ∀ q : Nat, s.heap.size ≤ q → A q := fun q h => by rw [← hAe]; exact Or.inr h
  have hS : va_S A s.heap s.heap [] := va_S.rf
  have hP : va_P D vwCl [(h0, .inr (2, [.null, .null]))] s.heap := hP
  have hl := lv_entry ([.ref h0]) (n := 1) (Nat.le_of_ble_eq_true rfl)
  rw [lg_entry_eq]
  generalize (lg_sl ([.ref h0]) ++ List.replicate (1 - (lg_sl ([.ref h0])).length) Slot.unset).toArray = ls at hl ⊢
  have hl : lv_has ls 1 [(0, .ref h0)] := hl
  refine lv_aload_n hx hb dX2_init_0 rfl (lv_at hl 0 rfl) ?_
  refine W.objInit hx hb hown (hts _ fl_X2_init_0) (hts _ fl_X2_init_1) (hts _ (List.mem_of_getElem? (l := wsX2_init) (i := 3) rfl)) rfl (by rw [hml]; exact hl.1) rfl dX2_init_1 (Nat.le_of_ble_eq_true rfl) (Nat.le_of_ble_eq_true rfl) ?_
  refine W.eq (g2 := F0 m 4 ls []) rfl ?_
  refine lv_aload_n hx hb dX2_init_4 rfl (lv_at hl 0 rfl) ?_
  refine lv_bipush (v := 6) hx hb dX2_init_5 (by decide) ?_
  refine va_newa (atype := .int) (ty := .int) (a0 := (6, .inl (fun _ => (0 : Int32)))) (N' := 6) hx hb (hts _ fl_X2_init_2) rfl hK hP hD hS hA (fun _ => rfl) (by decide) (by decide) (by decide) (Nat.le_of_ble_eq_true rfl) (Nat.le_of_ble_eq_true rfl) dX2_init_7 (fun q1_ c1 H hK1 hP hD hS => ?_)
  obtain rfl := arr_eqI hK1
  have hP : va_P D vwCl [(h0, .inr (2, [.null, .null])), (q1_, .inl (cA 0, 6, .inl (fun _ => (0 : Int32))))] H := hP
  have hD : va_D A [(h0, .inr (2, [.null, .null])), (q1_, .inl (cA 0, 6, .inl (fun _ => (0 : Int32))))] := hD
  refine W.widen (k := 1) (n := 6) (Nat.le_of_ble_eq_true rfl) (Nat.le_of_ble_eq_true rfl) ?_
  refine lv_dup hx hb dX2_init_9 rfl ?_
  refine lv_iconst (v := 0) hx hb dX2_init_10 (by decide) ?_
  refine lv_iconst (v := 0) hx hb dX2_init_11 (by decide) ?_
  refine va_iast hx hb hK hP hD hS 1 0 rfl rfl (by unfold vp_in; decide) dX2_init_12 (fun H locs hP hD hS => ?_)
  have hP : va_P D vwCl [(h0, .inr (2, [.null, .null])), (q1_, .inl (cA 0, 6, .inl (upd (fun _ => (0 : Int32)) (0 : Int32).toNatClampNeg 0)))] H := hP
  have hD : va_D A [(h0, .inr (2, [.null, .null])), (q1_, .inl (cA 0, 6, .inl (upd (fun _ => (0 : Int32)) (0 : Int32).toNatClampNeg 0)))] := hD
  refine lv_dup hx hb dX2_init_13 rfl ?_
  refine lv_iconst (v := 1) hx hb dX2_init_14 (by decide) ?_
  refine lv_iconst (v := 0) hx hb dX2_init_15 (by decide) ?_
  refine va_iast hx hb hK hP hD hS 1 0 rfl rfl (by unfold vp_in; decide) dX2_init_16 (fun H locs hP hD hS => ?_)
  have hP : va_P D vwCl [(h0, .inr (2, [.null, .null])), (q1_, .inl (cA 0, 6, .inl (upd (upd (fun _ => (0 : Int32)) (0 : Int32).toNatClampNeg 0) (1 : Int32).toNatClampNeg 0)))] H := hP
  have hD : va_D A [(h0, .inr (2, [.null, .null])), (q1_, .inl (cA 0, 6, .inl (upd (upd (fun _ => (0 : Int32)) (0 : Int32).toNatClampNeg 0) (1 : Int32).toNatClampNeg 0)))] := hD
  refine lv_dup hx hb dX2_init_17 rfl ?_
  refine lv_iconst (v := 2) hx hb dX2_init_18 (by decide) ?_
  refine lv_iconst (v := 0) hx hb dX2_init_19 (by decide) ?_
  refine va_iast hx hb hK hP hD hS 1 0 rfl rfl (by unfold vp_in; decide) dX2_init_20 (fun H locs hP hD hS => ?_)
  have hP : va_P D vwCl [(h0, .inr (2, [.null, .null])), (q1_, .inl (cA 0, 6, .inl (upd (upd (upd (fun _ => (0 : Int32)) (0 : Int32).toNatClampNeg 0) (1 : Int32).toNatClampNeg 0) (2 : Int32).toNatClampNeg 0)))] H := hP
  have hD : va_D A [(h0, .inr (2, [.null, .null])), (q1_, .inl (cA 0, 6, .inl (upd (upd (upd (fun _ => (0 : Int32)) (0 : Int32).toNatClampNeg 0) (1 : Int32).toNatClampNeg 0) (2 : Int32).toNatClampNeg 0)))] := hD
  refine lv_dup hx hb dX2_init_21 rfl ?_
  refine lv_iconst (v := 3) hx hb dX2_init_22 (by decide) ?_
  refine lv_iconst (v := 1) hx hb dX2_init_23 (by decide) ?_
  refine va_iast hx hb hK hP hD hS 1 0 rfl rfl (by unfold vp_in; decide) dX2_init_24 (fun H locs hP hD hS => ?_)
  have hP : va_P D vwCl [(h0, .inr (2, [.null, .null])), (q1_, .inl (cA 0, 6, .inl (upd (upd (upd (upd (fun _ => (0 : Int32)) (0 : Int32).toNatClampNeg 0) (1 : Int32).toNatClampNeg 0) (2 : Int32).toNatClampNeg 0) (3 : Int32).toNatClampNeg 1)))] H := hP
  have hD : va_D A [(h0, .inr (2, [.null, .null])), (q1_, .inl (cA 0, 6, .inl (upd (upd (upd (upd (fun _ => (0 : Int32)) (0 : Int32).toNatClampNeg 0) (1 : Int32).toNatClampNeg 0) (2 : Int32).toNatClampNeg 0) (3 : Int32).toNatClampNeg 1)))] := hD
  refine lv_dup hx hb dX2_init_25 rfl ?_
  refine lv_iconst (v := 4) hx hb dX2_init_26 (by decide) ?_
  refine lv_iconst (v := 0) hx hb dX2_init_27 (by decide) ?_
  refine va_iast hx hb hK hP hD hS 1 0 rfl rfl (by unfold vp_in; decide) dX2_init_28 (fun H locs hP hD hS => ?_)
  have hP : va_P D vwCl [(h0, .inr (2, [.null, .null])), (q1_, .inl (cA 0, 6, .inl (upd (upd (upd (upd (upd (fun _ => (0 : Int32)) (0 : Int32).toNatClampNeg 0) (1 : Int32).toNatClampNeg 0) (2 : Int32).toNatClampNeg 0) (3 : Int32).toNatClampNeg 1) (4 : Int32).toNatClampNeg 0)))] H := hP
  have hD : va_D A [(h0, .inr (2, [.null, .null])), (q1_, .inl (cA 0, 6, .inl (upd (upd (upd (upd (upd (fun _ => (0 : Int32)) (0 : Int32).toNatClampNeg 0) (1 : Int32).toNatClampNeg 0) (2 : Int32).toNatClampNeg 0) (3 : Int32).toNatClampNeg 1) (4 : Int32).toNatClampNeg 0)))] := hD
  refine lv_dup hx hb dX2_init_29 rfl ?_
  refine lv_iconst (v := 5) hx hb dX2_init_30 (by decide) ?_
  refine lv_iconst (v := 0) hx hb dX2_init_31 (by decide) ?_
  refine va_iast hx hb hK hP hD hS 1 0 rfl rfl (by unfold vp_in; decide) dX2_init_32 (fun H locs hP hD hS => ?_)
  have hP : va_P D vwCl [(h0, .inr (2, [.null, .null])), (q1_, .inl (cA 0, 6, .inl (upd (upd (upd (upd (upd (upd (fun _ => (0 : Int32)) (0 : Int32).toNatClampNeg 0) (1 : Int32).toNatClampNeg 0) (2 : Int32).toNatClampNeg 0) (3 : Int32).toNatClampNeg 1) (4 : Int32).toNatClampNeg 0) (5 : Int32).toNatClampNeg 0)))] H := hP
  have hD : va_D A [(h0, .inr (2, [.null, .null])), (q1_, .inl (cA 0, 6, .inl (upd (upd (upd (upd (upd (upd (fun _ => (0 : Int32)) (0 : Int32).toNatClampNeg 0) (1 : Int32).toNatClampNeg 0) (2 : Int32).toNatClampNeg 0) (3 : Int32).toNatClampNeg 1) (4 : Int32).toNatClampNeg 0) (5 : Int32).toNatClampNeg 0)))] := hD
  refine va_putF (D := D) (ci := 2) (v := .ref q1_) (ty := .array .int) (C := RX2) (T := TX2) (N := 2) hx hb hts fi_X2_init_X2 tyX2 tyX2_ok nmX2 hown hK hP hD hS 0 rfl rfl 0 (by decide) (hts _ fl_X2_init_4) (fun _ h9 => h9) rfl hin rfl (by decide +kernel) rfl rfl (Nat.le_of_ble_eq_true rfl) dX2_init_33 (fun H locs hP hD hS => ?_)
  have hP : va_P D vwCl [(h0, .inr (2, [.ref q1_, .null])), (q1_, .inl (cA 0, 6, .inl (upd (upd (upd (upd (upd (upd (fun _ => (0 : Int32)) (0 : Int32).toNatClampNeg 0) (1 : Int32).toNatClampNeg 0) (2 : Int32).toNatClampNeg 0) (3 : Int32).toNatClampNeg 1) (4 : Int32).toNatClampNeg 0) (5 : Int32).toNatClampNeg 0)))] H := hP
  have hD : va_D A [(h0, .inr (2, [.ref q1_, .null])), (q1_, .inl (cA 0, 6, .inl (upd (upd (upd (upd (upd (upd (fun _ => (0 : Int32)) (0 : Int32).toNatClampNeg 0) (1 : Int32).toNatClampNeg 0) (2 : Int32).toNatClampNeg 0) (3 : Int32).toNatClampNeg 1) (4 : Int32).toNatClampNeg 0) (5 : Int32).toNatClampNeg 0)))] := hD
  refine lv_aload_n hx hb dX2_init_36 rfl (lv_at hl 0 rfl) ?_
  refine lv_sipush (v := 256) hx hb dX2_init_37 (by decide) ?_
  refine va_newa (atype := .int) (ty := .int) (a0 := (256, .inl (fun _ => (0 : Int32)))) (N' := 256) hx hb (hts _ fl_X2_init_2) rfl hK hP hD hS hA (fun _ => rfl) (by decide) (by decide) (by decide) (Nat.le_of_ble_eq_true rfl) (Nat.le_of_ble_eq_true rfl) dX2_init_40 (fun q2_ c1 H hK1 hP hD hS => ?_)
  obtain rfl := arr_eqI hK1
  have hP : va_P D vwCl [(h0, .inr (2, [.ref q1_, .null])), (q1_, .inl (cA 0, 6, .inl (upd (upd (upd (upd (upd (upd (fun _ => (0 : Int32)) (0 : Int32).toNatClampNeg 0) (1 : Int32).toNatClampNeg 0) (2 : Int32).toNatClampNeg 0) (3 : Int32).toNatClampNeg 1) (4 : Int32).toNatClampNeg 0) (5 : Int32).toNatClampNeg 0))), (q2_, .inl (cA 0, 256, .inl (fun _ => (0 : Int32))))] H := hP
  have hD : va_D A [(h0, .inr (2, [.ref q1_, .null])), (q1_, .inl (cA 0, 6, .inl (upd (upd (upd (upd (upd (upd (fun _ => (0 : Int32)) (0 : Int32).toNatClampNeg 0) (1 : Int32).toNatClampNeg 0) (2 : Int32).toNatClampNeg 0) (3 : Int32).toNatClampNeg 1) (4 : Int32).toNatClampNeg 0) (5 : Int32).toNatClampNeg 0))), (q2_, .inl (cA 0, 256, .inl (fun _ => (0 : Int32))))] := hD
  refine W.widen (k := 2) (n := 262) (Nat.le_of_ble_eq_true rfl) (Nat.le_of_ble_eq_true rfl) ?_
  refine va_putF (D := D) (ci := 2) (v := .ref q2_) (ty := .array .int) (C := RX2) (T := TX2) (N := 2) hx hb hts fi_X2_init_X2 tyX2 tyX2_ok nmX2 hown hK hP hD hS 0 rfl rfl 1 (by decide) (hts _ fl_X2_init_5) (fun _ h9 => h9) rfl hin rfl (by decide +kernel) rfl rfl (Nat.le_of_ble_eq_true rfl) dX2_init_42 (fun H locs hP hD hS => ?_)
  have hP : va_P D vwCl [(h0, .inr (2, [.ref q1_, .ref q2_])), (q1_, .inl (cA 0, 6, .inl (upd (upd (upd (upd (upd (upd (fun _ => (0 : Int32)) (0 : Int32).toNatClampNeg 0) (1 : Int32).toNatClampNeg 0) (2 : Int32).toNatClampNeg 0) (3 : Int32).toNatClampNeg 1) (4 : Int32).toNatClampNeg 0) (5 : Int32).toNatClampNeg 0))), (q2_, .inl (cA 0, 256, .inl (fun _ => (0 : Int32))))] H := hP
  have hD : va_D A [(h0, .inr (2, [.ref q1_, .ref q2_])), (q1_, .inl (cA 0, 6, .inl (upd (upd (upd (upd (upd (upd (fun _ => (0 : Int32)) (0 : Int32).toNatClampNeg 0) (1 : Int32).toNatClampNeg 0) (2 : Int32).toNatClampNeg 0) (3 : Int32).toNatClampNeg 1) (4 : Int32).toNatClampNeg 0) (5 : Int32).toNatClampNeg 0))), (q2_, .inl (cA 0, 256, .inl (fun _ => (0 : Int32))))] := hD
  exact W.vret hx hb hr (fun t ht hW => ⟨⟨(fun k => match k with | 0 => h0 | 1 => q1_ | _ => q2_), rfl, rfl, by rw [ht]; exact hP, va_K.moved hW.alike hK, hD⟩, hS.F ht⟩) hS.2.2 dX2_init_45
theorem fl_X4_init_0 : ((.methodLink RX4 5 objectInit) : Cond) ∈ wsX4_init := by decide +kernel
theorem fl_X4_init_1 : ((.instanceMethod objectInit) : Cond) ∈ wsX4_init := by decide +kernel
theorem fl_X4_init_2 : ((.arrayClass .long) : Cond) ∈ wsX4_init := by decide +kernel
theorem fi_X4_init_X4 : ∀ w ∈ wsX40, w ∈ wsX4_init := by decide +kernel
theorem fl_X4_init_4 : ((.fieldLink RX4 11 "OrderTests$State" "rows" "[J") : Cond) ∈ wsX4_init := by decide +kernel
abbrev rm_X4_init : Room := { frames := 1, cells := 1, slots := 8, locals := 20 }
set_option maxHeartbeats 4000000 in
set_option maxRecDepth 100000 in
theorem c_X4_init (l : Launch) (D : va_G) (cA : Nat → ClassId) (h0 sz : Nat)  : Met l yX4_init wsX4_init rm_X4_init (cPre D cA sz [.ref h0] [(h0, .inr (4, [.long 0, .long 0, .null]))]) (va_Qv (fun (u : Nat → Nat) => u 0 = h0) (cOut D cA (va_A [(h0, .inr (4, [.long 0, .long 0, .null]))] sz) (fun (u : Nat → Nat) => sh_X4 cA u 0 0 (fun _ => (0 : Int64)))) (va_A [(h0, .inr (4, [.long 0, .long 0, .null]))] sz)) 1 8 (va_A [(h0, .inr (4, [.long 0, .long 0, .null]))] sz) := by
  refine Met.ofW (cc := cX4_init) (maxL := 1) (ret := none) (by decide) rfl ?_
  intro p e s m args below meth c s₁ B hml hv
  obtain ⟨rfl, hsz, hP, hK, hD0⟩ := hv
  have hx := B.exec
  have hb := B.bytes
  have hr := B.returns
  have hts := atoms_spec (ws := wsX4_init) B.pre
  have hown : s.vm.findClass RX4 = some m.cls := findClass_of_methodNamed B.named
  have hlocks := B.notSynchronized
  have hin : meth.name = "<init>" := (name_of_methodNamed B.named B.method).1
  subst hsz
  have hD := hD0.self (sz := s.heap.size)
  generalize hAe : va_A [(h0, .inr (4, [.long 0, .long 0, .null]))] s.heap.size = A at hD ⊢
  have hA : ∀ q : Nat, s.heap.size ≤ q → A q := fun q h => by rw [← hAe]; exact Or.inr h
  have hS : va_S A s.heap s.heap [] := va_S.rf
  have hP : va_P D vwCl [(h0, .inr (4, [.long 0, .long 0, .null]))] s.heap := hP
  have hl := lv_entry ([.ref h0]) (n := 1) (Nat.le_of_ble_eq_true rfl)
  rw [lg_entry_eq]
  generalize (lg_sl ([.ref h0]) ++ List.replicate (1 - (lg_sl ([.ref h0])).length) Slot.unset).toArray = ls at hl ⊢
  have hl : lv_has ls 1 [(0, .ref h0)] := hl
  refine lv_aload_n hx hb dX4_init_0 rfl (lv_at hl 0 rfl) ?_
  refine W.objInit hx hb hown (hts _ fl_X4_init_0) (hts _ fl_X4_init_1) (hts _ (List.mem_of_getElem? (l := wsX4_init) (i := 3) rfl)) rfl (by rw [hml]; exact hl.1) rfl dX4_init_1 (Nat.le_of_ble_eq_true rfl) (Nat.le_of_ble_eq_true rfl) ?_
  refine W.eq (g2 := F0 m 4 ls []) rfl ?_
  refine lv_aload_n hx hb dX4_init_4 rfl (lv_at hl 0 rfl) ?_
  refine lv_bipush (v := 8) hx hb dX4_init_5 (by decide) ?_
  refine va_newa (atype := .long) (ty := .long) (a0 := (8, .inr (.inl (fun _ => (0 : Int64))))) (N' := 8) hx hb (hts _ fl_X4_init_2) rfl hK hP hD hS hA (fun _ => rfl) (by decide) (by decide) (by decide) (Nat.le_of_ble_eq_true rfl) (Nat.le_of_ble_eq_true rfl) dX4_init_7 (fun q1_ c1 H hK1 hP hD hS => ?_)
  obtain rfl := arr_eqJ hK1
  have hP : va_P D vwCl [(h0, .inr (4, [.long 0, .long 0, .null])), (q1_, .inl (cA 1, 8, .inr (.inl (fun _ => (0 : Int64)))))] H := hP
  have hD : va_D A [(h0, .inr (4, [.long 0, .long 0, .null])), (q1_, .inl (cA 1, 8, .inr (.inl (fun _ => (0 : Int64)))))] := hD
  refine W.widen (k := 1) (n := 8) (Nat.le_of_ble_eq_true rfl) (Nat.le_of_ble_eq_true rfl) ?_
  refine va_putF (D := D) (ci := 4) (v := .ref q1_) (ty := .array .long) (C := RX4) (T := TX4) (N := 3) hx hb hts fi_X4_init_X4 tyX4 tyX4_ok nmX4 hown hK hP hD hS 0 rfl rfl 2 (by decide) (hts _ fl_X4_init_4) (fun _ h9 => h9) rfl hin rfl (by decide +kernel) rfl rfl (Nat.le_of_ble_eq_true rfl) dX4_init_9 (fun H locs hP hD hS => ?_)
  have hP : va_P D vwCl [(h0, .inr (4, [.long 0, .long 0, .ref q1_])), (q1_, .inl (cA 1, 8, .inr (.inl (fun _ => (0 : Int64)))))] H := hP
  have hD : va_D A [(h0, .inr (4, [.long 0, .long 0, .ref q1_])), (q1_, .inl (cA 1, 8, .inr (.inl (fun _ => (0 : Int64)))))] := hD
  exact W.vret hx hb hr (fun t ht hW => ⟨⟨(fun k => match k with | 0 => h0 | _ => q1_), rfl, rfl, by rw [ht]; exact hP, va_K.moved hW.alike hK, hD⟩, hS.F ht⟩) hS.2.2 dX4_init_12
theorem fl_X5_init_0 : ((.methodLink RX5 3 objectInit) : Cond) ∈ wsX5_init := by decide +kernel
theorem fl_X5_init_1 : ((.instanceMethod objectInit) : Cond) ∈ wsX5_init := by decide +kernel
theorem fl_X5_init_2 : ((.arrayClass .long) : Cond) ∈ wsX5_init := by decide +kernel
theorem fi_X5_init_X5 : ∀ w ∈ wsX50, w ∈ wsX5_init := by decide +kernel
theorem fl_X5_init_4 : ((.fieldLink RX5 9 "OrderTests$States" "heads" "[J") : Cond) ∈ wsX5_init := by decide +kernel
theorem fl_X5_init_5 : ((.fieldLink RX5 15 "OrderTests$States" "lengths" "[J") : Cond) ∈ wsX5_init := by decide +kernel
theorem fl_X5_init_6 : ((.fieldLink RX5 18 "OrderTests$States" "rows" "[J") : Cond) ∈ wsX5_init := by decide +kernel
theorem fl_X5_init_7 : ((.arrayClass .int) : Cond) ∈ wsX5_init := by decide +kernel
theorem fl_X5_init_8 : ((.fieldLink RX5 21 "OrderTests$States" "slots" "[I") : Cond) ∈ wsX5_init := by decide +kernel
abbrev rm_X5_init : Room := { frames := 1, cells := 4, slots := 7024, locals := 20 }
set_option maxHeartbeats 4000000 in
set_option maxRecDepth 100000 in
theorem c_X5_init (l : Launch) (D : va_G) (cA : Nat → ClassId) (h0 sz : Nat)  : Met l yX5_init wsX5_init rm_X5_init (cPre D cA sz [.ref h0] [(h0, .inr (5, [.int 0, .null, .null, .null, .null]))]) (va_Qv (fun (u : Nat → Nat) => u 0 = h0) (cOut D cA (va_A [(h0, .inr (5, [.int 0, .null, .null, .null, .null]))] sz) (fun (u : Nat → Nat) => sh_X5 cA u 0 (fun _ => (0 : Int64)) (fun _ => (0 : Int64)) (fun _ => (0 : Int64)) (fun _ => (0 : Int32)))) (va_A [(h0, .inr (5, [.int 0, .null, .null, .null, .null]))] sz)) 4 7024 (va_A [(h0, .inr (5, [.int 0, .null, .null, .null, .null]))] sz) := by
  refine Met.ofW (cc := cX5_init) (maxL := 1) (ret := none) (by decide) rfl ?_
  intro p e s m args below meth c s₁ B hml hv
  obtain ⟨rfl, hsz, hP, hK, hD0⟩ := hv
  have hx := B.exec
  have hb := B.bytes
  have hr := B.returns
  have hts := atoms_spec (ws := wsX5_init) B.pre
  have hown : s.vm.findClass RX5 = some m.cls := findClass_of_methodNamed B.named
  have hlocks := B.notSynchronized
  have hin : meth.name = "<init>" := (name_of_methodNamed B.named B.method).1
  subst hsz
  have hD := hD0.self (sz := s.heap.size)
  generalize hAe : va_A [(h0, .inr (5, [.int 0, .null, .null, .null, .null]))] s.heap.size = A at hD ⊢
  have hA : ∀ q : Nat, s.heap.size ≤ q → A q := fun q h => by rw [← hAe]; exact Or.inr h
  have hS : va_S A s.heap s.heap [] := va_S.rf
  have hP : va_P D vwCl [(h0, .inr (5, [.int 0, .null, .null, .null, .null]))] s.heap := hP
  have hl := lv_entry ([.ref h0]) (n := 1) (Nat.le_of_ble_eq_true rfl)
  rw [lg_entry_eq]
  generalize (lg_sl ([.ref h0]) ++ List.replicate (1 - (lg_sl ([.ref h0])).length) Slot.unset).toArray = ls at hl ⊢
  have hl : lv_has ls 1 [(0, .ref h0)] := hl
  refine lv_aload_n hx hb dX5_init_0 rfl (lv_at hl 0 rfl) ?_
  refine W.objInit hx hb hown (hts _ fl_X5_init_0) (hts _ fl_X5_init_1) (hts _ (List.mem_of_getElem? (l := wsX5_init) (i := 3) rfl)) rfl (by rw [hml]; exact hl.1) rfl dX5_init_1 (Nat.le_of_ble_eq_true rfl) (Nat.le_of_ble_eq_true rfl) ?_
  refine W.eq (g2 := F0 m 4 ls []) rfl ?_
  refine lv_aload_n hx hb dX5_init_4 rfl (lv_at hl 0 rfl) ?_
  refine lv_sipush (v := 600) hx hb dX5_init_5 (by decide) ?_
  refine va_newa (atype := .long) (ty := .long) (a0 := (600, .inr (.inl (fun _ => (0 : Int64))))) (N' := 600) hx hb (hts _ fl_X5_init_2) rfl hK hP hD hS hA (fun _ => rfl) (by decide) (by decide) (by decide) (Nat.le_of_ble_eq_true rfl) (Nat.le_of_ble_eq_true rfl) dX5_init_8 (fun q1_ c1 H hK1 hP hD hS => ?_)
  obtain rfl := arr_eqJ hK1
  have hP : va_P D vwCl [(h0, .inr (5, [.int 0, .null, .null, .null, .null])), (q1_, .inl (cA 1, 600, .inr (.inl (fun _ => (0 : Int64)))))] H := hP
  have hD : va_D A [(h0, .inr (5, [.int 0, .null, .null, .null, .null])), (q1_, .inl (cA 1, 600, .inr (.inl (fun _ => (0 : Int64)))))] := hD
  refine W.widen (k := 1) (n := 600) (Nat.le_of_ble_eq_true rfl) (Nat.le_of_ble_eq_true rfl) ?_
  refine va_putF (D := D) (ci := 5) (v := .ref q1_) (ty := .array .long) (C := RX5) (T := TX5) (N := 5) hx hb hts fi_X5_init_X5 tyX5 tyX5_ok nmX5 hown hK hP hD hS 0 rfl rfl 1 (by decide) (hts _ fl_X5_init_4) (fun _ h9 => h9) rfl hin rfl (by decide +kernel) rfl rfl (Nat.le_of_ble_eq_true rfl) dX5_init_10 (fun H locs hP hD hS => ?_)
  have hP : va_P D vwCl [(h0, .inr (5, [.int 0, .ref q1_, .null, .null, .null])), (q1_, .inl (cA 1, 600, .inr (.inl (fun _ => (0 : Int64)))))] H := hP
  have hD : va_D A [(h0, .inr (5, [.int 0, .ref q1_, .null, .null, .null])), (q1_, .inl (cA 1, 600, .inr (.inl (fun _ => (0 : Int64)))))] := hD
  refine lv_aload_n hx hb dX5_init_13 rfl (lv_at hl 0 rfl) ?_
  refine lv_sipush (v := 600) hx hb dX5_init_14 (by decide) ?_
  refine va_newa (atype := .long) (ty := .long) (a0 := (600, .inr (.inl (fun _ => (0 : Int64))))) (N' := 600) hx hb (hts _ fl_X5_init_2) rfl hK hP hD hS hA (fun _ => rfl) (by decide) (by decide) (by decide) (Nat.le_of_ble_eq_true rfl) (Nat.le_of_ble_eq_true rfl) dX5_init_17 (fun q2_ c1 H hK1 hP hD hS => ?_)
  obtain rfl := arr_eqJ hK1
  have hP : va_P D vwCl [(h0, .inr (5, [.int 0, .ref q1_, .null, .null, .null])), (q1_, .inl (cA 1, 600, .inr (.inl (fun _ => (0 : Int64))))), (q2_, .inl (cA 1, 600, .inr (.inl (fun _ => (0 : Int64)))))] H := hP
  have hD : va_D A [(h0, .inr (5, [.int 0, .ref q1_, .null, .null, .null])), (q1_, .inl (cA 1, 600, .inr (.inl (fun _ => (0 : Int64))))), (q2_, .inl (cA 1, 600, .inr (.inl (fun _ => (0 : Int64)))))] := hD
  refine W.widen (k := 2) (n := 1200) (Nat.le_of_ble_eq_true rfl) (Nat.le_of_ble_eq_true rfl) ?_
  refine va_putF (D := D) (ci := 5) (v := .ref q2_) (ty := .array .long) (C := RX5) (T := TX5) (N := 5) hx hb hts fi_X5_init_X5 tyX5 tyX5_ok nmX5 hown hK hP hD hS 0 rfl rfl 2 (by decide) (hts _ fl_X5_init_5) (fun _ h9 => h9) rfl hin rfl (by decide +kernel) rfl rfl (Nat.le_of_ble_eq_true rfl) dX5_init_19 (fun H locs hP hD hS => ?_)
  have hP : va_P D vwCl [(h0, .inr (5, [.int 0, .ref q1_, .ref q2_, .null, .null])), (q1_, .inl (cA 1, 600, .inr (.inl (fun _ => (0 : Int64))))), (q2_, .inl (cA 1, 600, .inr (.inl (fun _ => (0 : Int64)))))] H := hP
  have hD : va_D A [(h0, .inr (5, [.int 0, .ref q1_, .ref q2_, .null, .null])), (q1_, .inl (cA 1, 600, .inr (.inl (fun _ => (0 : Int64))))), (q2_, .inl (cA 1, 600, .inr (.inl (fun _ => (0 : Int64)))))] := hD
  refine lv_aload_n hx hb dX5_init_22 rfl (lv_at hl 0 rfl) ?_
  refine lv_sipush (v := 4800) hx hb dX5_init_23 (by decide) ?_
  refine va_newa (atype := .long) (ty := .long) (a0 := (4800, .inr (.inl (fun _ => (0 : Int64))))) (N' := 4800) hx hb (hts _ fl_X5_init_2) rfl hK hP hD hS hA (fun _ => rfl) (by decide) (by decide) (by decide) (Nat.le_of_ble_eq_true rfl) (Nat.le_of_ble_eq_true rfl) dX5_init_26 (fun q3_ c1 H hK1 hP hD hS => ?_)
  obtain rfl := arr_eqJ hK1
  have hP : va_P D vwCl [(h0, .inr (5, [.int 0, .ref q1_, .ref q2_, .null, .null])), (q1_, .inl (cA 1, 600, .inr (.inl (fun _ => (0 : Int64))))), (q2_, .inl (cA 1, 600, .inr (.inl (fun _ => (0 : Int64))))), (q3_, .inl (cA 1, 4800, .inr (.inl (fun _ => (0 : Int64)))))] H := hP
  have hD : va_D A [(h0, .inr (5, [.int 0, .ref q1_, .ref q2_, .null, .null])), (q1_, .inl (cA 1, 600, .inr (.inl (fun _ => (0 : Int64))))), (q2_, .inl (cA 1, 600, .inr (.inl (fun _ => (0 : Int64))))), (q3_, .inl (cA 1, 4800, .inr (.inl (fun _ => (0 : Int64)))))] := hD
  refine W.widen (k := 3) (n := 6000) (Nat.le_of_ble_eq_true rfl) (Nat.le_of_ble_eq_true rfl) ?_
  refine va_putF (D := D) (ci := 5) (v := .ref q3_) (ty := .array .long) (C := RX5) (T := TX5) (N := 5) hx hb hts fi_X5_init_X5 tyX5 tyX5_ok nmX5 hown hK hP hD hS 0 rfl rfl 3 (by decide) (hts _ fl_X5_init_6) (fun _ h9 => h9) rfl hin rfl (by decide +kernel) rfl rfl (Nat.le_of_ble_eq_true rfl) dX5_init_28 (fun H locs hP hD hS => ?_)
  have hP : va_P D vwCl [(h0, .inr (5, [.int 0, .ref q1_, .ref q2_, .ref q3_, .null])), (q1_, .inl (cA 1, 600, .inr (.inl (fun _ => (0 : Int64))))), (q2_, .inl (cA 1, 600, .inr (.inl (fun _ => (0 : Int64))))), (q3_, .inl (cA 1, 4800, .inr (.inl (fun _ => (0 : Int64)))))] H := hP
  have hD : va_D A [(h0, .inr (5, [.int 0, .ref q1_, .ref q2_, .ref q3_, .null])), (q1_, .inl (cA 1, 600, .inr (.inl (fun _ => (0 : Int64))))), (q2_, .inl (cA 1, 600, .inr (.inl (fun _ => (0 : Int64))))), (q3_, .inl (cA 1, 4800, .inr (.inl (fun _ => (0 : Int64)))))] := hD
  refine lv_aload_n hx hb dX5_init_31 rfl (lv_at hl 0 rfl) ?_
  refine lv_sipush (v := 1024) hx hb dX5_init_32 (by decide) ?_
  refine va_newa (atype := .int) (ty := .int) (a0 := (1024, .inl (fun _ => (0 : Int32)))) (N' := 1024) hx hb (hts _ fl_X5_init_7) rfl hK hP hD hS hA (fun _ => rfl) (by decide) (by decide) (by decide) (Nat.le_of_ble_eq_true rfl) (Nat.le_of_ble_eq_true rfl) dX5_init_35 (fun q4_ c1 H hK1 hP hD hS => ?_)
  obtain rfl := arr_eqI hK1
  have hP : va_P D vwCl [(h0, .inr (5, [.int 0, .ref q1_, .ref q2_, .ref q3_, .null])), (q1_, .inl (cA 1, 600, .inr (.inl (fun _ => (0 : Int64))))), (q2_, .inl (cA 1, 600, .inr (.inl (fun _ => (0 : Int64))))), (q3_, .inl (cA 1, 4800, .inr (.inl (fun _ => (0 : Int64))))), (q4_, .inl (cA 0, 1024, .inl (fun _ => (0 : Int32))))] H := hP
  have hD : va_D A [(h0, .inr (5, [.int 0, .ref q1_, .ref q2_, .ref q3_, .null])), (q1_, .inl (cA 1, 600, .inr (.inl (fun _ => (0 : Int64))))), (q2_, .inl (cA 1, 600, .inr (.inl (fun _ => (0 : Int64))))), (q3_, .inl (cA 1, 4800, .inr (.inl (fun _ => (0 : Int64))))), (q4_, .inl (cA 0, 1024, .inl (fun _ => (0 : Int32))))] := hD
  refine W.widen (k := 4) (n := 7024) (Nat.le_of_ble_eq_true rfl) (Nat.le_of_ble_eq_true rfl) ?_
  refine va_putF (D := D) (ci := 5) (v := .ref q4_) (ty := .array .int) (C := RX5) (T := TX5) (N := 5) hx hb hts fi_X5_init_X5 tyX5 tyX5_ok nmX5 hown hK hP hD hS 0 rfl rfl 4 (by decide) (hts _ fl_X5_init_8) (fun _ h9 => h9) rfl hin rfl (by decide +kernel) rfl rfl (Nat.le_of_ble_eq_true rfl) dX5_init_37 (fun H locs hP hD hS => ?_)
  have hP : va_P D vwCl [(h0, .inr (5, [.int 0, .ref q1_, .ref q2_, .ref q3_, .ref q4_])), (q1_, .inl (cA 1, 600, .inr (.inl (fun _ => (0 : Int64))))), (q2_, .inl (cA 1, 600, .inr (.inl (fun _ => (0 : Int64))))), (q3_, .inl (cA 1, 4800, .inr (.inl (fun _ => (0 : Int64))))), (q4_, .inl (cA 0, 1024, .inl (fun _ => (0 : Int32))))] H := hP
  have hD : va_D A [(h0, .inr (5, [.int 0, .ref q1_, .ref q2_, .ref q3_, .ref q4_])), (q1_, .inl (cA 1, 600, .inr (.inl (fun _ => (0 : Int64))))), (q2_, .inl (cA 1, 600, .inr (.inl (fun _ => (0 : Int64))))), (q3_, .inl (cA 1, 4800, .inr (.inl (fun _ => (0 : Int64))))), (q4_, .inl (cA 0, 1024, .inl (fun _ => (0 : Int32))))] := hD
  exact W.vret hx hb hr (fun t ht hW => ⟨⟨(fun k => match k with | 0 => h0 | 1 => q1_ | 2 => q2_ | 3 => q3_ | _ => q4_), rfl, rfl, by rw [ht]; exact hP, va_K.moved hW.alike hK, hD⟩, hS.F ht⟩) hS.2.2 dX5_init_40
