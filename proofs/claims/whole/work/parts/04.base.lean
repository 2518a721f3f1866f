/-! my own layer: a method's contract over a world, and calls in one row -/
abbrev tyL (cA : Nat → ClassId) : List (ClassId × FieldType) := [(cA 0, .int), (cA 1, .long), (cA 2, .byte)]
abbrev cPre (D : va_G) (cA : Nat → ClassId) (sz : Nat) (av : List Value) (ws : va_W) : Array Value → State → Prop := va_Pc av (fun U => U.heap.size = sz ∧ va_P D vwCl ws U.heap ∧ va_K D vwCl (tyL cA) U ∧ va_D (fun _ => True) ws)
abbrev cOut {S : Type} (D : va_G) (cA : Nat → ClassId) (A : Nat → Prop) (w1 : S → va_W) : S → State → Prop := fun u t => va_P D vwCl (w1 u) t.heap ∧ va_K D vwCl (tyL cA) t ∧ va_D A (w1 u)
def cxm (own : String) (cc : ByteArray) (nL : Nat) (ret : Option FieldType) (ws : List Cond) (p : Program) (s : State) (m : MethodId) (args : Array Value) (meth : Method) (c : Code) : Prop := p.tables.exec = Jvm.exec ∧ c.code = cc ∧ meth.sig.returnType = ret ∧ (∀ w ∈ ws, w.before args s = true) ∧ s.vm.findClass own = some m.cls ∧ meth.locks = false ∧ c.maxLocals = nL
theorem fm_of {ws ws' : va_W} {is : List Nat} (h : is.map (fun i => ws[i]?) = ws'.map some) : is.filterMap (fun i => ws[i]?) = ws' := by
  induction is generalizing ws' with
  | nil => cases ws' <;> simp_all
  | cons i is ih =>
    cases ws' with
    | nil => simp at h
    | cons w ws' =>
      simp only [List.map_cons, List.cons.injEq] at h
      rw [List.filterMap_cons, h.1, ih h.2]
theorem cPre_blind {D : va_G} {cA : Nat → ClassId} {sz : Nat} {av : List Value} {ws : va_W} : FrameBlind (cPre D cA sz av ws) := fun a U g mk q => by
  obtain ⟨q0, q1, qP, qK, qD⟩ := q
  exact ⟨q0, q1, qP, va_K.moved (u := U) (U := U.calling g mk a) (Vm.Alike.refl U.vm) qK, qD⟩
section CB
variable {p : Program} {l : Launch} {e : Env} {R : Room} {s : State} {m : MethodId} {args : Array Value} {below : List Frame} {meth : Method} {c : Code} {H : Heap} {locs : List Loc} {cells slots : Nat} {Q : State → Prop}
variable {pc : Nat} {ls : Array Slot} {rest st0 As : List Value} {a : Array Value} {A : Nat → Prop} {H0 : Heap} {D : va_G} {cA : Nat → ClassId} {ws wc wr : va_W}
variable {y : MethodName} {bytes cc : ByteArray} {maxL nL n index ci N : Nat} {T : u_T} {ret : Option FieldType} {w Ts : List Cond} {rm : Room} {own Cn : String} {b : Addr} {fs : List Value}
theorem cB_i {S : Type} {post : Int32 → S → Prop} {w1 w2 : S → va_W} (hr : va_Run p l e R s m args below meth c H locs cells slots 0 0 (F0 m pc ls st0) rest (va_Qi post (cOut D cA (va_A wc H.size) w1) (va_A wc H.size) a) (va_A wc H.size))
    (hP : va_P D vwCl ws H) (hD : va_D A ws) (hS : va_S A H0 H locs) (hA : ∀ q, H0.size ≤ q → A q) (isC isR pm : List Nat) (hC : isC.map (fun i => ws[i]?) = wc.map some) (hR : isR.map (fun i => ws[i]?) = wr.map some) (hn : va_nd isR = true) (hdis : ∀ i ∈ isR, i ∉ isC) (hpm : va_nd pm = true) (hw2 : ∀ u, pm.map (fun i => (wr ++ w1 u)[i]?) = (w2 u).map some)
    (kk : ∀ (r : Int32) (u : S) (H1 : Heap) (locs1 : List Loc), post r u → va_P D vwCl (w2 u) H1 → va_D A (w2 u) → va_S A H0 H1 locs1 → W p l e R s m args below meth c H1 locs1 cells slots Q (F0 m (pc + 3) ls (.int r :: rest))) : W p l e R s m args below meth c H locs cells slots Q (F0 m pc ls st0) := by
  have hF := va_free (wc := wc) hD hS hA isC hC
  refine va_calli hr hS (fun q _ h => hF q h) hF (fun r u t H1 locs1 ht hvm hp hB hz hk hS1 => ?_)
  obtain ⟨hP1, hK1, hD1⟩ := hB
  rw [ht] at hP1
  obtain ⟨hP2, hD2⟩ := va_join hP hD isC isR hC hR hn hdis hk hF hP1 hD1
  exact kk r u H1 locs1 hp (hP2.sub pm (fm_of (hw2 u))) (hD2.sub pm hpm (hw2 u)) hS1
theorem cB_v {S : Type} {post : S → Prop} {w1 w2 : S → va_W} (hr : va_Run p l e R s m args below meth c H locs cells slots 0 0 (F0 m pc ls st0) rest (va_Qv post (cOut D cA (va_A wc H.size) w1) (va_A wc H.size) a) (va_A wc H.size))
    (hP : va_P D vwCl ws H) (hD : va_D A ws) (hS : va_S A H0 H locs) (hA : ∀ q, H0.size ≤ q → A q) (isC isR pm : List Nat) (hC : isC.map (fun i => ws[i]?) = wc.map some) (hR : isR.map (fun i => ws[i]?) = wr.map some) (hn : va_nd isR = true) (hdis : ∀ i ∈ isR, i ∉ isC) (hpm : va_nd pm = true) (hw2 : ∀ u, pm.map (fun i => (wr ++ w1 u)[i]?) = (w2 u).map some)
    (kk : ∀ (u : S) (H1 : Heap) (locs1 : List Loc), post u → va_P D vwCl (w2 u) H1 → va_D A (w2 u) → va_S A H0 H1 locs1 → W p l e R s m args below meth c H1 locs1 cells slots Q (F0 m (pc + 3) ls rest)) : W p l e R s m args below meth c H locs cells slots Q (F0 m pc ls st0) := by
  have hF := va_free (wc := wc) hD hS hA isC hC
  refine va_callv hr hS (fun q _ h => hF q h) hF (fun u t H1 locs1 ht hvm hp hB hz hk hS1 => ?_)
  obtain ⟨hP1, hK1, hD1⟩ := hB
  rw [ht] at hP1
  obtain ⟨hP2, hD2⟩ := va_join hP hD isC isR hC hR hn hdis hk hF hP1 hD1
  exact kk u H1 locs1 hp (hP2.sub pm (fm_of (hw2 u))) (hD2.sub pm hpm (hw2 u)) hS1
theorem cPreV (hK : va_K D vwCl (tyL cA) s) (hP : va_P D vwCl wc H) (hD : va_D A wc) (hb0 : wc[0]? = some (b, .inr (ci, fs))) (hci : vwCl[ci]? = some (Cn, T, N)) : PreV s H Cn b (cPre D cA H.size (.ref b :: As) wc) As :=
  ⟨cPre_blind, va_recv hK hP hci hb0, fun U hU hW => ⟨rfl, by rw [hU], by rw [hU]; exact hP, va_K.moved hW.alike hK, hD.weaken (fun _ _ _ _ => trivial)⟩⟩
theorem cPreS (hK : va_K D vwCl (tyL cA) s) (hP : va_P D vwCl wc H) (hD : va_D A wc) : PreS s H (cPre D cA H.size As wc) As :=
  ⟨cPre_blind, fun U hU hW => ⟨rfl, by rw [hU], by rw [hU]; exact hP, va_K.moved hW.alike hK, hD.weaken (fun _ _ _ _ => trivial)⟩⟩
theorem nd_of {is : List Nat} {w1 : va_W} (hD : va_D A ws) (hP : va_P D vwCl ws H) (hC : is.map (fun i => ws[i]?) = w1.map some) (hn : va_nd is = true) : va_P D vwCl w1 H ∧ va_D A w1 := ⟨hP.sub is (fm_of hC), hD.sub is hn hC⟩
theorem cV_i {S : Type} {post : Int32 → S → Prop} {w1 w2 : S → va_W} (C : CallFix p m c cc nL s args Ts own) (hM : Met l y w rm (cPre D cA H.size (.ref b :: As) wc) (va_Qi post (cOut D cA (va_A wc H.size) w1) (va_A wc H.size)) 0 0 (va_A wc H.size)) (cw : CallW R s args own Cn index y bytes maxL ret w rm 0 0 n)
    (hK : va_K D vwCl (tyL cA) s) (hP : va_P D vwCl ws H) (hD : va_D A ws) (hS : va_S A H0 H locs) (hA : ∀ q, H0.size ≤ q → A q) (isC isR pm : List Nat) (hC : isC.map (fun i => ws[i]?) = wc.map some) (hR : isR.map (fun i => ws[i]?) = wr.map some) (hn : va_nd isR = true) (hnC : va_nd isC = true) (hdis : ∀ i ∈ isR, i ∉ isC) (hpm : va_nd pm = true) (hw2 : ∀ u, pm.map (fun i => (wr ++ w1 u)[i]?) = (w2 u).map some)
    (hb0 : wc[0]? = some (b, .inr (ci, fs))) (hci : vwCl[ci]? = some (Cn, T, N)) (hnn : As.length = n) (hsize : ls.size = nL) (hst : st0 = As.reverse ++ .ref b :: rest) (hroom : (rest.map fun v => v.category).sum ≤ 8) (hdg : decode cc pc = .ok (.invokevirtual index, 3)) (hf : cells ≤ R.cells ∧ slots ≤ R.slots)
    (kk : ∀ (r : Int32) (u : S) (H1 : Heap) (locs1 : List Loc), post r u → va_P D vwCl (w2 u) H1 → va_D A (w2 u) → va_S A H0 H1 locs1 → W p l e R s m args below meth c H1 locs1 cells slots Q (F0 m (pc + 3) ls (.int r :: rest))) : W p l e R s m args below meth c H locs cells slots Q (F0 m pc ls st0) := by
  obtain ⟨hPc, hDc⟩ := nd_of hD hP hC hnC
  exact cB_i (va_runV (rest := rest) C hM cw (cPreV hK hPc hDc hb0 hci) rfl hnn hsize hst (lv_room hroom) hdg hf) hP hD hS hA isC isR pm hC hR hn hdis hpm hw2 kk
theorem cV_v {S : Type} {post : S → Prop} {w1 w2 : S → va_W} (C : CallFix p m c cc nL s args Ts own) (hM : Met l y w rm (cPre D cA H.size (.ref b :: As) wc) (va_Qv post (cOut D cA (va_A wc H.size) w1) (va_A wc H.size)) 0 0 (va_A wc H.size)) (cw : CallW R s args own Cn index y bytes maxL ret w rm 0 0 n)
    (hK : va_K D vwCl (tyL cA) s) (hP : va_P D vwCl ws H) (hD : va_D A ws) (hS : va_S A H0 H locs) (hA : ∀ q, H0.size ≤ q → A q) (isC isR pm : List Nat) (hC : isC.map (fun i => ws[i]?) = wc.map some) (hR : isR.map (fun i => ws[i]?) = wr.map some) (hn : va_nd isR = true) (hnC : va_nd isC = true) (hdis : ∀ i ∈ isR, i ∉ isC) (hpm : va_nd pm = true) (hw2 : ∀ u, pm.map (fun i => (wr ++ w1 u)[i]?) = (w2 u).map some)
    (hb0 : wc[0]? = some (b, .inr (ci, fs))) (hci : vwCl[ci]? = some (Cn, T, N)) (hnn : As.length = n) (hsize : ls.size = nL) (hst : st0 = As.reverse ++ .ref b :: rest) (hroom : (rest.map fun v => v.category).sum ≤ 8) (hdg : decode cc pc = .ok (.invokevirtual index, 3)) (hf : cells ≤ R.cells ∧ slots ≤ R.slots)
    (kk : ∀ (u : S) (H1 : Heap) (locs1 : List Loc), post u → va_P D vwCl (w2 u) H1 → va_D A (w2 u) → va_S A H0 H1 locs1 → W p l e R s m args below meth c H1 locs1 cells slots Q (F0 m (pc + 3) ls rest)) : W p l e R s m args below meth c H locs cells slots Q (F0 m pc ls st0) := by
  obtain ⟨hPc, hDc⟩ := nd_of hD hP hC hnC
  exact cB_v (va_runV (rest := rest) C hM cw (cPreV hK hPc hDc hb0 hci) rfl hnn hsize hst (lv_room hroom) hdg hf) hP hD hS hA isC isR pm hC hR hn hdis hpm hw2 kk
theorem cS_i {S : Type} {post : Int32 → S → Prop} {w1 w2 : S → va_W} (C : CallFix p m c cc nL s args Ts own) (hM : Met l y w rm (cPre D cA H.size As wc) (va_Qi post (cOut D cA (va_A wc H.size) w1) (va_A wc H.size)) 0 0 (va_A wc H.size)) (cw : CallB R s args own index y bytes maxL ret w rm 0 0 n ∧ (Cond.static y).before args s = true)
    (hK : va_K D vwCl (tyL cA) s) (hP : va_P D vwCl ws H) (hD : va_D A ws) (hS : va_S A H0 H locs) (hA : ∀ q, H0.size ≤ q → A q) (isC isR pm : List Nat) (hC : isC.map (fun i => ws[i]?) = wc.map some) (hR : isR.map (fun i => ws[i]?) = wr.map some) (hn : va_nd isR = true) (hnC : va_nd isC = true) (hdis : ∀ i ∈ isR, i ∉ isC) (hpm : va_nd pm = true) (hw2 : ∀ u, pm.map (fun i => (wr ++ w1 u)[i]?) = (w2 u).map some)
    (hnn : As.length = n) (hsize : ls.size = nL) (hst : st0 = As.reverse ++ rest) (hroom : (rest.map fun v => v.category).sum ≤ 8) (hdg : decode cc pc = .ok (.invokestatic index, 3)) (hf : cells ≤ R.cells ∧ slots ≤ R.slots)
    (kk : ∀ (r : Int32) (u : S) (H1 : Heap) (locs1 : List Loc), post r u → va_P D vwCl (w2 u) H1 → va_D A (w2 u) → va_S A H0 H1 locs1 → W p l e R s m args below meth c H1 locs1 cells slots Q (F0 m (pc + 3) ls (.int r :: rest))) : W p l e R s m args below meth c H locs cells slots Q (F0 m pc ls st0) := by
  obtain ⟨hPc, hDc⟩ := nd_of hD hP hC hnC
  exact cB_i (va_runS (rest := rest) C hM cw (cPreS hK hPc hDc) rfl hnn hsize hst (lv_room hroom) hdg hf) hP hD hS hA isC isR pm hC hR hn hdis hpm hw2 kk
theorem cS_v {S : Type} {post : S → Prop} {w1 w2 : S → va_W} (C : CallFix p m c cc nL s args Ts own) (hM : Met l y w rm (cPre D cA H.size As wc) (va_Qv post (cOut D cA (va_A wc H.size) w1) (va_A wc H.size)) 0 0 (va_A wc H.size)) (cw : CallB R s args own index y bytes maxL ret w rm 0 0 n ∧ (Cond.static y).before args s = true)
    (hK : va_K D vwCl (tyL cA) s) (hP : va_P D vwCl ws H) (hD : va_D A ws) (hS : va_S A H0 H locs) (hA : ∀ q, H0.size ≤ q → A q) (isC isR pm : List Nat) (hC : isC.map (fun i => ws[i]?) = wc.map some) (hR : isR.map (fun i => ws[i]?) = wr.map some) (hn : va_nd isR = true) (hnC : va_nd isC = true) (hdis : ∀ i ∈ isR, i ∉ isC) (hpm : va_nd pm = true) (hw2 : ∀ u, pm.map (fun i => (wr ++ w1 u)[i]?) = (w2 u).map some)
    (hnn : As.length = n) (hsize : ls.size = nL) (hst : st0 = As.reverse ++ rest) (hroom : (rest.map fun v => v.category).sum ≤ 8) (hdg : decode cc pc = .ok (.invokestatic index, 3)) (hf : cells ≤ R.cells ∧ slots ≤ R.slots)
    (kk : ∀ (u : S) (H1 : Heap) (locs1 : List Loc), post u → va_P D vwCl (w2 u) H1 → va_D A (w2 u) → va_S A H0 H1 locs1 → W p l e R s m args below meth c H1 locs1 cells slots Q (F0 m (pc + 3) ls rest)) : W p l e R s m args below meth c H locs cells slots Q (F0 m pc ls st0) := by
  obtain ⟨hPc, hDc⟩ := nd_of hD hP hC hnC
  exact cB_v (va_runS (rest := rest) C hM cw (cPreS hK hPc hDc) rfl hnn hsize hst (lv_room hroom) hdg hf) hP hD hS hA isC isR pm hC hR hn hdis hpm hw2 kk
/-- a table's default, out of its bounds -/
theorem swOut {x : Int32} {lo hi : Int} (h : ∀ k : Int, lo ≤ k → k ≤ hi → ¬ x.toInt = k) : x.toInt < lo ∨ hi < x.toInt := by
  rcases Int.lt_or_le x.toInt lo with h1 | h1
  · exact Or.inl h1
  · rcases Int.lt_or_le hi x.toInt with h2 | h2
    · exact Or.inr h2
    · exact absurd rfl (h _ h1 h2)
end CB
