/-! the law's own: calls of the two methods that read tables -/
theorem ztab.at {nm : String} {N : Nat} {f : Nat → Int32} {A : Nat → Prop} {wc : va_W} {s U : State} {H : Heap} {locs : List Loc} (hz : ztab nm N f A s s.heap) (hS : va_S A s.heap H locs) (hF : ∀ q, va_A wc H.size q → A q) (hU : U.heap = H) (hW : s.WarmedH U.vm) : ztab nm N f (va_A wc H.size) U U.heap := by
  rw [hU]
  exact ((hz.kept (fun a h1 h2 => hS.2.1 a h1 h2)).moved hW.alike).narrow hF
def zGood (Z : (Nat → Prop) → State → Heap → Prop) : Prop := (∀ (A : Nat → Prop) (wc : va_W) (s U : State) (H : Heap) (locs : List Loc), Z A s s.heap → va_S A s.heap H locs → (∀ q, va_A wc H.size q → A q) → U.heap = H → s.WarmedH U.vm → Z (va_A wc H.size) U U.heap) ∧ ∀ (A : Nat → Prop) (u U : State) (H : Heap), u.vm.Alike U.vm → Z A u H → Z A U H
theorem zGood_set : zGood zt_X7_set := ⟨fun _ _ _ _ _ _ hz hS hF hU hW => ⟨hz.1.at hS hF hU hW, hz.2.at hS hF hU hW⟩, fun _ _ _ _ h hz => ⟨hz.1.moved h, hz.2.moved h⟩⟩
theorem zGood_law : zGood zt_X7_law := ⟨fun _ _ _ _ _ _ hz hS hF hU hW => ztab.at hz hS hF hU hW, fun _ _ _ _ h hz => ztab.moved h hz⟩
section CZ
variable {p : Program} {l : Launch} {e : Env} {R : Room} {s : State} {m : MethodId} {args : Array Value} {below : List Frame} {meth : Method} {c : Code} {H : Heap} {locs : List Loc} {cells slots : Nat} {Q : State → Prop}
variable {pc : Nat} {ls : Array Slot} {rest st0 As : List Value} {a : Array Value} {A : Nat → Prop} {D : va_G} {cA : Nat → ClassId} {ws wc wr : va_W}
variable {y : MethodName} {bytes cc : ByteArray} {maxL nL n index ci N : Nat} {T : u_T} {ret : Option FieldType} {w Ts : List Cond} {rm : Room} {own Cn : String} {b : Addr} {fs : List Value} {Z : (Nat → Prop) → State → Heap → Prop}
theorem cVZ_i {S : Type} {post : Int32 → S → Prop} {w1 w2 : S → va_W} (hG : zGood Z) (hZ : Z A s s.heap) (C : CallFix p m c cc nL s args Ts own) (hM : Met l y w rm (cPreZ D cA H.size (.ref b :: As) wc Z) (va_Qi post (cOut D cA (va_A wc H.size) w1) (va_A wc H.size)) 0 0 (va_A wc H.size)) (cw : CallW R s args own Cn index y bytes maxL ret w rm 0 0 n)
    (hK : va_K D vwCl (tyL cA) s) (hP : va_P D vwCl ws H) (hD : va_D A ws) (hS : va_S A s.heap H locs) (hA : ∀ q, s.heap.size ≤ q → A q) (isC isR pm : List Nat) (hC : isC.map (fun i => ws[i]?) = wc.map some) (hR : isR.map (fun i => ws[i]?) = wr.map some) (hn : va_nd isR = true) (hnC : va_nd isC = true) (hdis : ∀ i ∈ isR, i ∉ isC) (hpm : va_nd pm = true) (hw2 : ∀ u, pm.map (fun i => (wr ++ w1 u)[i]?) = (w2 u).map some)
    (hb0 : wc[0]? = some (b, .inr (ci, fs))) (hci : vwCl[ci]? = some (Cn, T, N)) (hnn : As.length = n) (hsize : ls.size = nL) (hst : st0 = As.reverse ++ .ref b :: rest) (hroom : (rest.map fun v => v.category).sum ≤ 8) (hdg : decode cc pc = .ok (.invokevirtual index, 3)) (hf : cells ≤ R.cells ∧ slots ≤ R.slots)
    (kk : ∀ (r : Int32) (u : S) (H1 : Heap) (locs1 : List Loc), post r u → va_P D vwCl (w2 u) H1 → va_D A (w2 u) → va_S A s.heap H1 locs1 → W p l e R s m args below meth c H1 locs1 cells slots Q (F0 m (pc + 3) ls (.int r :: rest))) : W p l e R s m args below meth c H locs cells slots Q (F0 m pc ls st0) := by
  obtain ⟨hPc, hDc⟩ := nd_of hD hP hC hnC
  have hF := va_free (wc := wc) hD hS hA isC hC
  have hp : PreV s H Cn b (cPreZ D cA H.size (.ref b :: As) wc Z) As := ⟨fun a U g mk q => by
      obtain ⟨q0, ⟨q1, qP, qK, qD⟩, qZ⟩ := q
      exact ⟨q0, ⟨q1, qP, va_K.moved (u := U) (U := U.calling g mk a) (Vm.Alike.refl U.vm) qK, qD⟩, hG.2 _ U (U.calling g mk a) _ (Vm.Alike.refl U.vm) qZ⟩,
    va_recv hK hPc hci hb0, fun U hU hW => ⟨rfl, ⟨by rw [hU], by rw [hU]; exact hPc, va_K.moved hW.alike hK, hDc.weaken (fun _ _ _ _ => trivial)⟩, hG.1 A wc s U H locs hZ hS hF hU hW⟩⟩
  exact cB_i (va_runV (rest := rest) C hM cw hp rfl hnn hsize hst (lv_room hroom) hdg hf) hP hD hS hA isC isR pm hC hR hn hdis hpm hw2 kk
end CZ
