/-! the law's start: the classes, the arrays' classes, the three tables -/
theorem st_arr {s : State} {args : Array Value} {ty : FieldType} (h : (Cond.arrayClass ty).before args s = true) : ∃ cA : ClassId, ArrOfT s cA ty ∧ s.vm.findClass ("[" ++ ty.toString) = some cA := by
  obtain ⟨cA, kA, comp, h1, h2, h3⟩ := Cond.arrayClass_spec h
  exact ⟨cA, fun n z => ⟨fun k h => (by cases h), kA, h2, comp, h3⟩, h1⟩
theorem st_w0 : Cond.instantiable RX0 10 ∈ lw_tbl := by decide +kernel
theorem st_w1 : Cond.instantiable RX1 9 ∈ lw_tbl := by decide +kernel
theorem st_w2 : Cond.instantiable RX2 2 ∈ lw_tbl := by decide +kernel
theorem st_w3 : Cond.instantiable RX3 9 ∈ lw_tbl := by decide +kernel
theorem st_w4 : Cond.instantiable RX4 3 ∈ lw_tbl := by decide +kernel
theorem st_w5 : Cond.instantiable RX5 5 ∈ lw_tbl := by decide +kernel
theorem st_w7 : Cond.instantiable RX7 5 ∈ lw_tbl := by decide +kernel
theorem st_w8 : Cond.instantiable RX8 29 ∈ lw_tbl := by decide +kernel
theorem st_aI : Cond.arrayClass .int ∈ lw_tbl := by decide +kernel
theorem st_aJ : Cond.arrayClass .long ∈ lw_tbl := by decide +kernel
theorem st_aB : Cond.arrayClass .byte ∈ lw_tbl := by decide +kernel
theorem st_K {s : State} {args : Array Value} (hts : ∀ w ∈ lw_tbl, w.before args s = true) : ∃ (D : va_G) (cA : Nat → ClassId), va_K D vwCl (tyL cA) s := by
  obtain ⟨c0, i0, k0⟩ := u_known (C := RX0) (T := TX0) (N := 10) (n := 10) hts inX0 (hts _ st_w0)
  obtain ⟨c1, i1, k1⟩ := u_known (C := RX1) (T := TX1) (N := 9) (n := 9) hts inX1 (hts _ st_w1)
  obtain ⟨c2, i2, k2⟩ := u_known (C := RX2) (T := TX2) (N := 2) (n := 2) hts inX2 (hts _ st_w2)
  obtain ⟨c3, i3, k3⟩ := u_known (C := RX3) (T := TX3) (N := 9) (n := 9) hts inX3 (hts _ st_w3)
  obtain ⟨c4, i4, k4⟩ := u_known (C := RX4) (T := TX4) (N := 3) (n := 3) hts inX4 (hts _ st_w4)
  obtain ⟨c5, i5, k5⟩ := u_known (C := RX5) (T := TX5) (N := 5) (n := 5) hts inX5 (hts _ st_w5)
  obtain ⟨c7, i7, k7⟩ := u_known (C := RX7) (T := TX7) (N := 5) (n := 5) hts inX7 (hts _ st_w7)
  obtain ⟨c8, i8, k8⟩ := u_known (C := RX8) (T := TX8) (N := 29) (n := 29) hts inX8 (hts _ st_w8)
  obtain ⟨aI, aI1, aI2⟩ := st_arr (hts _ st_aI)
  obtain ⟨aJ, aJ1, aJ2⟩ := st_arr (hts _ st_aJ)
  obtain ⟨aB, aB1, aB2⟩ := st_arr (hts _ st_aB)
  refine ⟨(fun k => match k with | 0 => c0 | 1 => c1 | 2 => c2 | 3 => c3 | 4 => c4 | 5 => c5 | 6 => c7 | _ => c8, fun k => match k with | 0 => i0 | 1 => i1 | 2 => i2 | 3 => i3 | 4 => i4 | 5 => i5 | 6 => i7 | _ => i8), fun k => match k with | 0 => aI | 1 => aJ | _ => aB, ?_, ?_⟩
  · intro k q hq
    match k, hq with
    | 0, hq => cases hq; exact k0
    | 1, hq => cases hq; exact k1
    | 2, hq => cases hq; exact k2
    | 3, hq => cases hq; exact k3
    | 4, hq => cases hq; exact k4
    | 5, hq => cases hq; exact k5
    | 6, hq => cases hq; exact k7
    | 7, hq => cases hq; exact k8
    | k + 8, hq => simp [vwCl] at hq
  · intro k q hq
    match k, hq with
    | 0, hq => cases hq; exact ⟨aI1, aI2⟩
    | 1, hq => cases hq; exact ⟨aJ1, aJ2⟩
    | 2, hq => cases hq; exact ⟨aB1, aB2⟩
    | k + 3, hq => simp [tyL] at hq
theorem st_l1 : Cond.laysStatic "OrderTests" "LEAST_SETTING" "[I" ∈ lw_tbl := by decide +kernel
theorem st_l2 : Cond.laysStatic "OrderTests" "GREATEST_SETTING" "[I" ∈ lw_tbl := by decide +kernel
theorem st_l3 : Cond.laysStatic "OrderTests" "LAW_VALUES" "[I" ∈ lw_tbl := by decide +kernel
theorem st_i7 : Cond.initialized RX7 ∈ lw_tbl := by decide +kernel
theorem st_tab {s : State} {args : Array Value} {nm : String} {N : Nat} {f : Nat → Int32} (hN : N < 2 ^ 31) (hl : (Cond.laysStatic "OrderTests" nm "[I").before args s = true) (hi : (Cond.initialized "OrderTests").before args s = true) (harr : (Cond.arrayOf (.static "OrderTests" nm "[I") .int).before args s = true) (hlen : (Cond.eq (.length (.static "OrderTests" nm "[I")) (.int (Int32.ofNat N))).before args s = true) (hel : ∀ j, j < N → (Cond.eq (.elem (.static "OrderTests" nm "[I") (.int (Int32.ofNat j))) (.int (f j))).before args s = true) : ztab nm N f (fun q => s.heap.size ≤ q) s s.heap := by
  have hA : ∀ a : Nat, a < s.heap.size → ¬ (fun q : Nat => s.heap.size ≤ q) a := fun a h => Nat.not_le.mpr h
  obtain ⟨t, ht, hT⟩ := va_Tof (f := fun j => .int (f j)) hN harr (va_eqt hlen) (fun j hj => va_eqt (hel j hj)) hA
  exact ⟨t, va_Zof hl hi ht hA, hT⟩
theorem st_Z {s : State} {args : Array Value} (hts : ∀ w ∈ lw_tbl, w.before args s = true) (hgv : (Jvm.Cond.and given_1 narrow_1).before args s = true) : zt_X7_set (fun q => s.heap.size ≤ q) s s.heap ∧ zt_X7_law (fun q => s.heap.size ≤ q) s s.heap := by
  have hf := flat_of_before _ hgv
  have hi := hts _ st_i7
  refine ⟨⟨?_, ?_⟩, ?_⟩
  · refine st_tab (N := 6) (by decide) (hts _ st_l1) hi (hf _ (by decide +kernel)) (hf _ (by decide +kernel)) (fun j hj => ?_)
    match j, hj with
    | 0, _ => exact hf _ (by decide +kernel)
    | 1, _ => exact hf _ (by decide +kernel)
    | 2, _ => exact hf _ (by decide +kernel)
    | 3, _ => exact hf _ (by decide +kernel)
    | 4, _ => exact hf _ (by decide +kernel)
    | 5, _ => exact hf _ (by decide +kernel)
  · refine st_tab (N := 6) (by decide) (hts _ st_l2) hi (hf _ (by decide +kernel)) (hf _ (by decide +kernel)) (fun j hj => ?_)
    match j, hj with
    | 0, _ => exact hf _ (by decide +kernel)
    | 1, _ => exact hf _ (by decide +kernel)
    | 2, _ => exact hf _ (by decide +kernel)
    | 3, _ => exact hf _ (by decide +kernel)
    | 4, _ => exact hf _ (by decide +kernel)
    | 5, _ => exact hf _ (by decide +kernel)
  · refine st_tab (N := 7) (by decide) (hts _ st_l3) hi (hf _ (by decide +kernel)) (hf _ (by decide +kernel)) (fun j hj => ?_)
    match j, hj with
    | 0, _ => exact hf _ (by decide +kernel)
    | 1, _ => exact hf _ (by decide +kernel)
    | 2, _ => exact hf _ (by decide +kernel)
    | 3, _ => exact hf _ (by decide +kernel)
    | 4, _ => exact hf _ (by decide +kernel)
    | 5, _ => exact hf _ (by decide +kernel)
    | 6, _ => exact hf _ (by decide +kernel)
