/-! the class's three tables -/
def tb_LEAST_SETTING : Nat → Int32 := fun j => ([0, 0, 0, 1, 0, 0] : List Int32).getD j 0
def tb_GREATEST_SETTING : Nat → Int32 := fun j => ([9, 4, 1, 16, 1, 2] : List Int32).getD j 0
def tb_LAW_VALUES : Nat → Int32 := fun j => ([3, 2, 1, 3, 2, 3, 2] : List Int32).getD j 0
def ztab (nm : String) (N : Nat) (f : Nat → Int32) (A : Nat → Prop) (U : State) (H : Heap) : Prop := ∃ t : Nat, va_Z RX7 nm "[I" (.ref t) A U H ∧ va_T .int t N (fun j => .int (f j)) A U H
theorem ztab.moved {nm : String} {N : Nat} {f : Nat → Int32} {A : Nat → Prop} {u U : State} {H : Heap} (hvm : u.vm.Alike U.vm) (h : ztab nm N f A u H) : ztab nm N f A U H := by
  obtain ⟨t, h1, h2⟩ := h
  exact ⟨t, h1.moved hvm, h2.moved hvm⟩
theorem ztab.kept {nm : String} {N : Nat} {f : Nat → Int32} {A : Nat → Prop} {U : State} {H H1 : Heap} (h : ztab nm N f A U H) (hq : ∀ a : Nat, a < H.size → ¬ A a → H1[a]? = H[a]?) : ztab nm N f A U H1 := by
  obtain ⟨t, h1, h2⟩ := h
  exact ⟨t, h1.kept hq, h2.kept hq⟩
theorem ztab.narrow {nm : String} {N : Nat} {f : Nat → Int32} {A B : Nat → Prop} {U : State} {H : Heap} (h : ztab nm N f A U H) (hAB : ∀ q, B q → A q) : ztab nm N f B U H := by
  obtain ⟨t, h1, h2⟩ := h
  exact ⟨t, h1.narrow hAB, h2.narrow hAB⟩
def zt_X7_set (A : Nat → Prop) (U : State) (H : Heap) : Prop := ztab "LEAST_SETTING" 6 tb_LEAST_SETTING A U H ∧ ztab "GREATEST_SETTING" 6 tb_GREATEST_SETTING A U H
def zt_X7_law (A : Nat → Prop) (U : State) (H : Heap) : Prop := ztab "LAW_VALUES" 7 tb_LAW_VALUES A U H
abbrev cPreZ (D : va_G) (cA : Nat → ClassId) (sz : Nat) (av : List Value) (ws : va_W) (Z : (Nat → Prop) → State → Heap → Prop) : Array Value → State → Prop := va_Pc av (fun U => (U.heap.size = sz ∧ va_P D vwCl ws U.heap ∧ va_K D vwCl (tyL cA) U ∧ va_D (fun _ => True) ws) ∧ Z (va_A ws sz) U U.heap)
