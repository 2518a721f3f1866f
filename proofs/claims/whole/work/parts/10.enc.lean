/-! the class's STATE in longs -/
def eH2 (a : AS) : Nat := dig 2 (sC a) + 2 ^ 4 * sD a
def eH1 (a : AS) : Nat := dig 32 (sS a) + 2 ^ 25 * eH2 a
def eHead (a : AS) : Nat := dig 16 (sV a) + 2 ^ 20 * eH1 a
def eLen (a : AS) : Nat := dig 32 ((sR a).map List.length)
def eRow (a : AS) (i : Nat) : Nat := dig 16 ((sR a).getD i [])
def cRep (a : AS) (hd ln : Int64) (rw : Nat → Int64) : Prop := hd = lN (eHead a) ∧ ln = lN (eLen a) ∧ ∀ i, i < 8 → rw i = lN (eRow a i)
/-! what sOK gives -/
section SOK
variable {c : Cf} {a : AS}
theorem sOK.lV (h : sOK c a) : (sV a).length = 5 := h.1
theorem sOK.lS (h : sOK c a) : (sS a).length = 5 := h.2.1
theorem sOK.lC (h : sOK c a) : (sC a).length = 4 := h.2.2.1
theorem sOK.lR (h : sOK c a) : (sR a).length = 8 := h.2.2.2.1
theorem sOK.bV (h : sOK c a) : ∀ d ∈ sV a, d < 16 := h.2.2.2.2.1
theorem sOK.bS (h : sOK c a) : ∀ d ∈ sS a, d ≤ 16 := h.2.2.2.2.2.1
theorem sOK.bC (h : sOK c a) : ∀ d ∈ sC a, d < 2 := h.2.2.2.2.2.2.1
theorem sOK.bD (h : sOK c a) : sD a ≤ 2 := h.2.2.2.2.2.2.2.1
theorem sOK.cHi (h : sOK c a) : ∀ i, cNF c ≤ i → (sC a).getD i 0 = 0 := h.2.2.2.2.2.2.2.2.1
theorem sOK.bR (h : sOK c a) : ∀ r ∈ sR a, ∀ d ∈ r, d < 16 := h.2.2.2.2.2.2.2.2.2.1
theorem sOK.rS (h : sOK c a) : ∀ i, i < cNA c → ((sR a).getD i []).length ≤ (sS a).getD (cFr c i) 0 := h.2.2.2.2.2.2.2.2.2.2.1
theorem sOK.rHi (h : sOK c a) : ∀ i, cNA c ≤ i → (sR a).getD i [] = [] := h.2.2.2.2.2.2.2.2.2.2.2
end SOK
theorem getD_mem {α : Type} {l : List α} {i : Nat} {d : α} (h : i < l.length) : l.getD i d ∈ l := by
  rw [List.getD_eq_getElem?_getD, List.getElem?_eq_getElem h]
  exact List.getElem_mem h
theorem getD_all {l : List Nat} {B : Nat} (h : ∀ d ∈ l, d < B) (hB : 0 < B) (i : Nat) : l.getD i 0 < B := by
  by_cases hi : i < l.length
  · exact h _ (getD_mem hi)
  · rw [List.getD_eq_getElem?_getD, List.getElem?_eq_none (by omega)]
    exact hB
theorem getD_le {l : List Nat} {B : Nat} (h : ∀ d ∈ l, d ≤ B) (i : Nat) : l.getD i 0 ≤ B := by
  by_cases hi : i < l.length
  · exact h _ (getD_mem hi)
  · rw [List.getD_eq_getElem?_getD, List.getElem?_eq_none (by omega)]
    exact Nat.zero_le _
theorem getD_set_eq {α : Type} {l : List α} {i : Nat} {x d : α} (h : i < l.length) : (l.set i x).getD i d = x := by
  rw [List.getD_eq_getElem?_getD, List.getElem?_set_self h]; rfl
theorem getD_set_ne {α : Type} {l : List α} {i j : Nat} {x d : α} (h : i ≠ j) : (l.set i x).getD j d = l.getD j d := by
  rw [List.getD_eq_getElem?_getD, List.getElem?_set_ne h, ← List.getD_eq_getElem?_getD]
section EH
variable {c : Cf} {a : AS}
theorem sOK.b32 (h : sOK c a) : ∀ d ∈ sS a, d < 32 := fun d hd => by have := h.bS d hd; omega
theorem sOK.rw16 (h : sOK c a) (i : Nat) : ∀ d ∈ (sR a).getD i [], d < 16 := by
  intro d hd
  by_cases hi : i < (sR a).length
  · exact h.bR _ (getD_mem hi) d hd
  · rw [List.getD_eq_getElem?_getD, List.getElem?_eq_none (by omega)] at hd
    cases hd
theorem sOK.len16 (h : sOK c a) (i : Nat) : ((sR a).getD i []).length ≤ 16 := by
  by_cases hi : i < cNA c
  · exact Nat.le_trans (h.rS i hi) (getD_le h.bS _)
  · rw [h.rHi i (by omega)]; exact Nat.zero_le _
theorem eV_lt (h : sOK c a) : dig 16 (sV a) < 2 ^ 20 := by
  have := dig_lt (B := 16) (by decide) (sV a) h.bV
  rw [h.lV] at this; exact this
theorem eS_lt (h : sOK c a) : dig 32 (sS a) < 2 ^ 25 := by
  have := dig_lt (B := 32) (by decide) (sS a) h.b32
  rw [h.lS] at this; exact this
theorem eC_lt (h : sOK c a) : dig 2 (sC a) < 2 ^ 4 := by
  have := dig_lt (B := 2) (by decide) (sC a) h.bC
  rw [h.lC] at this; exact this
theorem eH_lt (h : sOK c a) : eHead a < 2 ^ 51 := by
  have h1 := eV_lt h
  have h2 := eS_lt h
  have h3 := eC_lt h
  have h4 := h.bD
  unfold eHead eH1 eH2
  omega
theorem eH_d1 (h : sOK c a) : eHead a / 2 ^ 20 = eH1 a := by
  have h1 := eV_lt h
  unfold eHead
  omega
theorem eH_d2 (h : sOK c a) : eHead a / 2 ^ 45 = eH2 a := by
  have h1 := eV_lt h
  have h2 := eS_lt h
  unfold eHead eH1
  omega
theorem pow4 (v : Nat) : 2 ^ (4 * v) = 16 ^ v := by rw [Nat.pow_mul]
theorem pow5 (v : Nat) : 2 ^ (5 * v) = 32 ^ v := by rw [Nat.pow_mul]
theorem eH_val (h : sOK c a) {v : Nat} (hv : v < 5) : eHead a / 2 ^ (4 * v) % 16 = (sV a).getD v 0 := by
  have := dig_get (B := 16) (by decide) (sV a) (eH1 a) v h.bV (by rw [h.lV]; exact hv)
  rw [h.lV] at this
  rw [pow4]; exact this
theorem eH_sent (h : sOK c a) {v : Nat} (hv : v < 5) : eHead a / 2 ^ (20 + 5 * v) % 32 = (sS a).getD v 0 := by
  have := dig_get (B := 32) (by decide) (sS a) (eH2 a) v h.b32 (by rw [h.lS]; exact hv)
  rw [h.lS] at this
  rw [Nat.pow_add, ← Nat.div_div_eq_div_mul, eH_d1 h, pow5]; exact this
theorem eH_came (h : sOK c a) {f : Nat} (hf : f < 4) : eHead a / 2 ^ (45 + f) % 2 = (sC a).getD f 0 := by
  have := dig_get (B := 2) (by decide) (sC a) (sD a) f h.bC (by rw [h.lC]; exact hf)
  rw [h.lC] at this
  rw [Nat.pow_add, ← Nat.div_div_eq_div_mul, eH_d2 h]; exact this
theorem eH_dbl (h : sOK c a) : eHead a / 2 ^ 49 % 4 = sD a := by
  have h3 := eC_lt h
  have h4 := h.bD
  have : eHead a / 2 ^ 49 = sD a := by
    rw [show (49 : Nat) = 45 + 4 from rfl, Nat.pow_add, ← Nat.div_div_eq_div_mul, eH_d2 h]
    unfold eH2
    omega
  rw [this]; omega
theorem eH_vals (h : sOK c a) : eHead a % 2 ^ 20 = dig 16 (sV a) := by
  have h1 := eV_lt h
  unfold eHead
  omega
theorem lens_lt (h : sOK c a) : ∀ d ∈ (sR a).map List.length, d < 32 := by
  intro d hd
  obtain ⟨r, hr, rfl⟩ := List.mem_map.mp hd
  obtain ⟨i, hi, rfl⟩ := List.getElem_of_mem hr
  have := h.len16 i
  rw [List.getD_eq_getElem?_getD, List.getElem?_eq_getElem hi] at this
  exact Nat.lt_of_le_of_lt this (by decide)
theorem map_getD_len (l : List (List Nat)) (i : Nat) : (l.map List.length).getD i 0 = (l.getD i []).length := by
  rw [List.getD_eq_getElem?_getD, List.getElem?_map, List.getD_eq_getElem?_getD]
  cases l[i]? <;> rfl
theorem eL_lt (h : sOK c a) : eLen a < 2 ^ 40 := by
  have := dig_lt (B := 32) (by decide) _ (lens_lt h)
  rw [List.length_map, h.lR] at this; exact this
theorem eL_get (h : sOK c a) {i : Nat} (hi : i < 8) : eLen a / 2 ^ (5 * i) % 32 = ((sR a).getD i []).length := by
  have := dig_get0 (B := 32) (by decide) (i := i) (lens_lt h) (by rw [List.length_map, h.lR]; exact hi)
  rw [map_getD_len] at this
  rw [pow5]; exact this
theorem eR_lt (h : sOK c a) (i : Nat) : eRow a i < 2 ^ 64 := by
  have h1 := dig_lt (B := 16) (by decide) _ (h.rw16 i)
  have h2 := h.len16 i
  refine Nat.lt_of_lt_of_le h1 ?_
  rw [← pow4]
  exact Nat.pow_le_pow_right (by decide) (by omega)
theorem eR_get (h : sOK c a) {i p : Nat} (hp : p < ((sR a).getD i []).length) : eRow a i / 2 ^ (4 * p) % 16 = ((sR a).getD i []).getD p 0 := by
  rw [pow4]; exact dig_get0 (by decide) (h.rw16 i) hp
end EH
/-! bits -/
theorem fld_get {h k w : Nat} {M : Int32} (hh : h < 2 ^ 64) (hk : k < 64) (hw : w ≤ 32) (hM : M.toBitVec.toNat = 2 ^ w - 1) : (((lN h).toUInt64 >>> ((nI k).toInt64.toUInt64 &&& Int64.toUInt64 63)).toInt64).toInt32 &&& M = nI (h / 2 ^ k % 2 ^ w) := by
  rw [wb_shr hh hk, lN_i, ni_and _ w hw hM]
theorem xor_dig {h k x y : Nat} (hx : h / 2 ^ k % 16 = x) (hy : y < 16) : (h ^^^ ((x ^^^ y) * 2 ^ k)) + x * 2 ^ k = h + y * 2 ^ k := by
  have e : h = 2 ^ k * (2 ^ 4 * (h / 2 ^ k / 16) + x) + h % 2 ^ k := by
    have h1 := Nat.div_add_mod h (2 ^ k)
    have h2 := Nat.div_add_mod (h / 2 ^ k) 16
    rw [hx] at h2
    rw [show (2 : Nat) ^ 4 = 16 from rfl, h2]
    omega
  have hx16 : x < 16 := by rw [← hx]; exact Nat.mod_lt _ (by decide)
  have hlo : h % 2 ^ k < 2 ^ k := Nat.mod_lt _ (Nat.pow_pos (by decide))
  have hz : (x ^^^ y) < 2 ^ 4 := Nat.xor_lt_two_pow (n := 4) hx16 hy
  have e2 : h ^^^ ((x ^^^ y) * 2 ^ k) = 2 ^ k * (2 ^ 4 * (h / 2 ^ k / 16) + y) + h % 2 ^ k := by
    conv => lhs; lhs; rw [e]
    rw [Nat.mul_comm (x ^^^ y), nat_xor_hi hlo, nat_xor_lo hx16 hz, ← Nat.xor_assoc, Nat.xor_self, Nat.zero_xor]
  rw [e2]
  conv => rhs; lhs; rw [e]
  rw [Nat.mul_add (2 ^ k), Nat.mul_add (2 ^ k), Nat.mul_comm x, Nat.mul_comm y]
  omega
theorem or_dig {h k w b : Nat} (h0 : h / 2 ^ k % 2 ^ w = 0) (hb : b < 2 ^ w) : h ||| (b * 2 ^ k) = h + b * 2 ^ k := by
  have hlo : h % 2 ^ k < 2 ^ k := Nat.mod_lt _ (Nat.pow_pos (by decide))
  have e : h = 2 ^ (k + w) * (h / 2 ^ k / 2 ^ w) + h % 2 ^ k := by
    have h1 := Nat.div_add_mod h (2 ^ k)
    have h2 := Nat.div_add_mod (h / 2 ^ k) (2 ^ w)
    rw [h0, Nat.add_zero] at h2
    rw [Nat.pow_add, Nat.mul_assoc, h2]
    omega
  have hs : 2 ^ k * b + h % 2 ^ k < 2 ^ (k + w) := by
    rw [Nat.pow_add]
    have : 2 ^ k * (b + 1) ≤ 2 ^ k * 2 ^ w := Nat.mul_le_mul_left _ hb
    rw [Nat.mul_add, Nat.mul_one] at this
    omega
  have hlo2 : h % 2 ^ k < 2 ^ (k + w) := Nat.lt_of_lt_of_le hlo (Nat.pow_le_pow_right (by decide) (by omega))
  have e1 := Nat.two_pow_add_eq_or_of_lt hlo2 (h / 2 ^ k / 2 ^ w)
  have e2 := Nat.two_pow_add_eq_or_of_lt hlo b
  have e3 := Nat.two_pow_add_eq_or_of_lt hs (h / 2 ^ k / 2 ^ w)
  conv => lhs; lhs; rw [e, e1]
  rw [Nat.mul_comm b, Nat.or_assoc, Nat.or_comm (h % 2 ^ k), ← e2, ← e3]
  omega
