/-! numbers by their digits, the least first -/
def dig (B : Nat) : List Nat → Nat
  | [] => 0
  | d :: l => d + B * dig B l
theorem dig_nil (B : Nat) : dig B [] = 0 := rfl
theorem dig_cons (B d : Nat) (l : List Nat) : dig B (d :: l) = d + B * dig B l := rfl
theorem dig_lt {B : Nat} (hB : 0 < B) : ∀ (l : List Nat), (∀ d ∈ l, d < B) → dig B l < B ^ l.length
  | [], _ => by simp [dig]
  | d :: l, h => by
    have h1 := dig_lt hB l (fun x hx => h x (List.mem_cons_of_mem _ hx))
    have h2 : d < B := h d List.mem_cons_self
    have h3 : B * (dig B l + 1) ≤ B * B ^ l.length := Nat.mul_le_mul_left _ h1
    rw [dig_cons, List.length_cons, Nat.pow_succ, Nat.mul_comm (B ^ l.length) B]
    rw [Nat.mul_add, Nat.mul_one] at h3
    omega
theorem dig_app (B : Nat) : ∀ (l m : List Nat), dig B (l ++ m) = dig B l + B ^ l.length * dig B m
  | [], m => by simp [dig]
  | d :: l, m => by
    rw [List.cons_append, dig_cons, dig_cons, dig_app B l m, List.length_cons, Nat.pow_succ, Nat.mul_add, ← Nat.mul_assoc, Nat.mul_comm B (B ^ l.length)]
    omega
theorem dig_get {B : Nat} (hB : 0 < B) : ∀ (l : List Nat) (r i : Nat), (∀ d ∈ l, d < B) → i < l.length → (dig B l + B ^ l.length * r) / B ^ i % B = l.getD i 0
  | [], _, _, _, hi => absurd hi (Nat.not_lt_zero _)
  | d :: l, r, i, h, hi => by
    have h2 : d < B := h d List.mem_cons_self
    have e : dig B (d :: l) + B ^ (d :: l).length * r = d + B * (dig B l + B ^ l.length * r) := by
      rw [dig_cons, List.length_cons, Nat.pow_succ, Nat.mul_add, Nat.mul_comm (B ^ l.length) B, Nat.mul_assoc]
      omega
    rw [e]
    cases i with
    | zero => simp [Nat.mod_eq_of_lt h2]
    | succ i =>
      have e2 : (d + B * (dig B l + B ^ l.length * r)) / B ^ (i + 1) = (dig B l + B ^ l.length * r) / B ^ i := by
        rw [Nat.pow_succ, Nat.mul_comm (B ^ i) B, ← Nat.div_div_eq_div_mul, Nat.add_mul_div_left _ _ hB, Nat.div_eq_of_lt h2, Nat.zero_add]
      rw [e2, dig_get hB l r i (fun x hx => h x (List.mem_cons_of_mem _ hx)) (by simpa using hi)]
      simp
theorem dig_get0 {B : Nat} (hB : 0 < B) {l : List Nat} {i : Nat} (h : ∀ d ∈ l, d < B) (hi : i < l.length) : dig B l / B ^ i % B = l.getD i 0 := by
  have := dig_get hB l 0 i h hi
  rwa [Nat.mul_zero, Nat.add_zero] at this
theorem dig_set (B : Nat) : ∀ (l : List Nat) (i d : Nat), i < l.length → dig B (l.set i d) + l.getD i 0 * B ^ i = dig B l + d * B ^ i
  | [], _, _, hi => absurd hi (Nat.not_lt_zero _)
  | x :: l, 0, d, _ => by simp [dig]; omega
  | x :: l, i + 1, d, hi => by
    have h := dig_set B l i d (by simpa using hi)
    have e1 : ∀ z : Nat, z * B ^ (i + 1) = B * (z * B ^ i) := fun z => by rw [Nat.pow_succ, Nat.mul_comm B, Nat.mul_assoc]
    simp only [List.set_cons_succ, dig_cons, List.getD_cons_succ, e1]
    have h2 := congrArg (fun z => B * z) h
    simp only [Nat.mul_add] at h2
    omega
theorem dig_inj {B : Nat} (hB : 0 < B) : ∀ (l m : List Nat), l.length = m.length → (∀ d ∈ l, d < B) → (∀ d ∈ m, d < B) → dig B l = dig B m → l = m
  | [], [], _, _, _, _ => rfl
  | [], _ :: _, h, _, _, _ => by simp at h
  | _ :: _, [], h, _, _, _ => by simp at h
  | x :: l, y :: m, h, hl, hm, e => by
    have hx : x < B := hl x List.mem_cons_self
    have hy : y < B := hm y List.mem_cons_self
    rw [dig_cons, dig_cons] at e
    have e1 : x = y := by
      have := congrArg (fun z => z % B) e
      simpa [Nat.add_mul_mod_self_left, Nat.mod_eq_of_lt hx, Nat.mod_eq_of_lt hy] using this
    have e2 : dig B l = dig B m := by
      have := congrArg (fun z => z / B) e
      simpa [Nat.add_mul_div_left _ _ hB, Nat.div_eq_of_lt hx, Nat.div_eq_of_lt hy] using this
    rw [e1, dig_inj hB l m (by simpa using h) (fun d hd => hl d (List.mem_cons_of_mem _ hd)) (fun d hd => hm d (List.mem_cons_of_mem _ hd)) e2]
theorem dig_td {B : Nat} (l : List Nat) {i : Nat} (hi : i ≤ l.length) : dig B l = dig B (l.take i) + B ^ i * dig B (l.drop i) := by
  have := dig_app B (l.take i) (l.drop i)
  rwa [List.take_append_drop, List.length_take, Nat.min_eq_left hi] at this
theorem dig_mod {B : Nat} (hB : 0 < B) {l : List Nat} {i : Nat} (h : ∀ d ∈ l, d < B) (hi : i ≤ l.length) : dig B l % B ^ i = dig B (l.take i) := by
  have h1 := dig_lt hB (l.take i) (fun d hd => h d (List.mem_of_mem_take hd))
  rw [List.length_take, Nat.min_eq_left hi] at h1
  rw [dig_td l hi, Nat.add_mul_mod_self_left, Nat.mod_eq_of_lt h1]
theorem dig_div {B : Nat} (hB : 0 < B) {l : List Nat} {i : Nat} (h : ∀ d ∈ l, d < B) (hi : i ≤ l.length) : dig B l / B ^ i = dig B (l.drop i) := by
  have h1 := dig_lt hB (l.take i) (fun d hd => h d (List.mem_of_mem_take hd))
  rw [List.length_take, Nat.min_eq_left hi] at h1
  rw [dig_td l hi, Nat.add_mul_div_left _ _ (Nat.pow_pos hB), Nat.div_eq_of_lt h1, Nat.zero_add]
theorem dig_ins {B : Nat} (l : List Nat) {i : Nat} (d : Nat) (hi : i ≤ l.length) : dig B (l.take i ++ d :: l.drop i) = dig B (l.take i) + d * B ^ i + B ^ (i + 1) * dig B (l.drop i) := by
  rw [dig_app, List.length_take, Nat.min_eq_left hi, dig_cons, Nat.mul_add, Nat.mul_comm d, Nat.pow_succ, Nat.mul_assoc]
  omega
theorem dig_del {B : Nat} (l : List Nat) {i : Nat} (hi : i ≤ l.length) : dig B (l.take i ++ l.drop (i + 1)) = dig B (l.take i) + B ^ i * dig B (l.drop (i + 1)) := by
  rw [dig_app, List.length_take, Nat.min_eq_left hi]
/-! 64 bits -/
theorem lx_xor {a b : Nat} (ha : a < 2 ^ 64) (hb : b < 2 ^ 64) : lN a ^^^ lN b = lN (a ^^^ b) := by
  apply wb_inj
  rw [Int64.toBitVec_xor, wb_tb, wb_tb, wb_tb]
  apply BitVec.eq_of_toNat_eq
  rw [BitVec.toNat_xor, BitVec.toNat_ofNat, BitVec.toNat_ofNat, BitVec.toNat_ofNat, Nat.mod_eq_of_lt ha, Nat.mod_eq_of_lt hb, Nat.mod_eq_of_lt (Nat.xor_lt_two_pow ha hb)]
theorem ni_mod (n : Nat) : nI n = nI (n % 2 ^ 32) := Int32.toBitVec_inj.mp (by
  show BitVec.ofNat 32 _ = BitVec.ofNat 32 _
  apply BitVec.eq_of_toNat_eq
  rw [BitVec.toNat_ofNat, BitVec.toNat_ofNat, Nat.mod_mod])
theorem ni_and (n : Nat) {m : Int32} (k : Nat) (hk : k ≤ 32) (hm : m.toBitVec.toNat = 2 ^ k - 1) : nI n &&& m = nI (n % 2 ^ k) := by
  rw [pk_and (nI n) k hm]
  congr 1
  have : (nI n).toBitVec.toNat = n % 2 ^ 32 := by
    show (BitVec.ofNat 32 n).toNat = _
    rw [BitVec.toNat_ofNat]
  rw [this, Nat.mod_mod_of_dvd _ (Nat.pow_dvd_pow 2 hk)]
theorem nat_xor_hi {k lo q z : Nat} (h : lo < 2 ^ k) : (2 ^ k * q + lo) ^^^ (2 ^ k * z) = 2 ^ k * (q ^^^ z) + lo := by
  apply Nat.eq_of_testBit_eq
  intro i
  rw [Nat.testBit_xor, Nat.testBit_two_pow_mul_add _ h, Nat.testBit_two_pow_mul_add _ h]
  have h2 := Nat.testBit_two_pow_mul_add (i := k) (b := 0) z (Nat.pow_pos (by decide)) i
  rw [Nat.add_zero] at h2
  rw [h2]
  by_cases hi : i < k
  · simp [hi]
  · simp [hi, Nat.testBit_xor]
theorem nat_xor_lo {k x z hi : Nat} (hx : x < 2 ^ k) (hz : z < 2 ^ k) : (2 ^ k * hi + x) ^^^ z = 2 ^ k * hi + (x ^^^ z) := by
  apply Nat.eq_of_testBit_eq
  intro i
  rw [Nat.testBit_xor, Nat.testBit_two_pow_mul_add _ hx, Nat.testBit_two_pow_mul_add _ (Nat.xor_lt_two_pow hx hz)]
  by_cases h : i < k
  · simp [h, Nat.testBit_xor]
  · simp only [h, if_false]
    rw [Nat.testBit_lt_two_pow (Nat.lt_of_lt_of_le hz (Nat.pow_le_pow_right (by decide) (Nat.le_of_not_lt h)))]
    simp
theorem nat_or_add {k a q : Nat} (h : a < 2 ^ k) : a ||| (q * 2 ^ k) = a + q * 2 ^ k := by
  have := Nat.two_pow_add_eq_or_of_lt h q
  rw [Nat.or_comm, Nat.mul_comm q, ← this, Nat.add_comm]
