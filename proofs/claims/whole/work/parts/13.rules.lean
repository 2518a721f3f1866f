/-! FOLD, OUT and the laws, on both sides -/
def gRep (c : Cf) (gv ga gf : Int32) (beg fr to wt ft fv : Nat → Int32) : Prop := gv = nI (cNV c) ∧ ga = nI (cNA c) ∧ gf = nI (cNF c) ∧ (∀ i, i < cNV c → beg i = nI (cBeg c i)) ∧ (∀ i, i < cNA c → fr i = nI (cFr c i) ∧ to i = nI (cTo c i) ∧ wt i = nI (cWt c i)) ∧ (∀ i, i < cNF c → ft i = nI (cFT c i) ∧ fv i = nI (cFV c i))
def rRep (c : Cf) (st told : Nat → Int32) : Prop := (∀ i, i < 6 → st i = nI (cSet c i)) ∧ (∀ i, i < 256 → told i = nI (cTab c i))
theorem nx_or (a b : Nat) : nI a ||| nI b = nI (a ||| b) := by
  apply Int32.toBitVec_inj.mp
  show BitVec.ofNat 32 a ||| BitVec.ofNat 32 b = BitVec.ofNat 32 (a ||| b)
  apply BitVec.eq_of_toNat_eq
  rw [BitVec.toNat_or, BitVec.toNat_ofNat, BitVec.toNat_ofNat, BitVec.toNat_ofNat, Nat.or_mod_two_pow]
theorem sw_no {p q : Prop} {x k : Int32} (h : ¬ x = k) (hq : q) : (x = k → p) ∧ (¬ x = k → q) := ⟨fun e => absurd e h, fun _ => hq⟩
theorem sw_yes {p q : Prop} {x k : Int32} (h : x = k) (hp : p) : (x = k → p) ∧ (¬ x = k → q) := ⟨fun _ => hp, fun e => absurd h e⟩
theorem ns_no {p q : Prop} {x k : Int32} (h : ¬ x = k) (hp : p) : (¬ x = k → p) ∧ (x = k → q) := ⟨fun _ => hp, fun e => absurd e h⟩
theorem ns_yes {p q : Prop} {x k : Int32} (h : x = k) (hq : q) : (¬ x = k → p) ∧ (x = k → q) := ⟨fun e => absurd h e, fun _ => hq⟩
theorem rem16 {n : Nat} (h : n < 2 ^ 31) : nI n - nI n / 16 * 16 = nI (n % 16) := pk_rem (d := 16) h (by decide) (by decide)
theorem nmin {a b : Nat} (ha : a < 2 ^ 31) (hb : b < 2 ^ 31) : (if nI b < nI a then nI b else nI a) = nI (if b < a then b else a) := by
  by_cases h : b < a
  · rw [if_pos h, if_pos (nI_lt h ha)]
  · rw [if_neg h, if_neg (nI_nlt (by omega) hb)]
theorem nmax {a b : Nat} (ha : a < 2 ^ 31) (hb : b < 2 ^ 31) : (if nI a < nI b then nI b else nI a) = nI (if a < b then b else a) := by
  by_cases h : a < b
  · rw [if_pos h, if_pos (nI_lt h hb)]
  · rw [if_neg h, if_neg (nI_nlt (by omega) ha)]
theorem aFold_lt {c : Cf} (hc : cOK c) {a b : Nat} (ha : a < 16) (hb : b < 16) : aFold c a b < 16 := by
  unfold aFold
  have ht := hc.2.2.2.2.2 (16 * a + b) (by omega)
  have h1 : a ^^^ b < 2 ^ 4 := Nat.xor_lt_two_pow (n := 4) ha hb
  have h2 : a &&& b < 2 ^ 4 := Nat.and_lt_two_pow a (n := 4) hb
  have h3 : a ||| b < 2 ^ 4 := Nat.or_lt_two_pow (n := 4) ha hb
  repeat' split
  all_goals omega
theorem aOut_lt {c : Cf} {y w : Nat} (ha : y < 16) (hb : w < 16) : aOut c y w < 16 := by
  unfold aOut
  repeat' split
  all_goals omega
section RR
variable {c : Cf} {st told : Nat → Int32}
theorem w_folded (hc : cOK c) (hr : rRep c st told) {a b : Nat} (ha : a < 16) (hb : b < 16) {post : Int32 → Prop} (hp : post (nI (aFold c a b))) : wp_X2_folded st told (nI a) (nI b) post := by
  show wp_X2_folded_0 st told post (nI a) (nI b)
  unfold wp_X2_folded_0
  refine ⟨by unfold vp_in; decide, ?_⟩
  have hs : st (0 : Int32).toNatClampNeg = nI (cSet c 0) := hr.1 0 (by decide)
  rw [hs]
  have hk := hc.2.2.2.2.1.1
  unfold aFold at hp
  rcases (show cSet c 0 = 0 ∨ cSet c 0 = 1 ∨ cSet c 0 = 2 ∨ cSet c 0 = 3 ∨ cSet c 0 = 4 ∨ cSet c 0 = 5 ∨ cSet c 0 = 6 ∨ cSet c 0 = 7 ∨ cSet c 0 = 8 ∨ cSet c 0 = 9 by omega) with e | e | e | e | e | e | e | e | e | e <;> rw [e] at hp ⊢ <;>
    (repeat (first | refine sw_yes (by decide) ?_ | refine sw_no (by decide) ?_))
  · rw [nI_add, ni_and _ 4 (by decide) (by decide)]; exact hp
  · rw [nmin (a := a) (b := b) (by omega) (by omega)]; exact hp
  · rw [nmax (a := a) (b := b) (by omega) (by omega)]; exact hp
  · rw [nx_xor]; exact hp
  · exact hp
  · exact hp
  · rw [show (2 : Int32) = nI 2 from rfl, pk_mul, nI_add, ni_and _ 4 (by decide) (by decide)]; exact hp
  · rw [nx_and]; exact hp
  · rw [nx_or]; exact hp
  · show wp_X2_cell_0 _ (nI a) (nI b)
    unfold wp_X2_cell_0
    have e1 : (((nI a &&& 15) <<< ((4 : Int32) &&& 31)) ||| (nI b &&& 15)) = nI (16 * a + b) := by
      rw [ni_and _ 4 (by decide) (by decide), ni_and _ 4 (by decide) (by decide), Nat.mod_eq_of_lt ha, Nat.mod_eq_of_lt hb, pk_shlN _ 4 (by decide) (by omega), nx_or, Nat.or_comm, nat_or_add hb]
      congr 1; omega
    rw [e1]
    refine ⟨vp_in_nI (by omega) (by decide), ?_⟩
    rw [nI_clamp (by omega), hr.2 _ (by omega)]
    exact hp
theorem m_folded (hc : cOK c) (hr : rRep c st told) {a b : Nat} (ha : a < 16) (hb : b < 16) {post : Int32 → Prop} (hp : post (nI (aFold c a b))) : wp_X8_folded st told (nI a) (nI b) post := by
  show wp_X8_folded_0 st told post (nI a) (nI b)
  unfold wp_X8_folded_0
  refine ⟨by unfold vp_in; decide, ?_⟩
  have hs : st (0 : Int32).toNatClampNeg = nI (cSet c 0) := hr.1 0 (by decide)
  rw [hs]
  have hk := hc.2.2.2.2.1.1
  unfold aFold at hp
  rcases (show cSet c 0 = 0 ∨ cSet c 0 = 1 ∨ cSet c 0 = 2 ∨ cSet c 0 = 3 ∨ cSet c 0 = 4 ∨ cSet c 0 = 5 ∨ cSet c 0 = 6 ∨ cSet c 0 = 7 ∨ cSet c 0 = 8 ∨ cSet c 0 = 9 by omega) with e | e | e | e | e | e | e | e | e | e <;> rw [e] at hp ⊢ <;>
    (repeat (first | refine sw_yes (by decide) ?_ | refine sw_no (by decide) ?_))
  · rw [nI_add, rem16 (by omega)]; exact hp
  · refine pk_le b a (fun h => ?_) (fun h => ?_) rfl rfl (by omega) (by omega)
    · by_cases h2 : b < a
      · rw [if_pos h2] at hp; exact hp
      · have e2 : b = a := by omega
        subst e2; rw [if_neg h2] at hp; exact hp
    · rw [if_neg (show ¬ b < a by omega)] at hp; exact hp
  · refine pk_le a b (fun h => ?_) (fun h => ?_) rfl rfl (by omega) (by omega)
    · by_cases h2 : a < b
      · rw [if_pos h2] at hp; exact hp
      · have e2 : b = a := by omega
        subst e2; rw [if_neg h2] at hp; exact hp
    · rw [if_neg (show ¬ a < b by omega)] at hp; exact hp
  · rw [nx_xor]; exact hp
  · exact hp
  · exact hp
  · rw [show (2 : Int32) = nI 2 from rfl, pk_mul, nI_add, rem16 (by omega)]; exact hp
  · rw [nx_and]; exact hp
  · rw [nx_or]; exact hp
  · rw [show (16 : Int32) = nI 16 from rfl, pk_mul, nI_add]
    refine ⟨vp_in_nI (by omega) (by decide), ?_⟩
    rw [nI_clamp (by omega), hr.2 _ (by omega)]
    exact hp
theorem w_sentOut (hc : cOK c) (hr : ∀ i, i < 6 → st i = nI (cSet c i)) {a b : Nat} (ha : a < 16) (hb : b < 16) {post : Int32 → Prop} (hp : post (nI (aOut c a b))) : wp_X2_sentOut st (nI a) (nI b) post := by
  show wp_X2_sentOut_0 st post (nI a) (nI b)
  unfold wp_X2_sentOut_0
  refine ⟨by unfold vp_in; decide, ?_⟩
  have hs : st (1 : Int32).toNatClampNeg = nI (cSet c 1) := hr 1 (by decide)
  rw [hs]
  have hk := hc.2.2.2.2.1.2.1
  unfold aOut at hp
  have hm : a * b < 256 := by
    have := Nat.mul_le_mul (show a ≤ 15 by omega) (show b ≤ 15 by omega)
    omega
  rcases (show cSet c 1 = 0 ∨ cSet c 1 = 1 ∨ cSet c 1 = 2 ∨ cSet c 1 = 3 ∨ cSet c 1 = 4 by omega) with e | e | e | e | e <;> rw [e] at hp ⊢ <;>
    (repeat (first | refine sw_yes (by decide) ?_ | refine sw_no (by decide) ?_))
  · exact hp
  · rw [nI_add, ni_and _ 4 (by decide) (by decide)]; exact hp
  · rw [nmin (a := a) (b := b) (by omega) (by omega)]; exact hp
  · rw [nmax (a := a) (b := b) (by omega) (by omega)]; exact hp
  · rw [pk_mul, ni_and _ 4 (by decide) (by decide)]; exact hp
theorem m_outOf (hc : cOK c) (hr : ∀ i, i < 6 → st i = nI (cSet c i)) {a b : Nat} (ha : a < 16) (hb : b < 16) {post : Int32 → Prop} (hp : post (nI (aOut c a b))) : wp_X8_outOf st (nI a) (nI b) post := by
  show wp_X8_outOf_0 st post (nI a) (nI b)
  unfold wp_X8_outOf_0
  refine ⟨by unfold vp_in; decide, ?_⟩
  have hs : st (1 : Int32).toNatClampNeg = nI (cSet c 1) := hr 1 (by decide)
  rw [hs]
  have hk := hc.2.2.2.2.1.2.1
  unfold aOut at hp
  have hm : a * b < 256 := by
    have := Nat.mul_le_mul (show a ≤ 15 by omega) (show b ≤ 15 by omega)
    omega
  rcases (show cSet c 1 = 0 ∨ cSet c 1 = 1 ∨ cSet c 1 = 2 ∨ cSet c 1 = 3 ∨ cSet c 1 = 4 by omega) with e | e | e | e | e <;> rw [e] at hp ⊢ <;>
    (repeat (first | refine sw_yes (by decide) ?_ | refine sw_no (by decide) ?_))
  · exact hp
  · rw [nI_add, rem16 (by omega)]; exact hp
  · refine pk_le b a (fun h => ?_) (fun h => ?_) rfl rfl (by omega) (by omega)
    · by_cases h2 : b < a
      · rw [if_pos h2] at hp; exact hp
      · have e2 : b = a := by omega
        subst e2; rw [if_neg h2] at hp; exact hp
    · rw [if_neg (show ¬ b < a by omega)] at hp; exact hp
  · refine pk_le a b (fun h => ?_) (fun h => ?_) rfl rfl (by omega) (by omega)
    · by_cases h2 : a < b
      · rw [if_pos h2] at hp; exact hp
      · have e2 : b = a := by omega
        subst e2; rw [if_neg h2] at hp; exact hp
    · rw [if_neg (show ¬ a < b by omega)] at hp; exact hp
  · rw [pk_mul, rem16 (by omega)]; exact hp
end RR
