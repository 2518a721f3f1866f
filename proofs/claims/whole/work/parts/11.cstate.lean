/-! the methods of State, in the picture's words -/
theorem mul4 (v : Nat) : (4 : Int32) * nI v = nI (4 * v) := pk_mul 4 v
theorem mul5 (v : Nat) : (5 : Int32) * nI v = nI (5 * v) := pk_mul 5 v
theorem add20 (v : Nat) : (20 : Int32) + (5 : Int32) * nI v = nI (20 + 5 * v) := by rw [mul5]; exact nI_add 20 _
theorem add45 (f : Nat) : (45 : Int32) + nI f = nI (45 + f) := nI_add 45 f
theorem fld15 {h k : Nat} (hh : h < 2 ^ 64) (hk : k < 64) : (((lN h).toUInt64 >>> ((nI k).toInt64.toUInt64 &&& Int64.toUInt64 63)).toInt64).toInt32 &&& 15 = nI (h / 2 ^ k % 16) := fld_get (w := 4) hh hk (by decide) (by decide)
theorem fld31 {h k : Nat} (hh : h < 2 ^ 64) (hk : k < 64) : (((lN h).toUInt64 >>> ((nI k).toInt64.toUInt64 &&& Int64.toUInt64 63)).toInt64).toInt32 &&& 31 = nI (h / 2 ^ k % 32) := fld_get (w := 5) hh hk (by decide) (by decide)
theorem fld3 {h k : Nat} (hh : h < 2 ^ 64) (hk : k < 64) : (((lN h).toUInt64 >>> ((nI k).toInt64.toUInt64 &&& Int64.toUInt64 63)).toInt64).toInt32 &&& 3 = nI (h / 2 ^ k % 4) := fld_get (w := 2) hh hk (by decide) (by decide)
theorem lg_eq (x y : Int64) : lg_cmp x y = 0 ↔ x = y := by
  unfold lg_cmp
  constructor
  · intro h
    by_cases h1 : x > y
    · rw [if_pos h1] at h; exact absurd h (by decide)
    · rw [if_neg h1] at h
      by_cases h2 : x = y
      · exact h2
      · rw [if_neg h2] at h; exact absurd h (by decide)
  · intro h
    subst h
    by_cases h1 : x > x
    · exact absurd h1 Int64.lt_irrefl
    · rw [if_neg h1, if_pos rfl]
def popc (b : Nat) : Nat := b % 2 + b / 2 % 2 + b / 4 % 2 + b / 8 % 2
theorem w_bitCount {b : Nat} (hb : b < 16) {post : Int32 → Prop} (hp : post (nI (popc b))) : wp_J13_bitCount_95d88 (lN b) post := by
  show wp_J13_bitCount_95d88_0 post (lN b)
  unfold wp_J13_bitCount_95d88_0
  rintro _ rfl _ rfl _ rfl _ rfl _ rfl _ rfl
  have key : ∀ k : Fin 16, (let x0 := lN k.val; let y1 := (x0 - (((x0.toUInt64 >>> ((1 : Int32).toInt64.toUInt64 &&& Int64.toUInt64 63)).toInt64) &&& 6148914691236517205)); let y2 := ((y1 &&& 3689348814741910323) + (((y1.toUInt64 >>> ((2 : Int32).toInt64.toUInt64 &&& Int64.toUInt64 63)).toInt64) &&& 3689348814741910323)); let y3 := ((y2 + ((y2.toUInt64 >>> ((4 : Int32).toInt64.toUInt64 &&& Int64.toUInt64 63)).toInt64)) &&& 1085102592571150095); let y4 := (y3 + ((y3.toUInt64 >>> ((8 : Int32).toInt64.toUInt64 &&& Int64.toUInt64 63)).toInt64)); let y5 := (y4 + ((y4.toUInt64 >>> ((16 : Int32).toInt64.toUInt64 &&& Int64.toUInt64 63)).toInt64)); let y6 := (y5 + ((y5.toUInt64 >>> ((32 : Int32).toInt64.toUInt64 &&& Int64.toUInt64 63)).toInt64)); (y6.toInt32 &&& 127)) = nI (popc k.val) := by decide +kernel
  exact (key ⟨b, hb⟩).symm ▸ hp
theorem came_countF : ∀ (nf : Fin 5) (x0 x1 x2 x3 : Fin 2), (∀ i : Fin 4, nf.val ≤ i.val → [x0.val, x1.val, x2.val, x3.val].getD i.val 0 = 0) → popc (dig 2 [x0.val, x1.val, x2.val, x3.val]) + ((List.range nf.val).filter (fun f => decide ([x0.val, x1.val, x2.val, x3.val].getD f 0 = 0))).length = nf.val := by decide +kernel
theorem came_count {nf : Nat} (hn : nf ≤ 4) : ∀ {l : List Nat}, l.length = 4 → (∀ d ∈ l, d < 2) → (∀ i, nf ≤ i → l.getD i 0 = 0) → popc (dig 2 l) + ((List.range nf).filter (fun f => decide (l.getD f 0 = 0))).length = nf
  | [x0, x1, x2, x3], _, hb, hz => came_countF ⟨nf, by omega⟩ ⟨x0, hb x0 (by simp)⟩ ⟨x1, hb x1 (by simp)⟩ ⟨x2, hb x2 (by simp)⟩ ⟨x3, hb x3 (by simp)⟩ (fun i hi => hz i.val hi)
section CS
variable {c : Cf} {a : AS} {hd ln : Int64} {rw : Nat → Int64}
theorem eH_64 (h : sOK c a) : eHead a < 2 ^ 64 := Nat.lt_trans (eH_lt h) (by decide)
theorem eL_64 (h : sOK c a) : eLen a < 2 ^ 64 := Nat.lt_trans (eL_lt h) (by decide)
theorem w_valueOf (h : sOK c a) (hr : hd = lN (eHead a)) {v : Nat} (hv : v < 5) {post : Int32 → Prop} (hp : post (nI ((sV a).getD v 0))) : wp_X4_valueOf hd (nI v) post := by
  show wp_X4_valueOf_0 hd post (nI v)
  unfold wp_X4_valueOf_0
  rw [hr, mul4, fld15 (eH_64 h) (by omega), eH_val h hv]
  exact hp
theorem w_sentBy (h : sOK c a) (hr : hd = lN (eHead a)) {v : Nat} (hv : v < 5) {post : Int32 → Prop} (hp : post (nI ((sS a).getD v 0))) : wp_X4_sentBy hd (nI v) post := by
  show wp_X4_sentBy_0 hd post (nI v)
  unfold wp_X4_sentBy_0
  rw [hr, add20, fld31 (eH_64 h) (by omega), eH_sent h hv]
  exact hp
theorem w_doublesLeft (h : sOK c a) (hr : hd = lN (eHead a)) {post : Int32 → Prop} (hp : post (nI (sD a))) : wp_X4_doublesLeft hd post := by
  show wp_X4_doublesLeft_0 hd post
  unfold wp_X4_doublesLeft_0
  rw [hr, show (49 : Int32) = nI 49 from rfl, fld3 (eH_64 h) (by omega), eH_dbl h]
  exact hp
theorem w_allValues (h : sOK c a) (hr : hd = lN (eHead a)) {post : Int32 → Prop} (hp : post (nI (dig 16 (sV a)))) : wp_X4_allValues hd post := by
  show wp_X4_allValues_0 hd post
  unfold wp_X4_allValues_0
  rw [hr, lN_i, ni_and _ 20 (by decide) (by decide), eH_vals h]
  exact hp
theorem w_hasCome (h : sOK c a) (hr : hd = lN (eHead a)) {f : Nat} (hf : f < 4) {post : Int32 → Prop} (hp : post (if (sC a).getD f 0 = 0 then 0 else 1)) : wp_X4_hasCome hd (nI f) post := by
  show wp_X4_hasCome_0 hd post (nI f)
  unfold wp_X4_hasCome_0
  rw [hr, add45, wb_bit (eH_64 h) (by omega), eH_came h hf, show (0 : Int64) = lN 0 from rfl]
  have hb := getD_all h.bC (by decide) f
  constructor
  · intro q
    have := (lN_eq (by omega) (by decide)).mp ((lg_eq _ _).mp q)
    rw [if_pos this] at hp; exact hp
  · intro q
    have : ¬ (sC a).getD f 0 = 0 := fun z => q (by rw [z]; exact (lg_eq _ _).mpr rfl)
    rw [if_neg this] at hp; exact hp
theorem w_underWay (h : sOK c a) (hr : ln = lN (eLen a)) {i : Nat} (hi : i < 8) {post : Int32 → Prop} (hp : post (nI ((sR a).getD i []).length)) : wp_X4_underWay ln (nI i) post := by
  show wp_X4_underWay_0 ln post (nI i)
  unfold wp_X4_underWay_0
  rw [hr, mul5, fld31 (eL_64 h) (by omega), eL_get h hi]
  exact hp
theorem w_messageAt (h : sOK c a) (hr : ∀ i, i < 8 → rw i = lN (eRow a i)) {i p : Nat} (hi : i < 8) (hp0 : p < ((sR a).getD i []).length) {post : Int32 → Prop} (hp : post (nI (((sR a).getD i []).getD p 0))) : wp_X4_messageAt rw (nI i) (nI p) post := by
  show wp_X4_messageAt_0 rw post (nI i) (nI p)
  unfold wp_X4_messageAt_0
  have h16 := h.len16 i
  refine ⟨vp_in_nI hi (by decide), ?_⟩
  rw [nI_clamp (by omega), hr i hi, mul4, fld15 (eR_lt h i) (by omega), eR_get h hp0]
  exact hp
theorem w_change (h : sOK c a) (hr : hd = lN (eHead a)) {v y : Nat} (hv : v < 5) (hy : y < 16) {post : Int64 → Prop} (hp : post (lN (eHead ((sV a).set v y, sS a, sC a, sD a, sR a)))) : wp_X4_change hd (nI v) (nI y) post := by
  show wp_X4_change_0 post (nI v) (nI y) hd
  unfold wp_X4_change_0
  refine w_valueOf h hr hv ?_
  have hx := getD_all h.bV (by decide) v
  have hxy : ((sV a).getD v 0 ^^^ y) < 2 ^ 4 := Nat.xor_lt_two_pow (n := 4) hx hy
  have hk : ((sV a).getD v 0 ^^^ y) * 2 ^ (4 * v) < 2 ^ 64 := by
    have h1 : ((sV a).getD v 0 ^^^ y) * 2 ^ (4 * v) < 2 ^ 4 * 2 ^ (4 * v) := Nat.mul_lt_mul_of_pos_right hxy (Nat.pow_pos (by decide))
    rw [← Nat.pow_add] at h1
    exact Nat.lt_of_lt_of_le h1 (Nat.pow_le_pow_right (by decide) (by omega))
  rw [hr, nx_xor, nI_l (by omega), mul4, wb_shl _ (by omega), lx_xor (eH_64 h) hk]
  have e1 := xor_dig (eH_val h hv) hy
  have e2 := dig_set 16 (sV a) v y (by rw [h.lV]; exact hv)
  have e3 : eHead ((sV a).set v y, sS a, sC a, sD a, sR a) = eHead a ^^^ (((sV a).getD v 0 ^^^ y) * 2 ^ (4 * v)) := by
    have e4 : eHead ((sV a).set v y, sS a, sC a, sD a, sR a) = dig 16 ((sV a).set v y) + 2 ^ 20 * eH1 a := rfl
    have e5 : eHead a = dig 16 (sV a) + 2 ^ 20 * eH1 a := rfl
    rw [← pow4] at e2
    omega
  rw [← e3]
  exact hp
theorem w_countSend (h : sOK c a) (hr : hd = lN (eHead a)) {v : Nat} (hv : v < 5) {post : Int64 → Prop} (hp : post (lN (eHead (sV a, (sS a).set v ((sS a).getD v 0 + 1), sC a, sD a, sR a)))) : wp_X4_countSend hd (nI v) post := by
  show wp_X4_countSend_0 post (nI v) hd
  unfold wp_X4_countSend_0
  rw [hr, add20, show (1 : Int64) = lN 1 from rfl, wb_shl _ (by omega), lN_add]
  have e2 := dig_set 32 (sS a) v ((sS a).getD v 0 + 1) (by rw [h.lS]; exact hv)
  have e3 : eHead (sV a, (sS a).set v ((sS a).getD v 0 + 1), sC a, sD a, sR a) = eHead a + 1 * 2 ^ (20 + 5 * v) := by
    have e4 : eHead (sV a, (sS a).set v ((sS a).getD v 0 + 1), sC a, sD a, sR a) = dig 16 (sV a) + 2 ^ 20 * (dig 32 ((sS a).set v ((sS a).getD v 0 + 1)) + 2 ^ 25 * eH2 a) := rfl
    have e5 : eHead a = dig 16 (sV a) + 2 ^ 20 * (dig 32 (sS a) + 2 ^ 25 * eH2 a) := rfl
    rw [← pow5, Nat.add_mul, Nat.one_mul] at e2
    rw [Nat.one_mul, Nat.pow_add]
    omega
  rw [← e3]
  exact hp
theorem w_markCome (h : sOK c a) (hr : hd = lN (eHead a)) {f : Nat} (hf : f < 4) (h0 : (sC a).getD f 0 = 0) {post : Int64 → Prop} (hp : post (lN (eHead (sV a, sS a, (sC a).set f 1, sD a, sR a)))) : wp_X4_markCome hd (nI f) post := by
  show wp_X4_markCome_0 post (nI f) hd
  unfold wp_X4_markCome_0
  have hk : 1 * 2 ^ (45 + f) < 2 ^ 64 := by rw [Nat.one_mul]; exact Nat.pow_lt_pow_right (by decide) (by omega)
  rw [hr, add45, show (1 : Int64) = lN 1 from rfl, wb_shl _ (by omega), wb_or (eH_64 h) hk, or_dig (w := 1) (by rw [show (2 : Nat) ^ 1 = 2 from rfl, eH_came h hf, h0]) (by decide)]
  have e2 := dig_set 2 (sC a) f 1 (by rw [h.lC]; exact hf)
  have e3 : eHead (sV a, sS a, (sC a).set f 1, sD a, sR a) = eHead a + 1 * 2 ^ (45 + f) := by
    have e4 : eHead (sV a, sS a, (sC a).set f 1, sD a, sR a) = dig 16 (sV a) + 2 ^ 20 * (dig 32 (sS a) + 2 ^ 25 * (dig 2 ((sC a).set f 1) + 2 ^ 4 * sD a)) := rfl
    have e5 : eHead a = dig 16 (sV a) + 2 ^ 20 * (dig 32 (sS a) + 2 ^ 25 * (dig 2 (sC a) + 2 ^ 4 * sD a)) := rfl
    rw [h0] at e2
    rw [Nat.one_mul, Nat.pow_add]
    omega
  rw [← e3]
  exact hp
theorem w_useDouble (h : sOK c a) (hr : hd = lN (eHead a)) (h0 : 0 < sD a) {post : Int64 → Prop} (hp : post (lN (eHead (sV a, sS a, sC a, sD a - 1, sR a)))) : wp_X4_useDouble hd post := by
  show wp_X4_useDouble_0 post hd
  unfold wp_X4_useDouble_0
  have e5 : eHead a = dig 16 (sV a) + 2 ^ 20 * (dig 32 (sS a) + 2 ^ 25 * (dig 2 (sC a) + 2 ^ 4 * sD a)) := rfl
  have e4 : eHead (sV a, sS a, sC a, sD a - 1, sR a) = dig 16 (sV a) + 2 ^ 20 * (dig 32 (sS a) + 2 ^ 25 * (dig 2 (sC a) + 2 ^ 4 * (sD a - 1))) := rfl
  rw [hr, show (562949953421312 : Int64) = lN 562949953421312 from rfl, lN_sub (by omega)]
  have e3 : eHead (sV a, sS a, sC a, sD a - 1, sR a) = eHead a - 562949953421312 := by omega
  rw [← e3]
  exact hp
end CS
