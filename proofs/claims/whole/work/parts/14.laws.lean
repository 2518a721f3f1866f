/-! the laws of FOLD, on both sides -/
def aHolds (c : Cf) (w a b x : Nat) : Bool :=
  if w = 0 then decide (aFold c (aFold c a b) x = aFold c a (aFold c b x)) else if w = 1 then decide (aFold c a b = aFold c b a) else if w = 2 then decide (aFold c a a = a)
  else if w = 3 then decide (aFold c (aFold c a b) x = aFold c (aFold c a x) b) else if w = 4 then decide (aFold c (aFold c a b) b = aFold c a b) else if w = 5 then (decide (b < a) || decide (aFold c a x ≤ aFold c b x)) else decide (aFold c a b ≤ a)
theorem b_eq {x y : Nat} (hx : x < 16) (hy : y < 16) {post : Int32 → Prop} (hp : post (if decide (x = y) = true then 1 else 0)) : (¬ nI x = nI y → post 0) ∧ (nI x = nI y → post 1) := by
  by_cases h : x = y
  · rw [if_pos (by simpa using h)] at hp; exact ⟨fun q => absurd (by rw [h]) q, fun _ => hp⟩
  · rw [if_neg (by simpa using h)] at hp; exact ⟨fun _ => hp, fun q => absurd ((nI_eq (by omega) (by omega)).mp q) h⟩
theorem b_le {x y : Nat} (hx : x < 16) (hy : y < 16) {post : Int32 → Prop} (hp : post (if decide (x ≤ y) = true then 1 else 0)) : (nI y < nI x → post 0) ∧ (¬ nI y < nI x → post 1) := by
  by_cases h : x ≤ y
  · rw [if_pos (by simpa using h)] at hp; exact ⟨fun q => absurd q (nI_nlt h (by omega)), fun _ => hp⟩
  · rw [if_neg (by simpa using h)] at hp; exact ⟨fun _ => hp, fun q => absurd (nI_lt (by omega) (by omega)) q⟩
/-- the first answer of f at i, i + 1, .. (k of them) -/
def fst (f : Nat → Option Nat) : Nat → Nat → Option Nat
  | 0, _ => none
  | k + 1, i => match f i with
    | some r => some r
    | none => fst f k (i + 1)
theorem fst_s {f : Nat → Option Nat} {k i : Nat} (h : i < k) : fst f (k - i) i = match f i with | some r => some r | none => fst f (k - (i + 1)) (i + 1) := by
  obtain ⟨j, hj⟩ : ∃ j, k - i = j + 1 := ⟨k - i - 1, by omega⟩
  rw [hj, show k - (i + 1) = j by omega]
  rfl
def lawC (c : Cf) (w a b : Nat) (x : Nat) : Option Nat := if aHolds c w a b x = true then none else some (256 * a + 16 * b + x)
def lawB (c : Cf) (w nc a : Nat) (b : Nat) : Option Nat := fst (lawC c w a b) nc 0
def lawA (c : Cf) (w nb nc : Nat) (a : Nat) : Option Nat := fst (lawB c w nc a) nb 0
def lawNb (w : Nat) : Nat := if w = 2 then 1 else 16
def lawNc (w : Nat) : Nat := if w = 0 ∨ w = 3 ∨ w = 5 then 16 else 1
def aLaw (c : Cf) (w : Nat) : Int32 := match fst (lawA c w (lawNb w) (lawNc w)) 16 0 with
  | some r => nI r
  | none => -1
section LW
variable {c : Cf} {st told : Nat → Int32}
theorem w_holds (hc : cOK c) (hr : rRep c st told) {w a b x : Nat} (hw : w ≤ 6) (ha : a < 16) (hb : b < 16) (hx : x < 16) {post : Int32 → Prop} (hp : post (if aHolds c w a b x = true then 1 else 0)) : wp_X2_lawHolds st told (nI w) (nI a) (nI b) (nI x) post := by
  show wp_X2_lawHolds_0 st told post (nI w) (nI a) (nI b) (nI x)
  unfold wp_X2_lawHolds_0
  unfold aHolds at hp
  have fl : ∀ {p q : Nat}, p < 16 → q < 16 → aFold c p q < 16 := fun h1 h2 => aFold_lt hc h1 h2
  rcases (show w = 0 ∨ w = 1 ∨ w = 2 ∨ w = 3 ∨ w = 4 ∨ w = 5 ∨ w = 6 by omega) with e | e | e | e | e | e | e <;> subst e <;>
    (repeat (first | refine sw_yes (by decide) ?_ | refine sw_no (by decide) ?_))
  · refine w_folded hc hr ha hb (w_folded hc hr (fl ha hb) hx (w_folded hc hr hb hx (w_folded hc hr ha (fl hb hx) ?_)))
    exact b_eq (fl (fl ha hb) hx) (fl ha (fl hb hx)) hp
  · refine w_folded hc hr ha hb (w_folded hc hr hb ha ?_)
    exact b_eq (fl ha hb) (fl hb ha) hp
  · refine w_folded hc hr ha ha ?_
    exact b_eq (fl ha ha) ha hp
  · refine w_folded hc hr ha hb (w_folded hc hr (fl ha hb) hx (w_folded hc hr ha hx (w_folded hc hr (fl ha hx) hb ?_)))
    exact b_eq (fl (fl ha hb) hx) (fl (fl ha hx) hb) hp
  · refine w_folded hc hr ha hb (w_folded hc hr (fl ha hb) hb (w_folded hc hr ha hb ?_))
    exact b_eq (fl (fl ha hb) hb) (fl ha hb) hp
  · have hp : post (if (decide (b < a) || decide (aFold c a x ≤ aFold c b x)) = true then 1 else 0) := hp
    refine pk_lt b a (fun h => ?_) (fun h => ?_) rfl rfl (by omega) (by omega)
    · rw [if_pos (by simp [h])] at hp; exact hp
    · refine w_folded hc hr ha hx (w_folded hc hr hb hx ?_)
      have hp : post (if decide (aFold c a x ≤ aFold c b x) = true then 1 else 0) := by
        simpa [show ¬ b < a by omega] using hp
      exact b_le (fl ha hx) (fl hb hx) hp
  · refine w_folded hc hr ha hb ?_
    exact b_le (fl ha hb) ha hp
theorem m_holds (hc : cOK c) (hr : rRep c st told) {w a b x : Nat} (hw : w ≤ 6) (ha : a < 16) (hb : b < 16) (hx : x < 16) {post : Int32 → Prop} (hp : post (if aHolds c w a b x = true then 1 else 0)) : wp_X8_holds st told (nI w) (nI a) (nI b) (nI x) post := by
  show wp_X8_holds_0 st told post (nI w) (nI a) (nI b) (nI x)
  unfold wp_X8_holds_0
  unfold aHolds at hp
  have fl : ∀ {p q : Nat}, p < 16 → q < 16 → aFold c p q < 16 := fun h1 h2 => aFold_lt hc h1 h2
  rcases (show w = 0 ∨ w = 1 ∨ w = 2 ∨ w = 3 ∨ w = 4 ∨ w = 5 ∨ w = 6 by omega) with e | e | e | e | e | e | e <;> subst e <;>
    (repeat (first | refine sw_yes (by decide) ?_ | refine sw_no (by decide) ?_))
  · refine m_folded hc hr ha hb (m_folded hc hr (fl ha hb) hx (m_folded hc hr hb hx (m_folded hc hr ha (fl hb hx) ?_)))
    exact b_eq (fl (fl ha hb) hx) (fl ha (fl hb hx)) hp
  · refine m_folded hc hr ha hb (m_folded hc hr hb ha ?_)
    exact b_eq (fl ha hb) (fl hb ha) hp
  · refine m_folded hc hr ha ha ?_
    exact b_eq (fl ha ha) ha hp
  · refine m_folded hc hr ha hb (m_folded hc hr (fl ha hb) hx (m_folded hc hr ha hx (m_folded hc hr (fl ha hx) hb ?_)))
    exact b_eq (fl (fl ha hb) hx) (fl (fl ha hx) hb) hp
  · refine m_folded hc hr ha hb (m_folded hc hr (fl ha hb) hb (m_folded hc hr ha hb ?_))
    exact b_eq (fl (fl ha hb) hb) (fl ha hb) hp
  · have hp : post (if (decide (b < a) || decide (aFold c a x ≤ aFold c b x)) = true then 1 else 0) := hp
    refine pk_lt b a (fun h => ?_) (fun h => ?_) rfl rfl (by omega) (by omega)
    · rw [if_pos (by simp [h])] at hp; exact hp
    · refine m_folded hc hr ha hx (m_folded hc hr hb hx ?_)
      have hp : post (if decide (aFold c a x ≤ aFold c b x) = true then 1 else 0) := by
        simpa [show ¬ b < a by omega] using hp
      exact b_le (fl ha hx) (fl hb hx) hp
  · refine m_folded hc hr ha hb ?_
    exact b_le (fl ha hb) ha hp
theorem w_law3 (hc : cOK c) (hr : rRep c st told) {w a b nb nc : Nat} (hw : w ≤ 6) (ha : a < 16) (hb : b < 16) (hnc : 1 ≤ nc ∧ nc ≤ 16) {post : Int32 → Prop} {K1 K2 : Int32 → Prop} (h0 : lawB c w nc a b = none → K2 (nI b + 1)) (h1 : ∀ r, lawB c w nc a b = some r → post (nI r)) : wp_X7_law_67 st told post K1 K2 (nI w) (nI (nb - 1)) (nI (nc - 1)) (nI a) (nI b) 0 := by
  unfold wp_X7_law_67
  refine ⟨fun k x6 => ∃ i, i ≤ nc ∧ k = nc - i ∧ x6 = nI i ∧ fst (lawC c w a b) (nc - i) i = lawB c w nc a b, nc, ⟨0, by omega, rfl, rfl, rfl⟩, ?_⟩
  rintro k x6 ⟨i, hi, rfl, rfl, hI⟩
  unfold bd_X7_law_67
  refine pk_lt (nc - 1) i (fun h => ?_) (fun h => ?_) rfl rfl (by omega) (by omega)
  · have e : i = nc := by omega
    subst e
    rw [Nat.sub_self] at hI
    exact h0 hI.symm
  · refine w_holds hc hr hw ha hb (show i < 16 by omega) ?_
    have hlt : i < nc := by omega
    rw [fst_s hlt] at hI
    unfold lawC at hI
    by_cases q : aHolds c w a b i = true
    · rw [if_pos q] at hI ⊢
      exact ns_no (by decide) ⟨nc - (i + 1), by omega, i + 1, by omega, rfl, nI_inc i, hI⟩
    · rw [if_neg q] at hI ⊢
      refine ns_yes rfl ?_
      have := h1 _ hI.symm
      rw [show (256 : Int32) = nI 256 from rfl, show (16 : Int32) = nI 16 from rfl, pk_mul, pk_mul, nI_add, nI_add]
      exact this
theorem w_law2 (hc : cOK c) (hr : rRep c st told) {w a nb nc : Nat} (hw : w ≤ 6) (ha : a < 16) (hnb : 1 ≤ nb ∧ nb ≤ 16) (hnc : 1 ≤ nc ∧ nc ≤ 16) {post : Int32 → Prop} {K1 : Int32 → Prop} (h0 : lawA c w nb nc a = none → K1 (nI a + 1)) (h1 : ∀ r, lawA c w nb nc a = some r → post (nI r)) : wp_X7_law_58 st told post K1 (nI w) (nI (nb - 1)) (nI (nc - 1)) (nI a) 0 := by
  unfold wp_X7_law_58
  refine ⟨fun k x5 => ∃ i, i ≤ nb ∧ k = nb - i ∧ x5 = nI i ∧ fst (lawB c w nc a) (nb - i) i = lawA c w nb nc a, nb, ⟨0, by omega, rfl, rfl, rfl⟩, ?_⟩
  rintro k x5 ⟨i, hi, rfl, rfl, hI⟩
  unfold bd_X7_law_58
  refine pk_lt (nb - 1) i (fun h => ?_) (fun h => ?_) rfl rfl (by omega) (by omega)
  · have e : i = nb := by omega
    subst e
    rw [Nat.sub_self] at hI
    exact h0 hI.symm
  · have hlt : i < nb := by omega
    rw [fst_s hlt] at hI
    refine w_law3 hc hr hw ha (by omega) hnc (fun q => ?_) (fun r q => ?_)
    · rw [q] at hI
      exact ⟨nb - (i + 1), by omega, i + 1, by omega, rfl, nI_inc i, hI⟩
    · rw [q] at hI
      exact h1 r hI.symm
theorem w_law1 (hc : cOK c) (hr : rRep c st told) {w nb nc : Nat} (hw : w ≤ 6) (hnb : 1 ≤ nb ∧ nb ≤ 16) (hnc : 1 ≤ nc ∧ nc ≤ 16) {post : Int32 → Prop} (h0 : fst (lawA c w nb nc) 16 0 = none → post (-1)) (h1 : ∀ r, fst (lawA c w nb nc) 16 0 = some r → post (nI r)) : wp_X7_law_48 st told post (nI w) (nI (nb - 1)) (nI (nc - 1)) 0 := by
  unfold wp_X7_law_48
  refine ⟨fun k x4 => ∃ i, i ≤ 16 ∧ k = 16 - i ∧ x4 = nI i ∧ fst (lawA c w nb nc) (16 - i) i = fst (lawA c w nb nc) 16 0, 16, ⟨0, by omega, rfl, rfl, rfl⟩, ?_⟩
  rintro k x4 ⟨i, hi, rfl, rfl, hI⟩
  unfold bd_X7_law_48
  refine pk_lt 15 i (fun h => ?_) (fun h => ?_) rfl rfl (by omega) (by omega)
  · have e : i = 16 := by omega
    subst e
    exact h0 hI.symm
  · have hlt : i < 16 := by omega
    rw [fst_s hlt] at hI
    refine w_law2 hc hr hw (by omega) hnb hnc (fun q => ?_) (fun r q => ?_)
    · rw [q] at hI
      exact ⟨16 - (i + 1), by omega, i + 1, by omega, rfl, nI_inc i, hI⟩
    · rw [q] at hI
      exact h1 r hI.symm
theorem m_law3 (hc : cOK c) (hr : rRep c st told) {w a b nb nc : Nat} (hw : w ≤ 6) (ha : a < 16) (hb : b < 16) (hnc : 1 ≤ nc ∧ nc ≤ 16) {post : Int32 → Prop} {K1 K2 : Int32 → Prop} (h0 : lawB c w nc a b = none → K2 (nI b + 1)) (h1 : ∀ r, lawB c w nc a b = some r → post (nI r)) : wp_X8_law_68 st told post K1 K2 (nI w) (nI nb) (nI nc) (nI a) (nI b) 0 := by
  unfold wp_X8_law_68
  refine ⟨fun k x6 => ∃ i, i ≤ nc ∧ k = nc - i ∧ x6 = nI i ∧ fst (lawC c w a b) (nc - i) i = lawB c w nc a b, nc, ⟨0, by omega, rfl, rfl, rfl⟩, ?_⟩
  rintro k x6 ⟨i, hi, rfl, rfl, hI⟩
  unfold bd_X8_law_68
  refine pk_le nc i (fun h => ?_) (fun h => ?_) rfl rfl (by omega) (by omega)
  · have e : i = nc := by omega
    subst e
    rw [Nat.sub_self] at hI
    exact h0 hI.symm
  · refine m_holds hc hr hw ha hb (show i < 16 by omega) ?_
    have hlt : i < nc := by omega
    rw [fst_s hlt] at hI
    unfold lawC at hI
    by_cases q : aHolds c w a b i = true
    · rw [if_pos q] at hI ⊢
      exact ns_no (by decide) ⟨nc - (i + 1), by omega, i + 1, by omega, rfl, nI_inc i, hI⟩
    · rw [if_neg q] at hI ⊢
      refine ns_yes rfl ?_
      have := h1 _ hI.symm
      rw [show (256 : Int32) = nI 256 from rfl, show (16 : Int32) = nI 16 from rfl, pk_mul, pk_mul, nI_add, nI_add]
      exact this
theorem m_law2 (hc : cOK c) (hr : rRep c st told) {w a nb nc : Nat} (hw : w ≤ 6) (ha : a < 16) (hnb : 1 ≤ nb ∧ nb ≤ 16) (hnc : 1 ≤ nc ∧ nc ≤ 16) {post : Int32 → Prop} {K1 : Int32 → Prop} (h0 : lawA c w nb nc a = none → K1 (nI a + 1)) (h1 : ∀ r, lawA c w nb nc a = some r → post (nI r)) : wp_X8_law_59 st told post K1 (nI w) (nI nb) (nI nc) (nI a) 0 := by
  unfold wp_X8_law_59
  refine ⟨fun k x5 => ∃ i, i ≤ nb ∧ k = nb - i ∧ x5 = nI i ∧ fst (lawB c w nc a) (nb - i) i = lawA c w nb nc a, nb, ⟨0, by omega, rfl, rfl, rfl⟩, ?_⟩
  rintro k x5 ⟨i, hi, rfl, rfl, hI⟩
  unfold bd_X8_law_59
  refine pk_le nb i (fun h => ?_) (fun h => ?_) rfl rfl (by omega) (by omega)
  · have e : i = nb := by omega
    subst e
    rw [Nat.sub_self] at hI
    exact h0 hI.symm
  · have hlt : i < nb := by omega
    rw [fst_s hlt] at hI
    refine m_law3 hc hr hw ha (by omega) hnc (fun q => ?_) (fun r q => ?_)
    · rw [q] at hI
      exact ⟨nb - (i + 1), by omega, i + 1, by omega, rfl, nI_inc i, hI⟩
    · rw [q] at hI
      exact h1 r hI.symm
theorem m_law1 (hc : cOK c) (hr : rRep c st told) {w nb nc : Nat} (hw : w ≤ 6) (hnb : 1 ≤ nb ∧ nb ≤ 16) (hnc : 1 ≤ nc ∧ nc ≤ 16) {post : Int32 → Prop} (h0 : fst (lawA c w nb nc) 16 0 = none → post (-1)) (h1 : ∀ r, fst (lawA c w nb nc) 16 0 = some r → post (nI r)) : wp_X8_law_49 st told post (nI w) (nI nb) (nI nc) 0 := by
  unfold wp_X8_law_49
  refine ⟨fun k x4 => ∃ i, i ≤ 16 ∧ k = 16 - i ∧ x4 = nI i ∧ fst (lawA c w nb nc) (16 - i) i = fst (lawA c w nb nc) 16 0, 16, ⟨0, by omega, rfl, rfl, rfl⟩, ?_⟩
  rintro k x4 ⟨i, hi, rfl, rfl, hI⟩
  unfold bd_X8_law_49
  refine pk_le 16 i (fun h => ?_) (fun h => ?_) rfl rfl (by omega) (by omega)
  · have e : i = 16 := by omega
    subst e
    exact h0 hI.symm
  · have hlt : i < 16 := by omega
    rw [fst_s hlt] at hI
    refine m_law2 hc hr hw (by omega) hnb hnc (fun q => ?_) (fun r q => ?_)
    · rw [q] at hI
      exact ⟨16 - (i + 1), by omega, i + 1, by omega, rfl, nI_inc i, hI⟩
    · rw [q] at hI
      exact h1 r hI.symm
theorem isWithin_i {x lo hi : Int32} {post : Int32 → Prop} (h1 : ¬ x < lo → ¬ hi < x → post 1) (h0 : x < lo ∨ hi < x → post 0) : wp_X7_isWithin x lo hi post := by
  show wp_X7_isWithin_0 post x lo hi
  unfold wp_X7_isWithin_0 wp_X7_isWithin_14
  exact ⟨fun q => h0 (Or.inl q), fun q => ⟨fun q2 => h0 (Or.inr q2), fun q2 => h1 q q2⟩⟩
theorem in_i {x lo hi : Int32} {post : Int32 → Prop} (h1 : ¬ x < lo → ¬ hi < x → post 1) (h0 : x < lo ∨ hi < x → post 0) : wp_X8_in x lo hi post := by
  show wp_X8_in_0 post x lo hi
  unfold wp_X8_in_0 wp_X8_in_14
  exact ⟨fun q => h0 (Or.inl q), fun q => ⟨fun q2 => h0 (Or.inr q2), fun q2 => h1 q q2⟩⟩
theorem isValue_i {x : Int32} {post : Int32 → Prop} (h1 : ¬ x < 0 → ¬ 15 < x → post 1) (h0 : x < 0 ∨ 15 < x → post 0) : wp_X7_isValue x post := by
  show wp_X7_isValue_0 post x
  unfold wp_X7_isValue_0 wp_X7_isValue_14
  exact ⟨fun q => h0 (Or.inl q), fun q => ⟨fun q2 => h0 (Or.inr q2), fun q2 => h1 q q2⟩⟩
/-- a number within, as a natural one -/
theorem within_n {x : Int32} {M : Int32} {n : Nat} (hM : M.toInt = n) (h : ¬ x < 0) (h2 : ¬ M < x) : ∃ j : Nat, j ≤ n ∧ x = nI j := nI_of2 hM h (Int32.not_lt.mp h2)
theorem w_law (hc : cOK c) (hr : rRep c st told) {x : Int32} {post : Int32 → Prop} (h1 : ∀ w : Nat, w ≤ 6 → x = nI w → post (aLaw c w)) (h0 : x < 0 ∨ 6 < x → post (-102)) : wp_X7_law st told x post := by
  show wp_X7_law_0 st told post x
  unfold wp_X7_law_0
  refine isWithin_i (fun a b => ns_no (by decide) ?_) (fun q => ns_yes rfl (h0 q))
  obtain ⟨w, hw, rfl⟩ := within_n (n := 6) (by decide) a b
  refine ⟨vp_in_nI (by omega) (by decide), ?_⟩
  have h2 := h1 w hw rfl
  have fin : ∀ nb nc : Nat, nb = lawNb w → nc = lawNc w → 1 ≤ nb ∧ nb ≤ 16 → 1 ≤ nc ∧ nc ≤ 16 → wp_X7_law_48 st told post (nI w) (nI (nb - 1)) (nI (nc - 1)) 0 := by
    intro nb nc e1 e2 b1 b2
    subst e1; subst e2
    unfold aLaw at h2
    exact w_law1 hc hr hw b1 b2 (fun q => by rw [q] at h2; exact h2) (fun r q => by rw [q] at h2; exact h2)
  rcases (show w = 0 ∨ w = 1 ∨ w = 2 ∨ w = 3 ∨ w = 4 ∨ w = 5 ∨ w = 6 by omega) with e | e | e | e | e | e | e <;> subst e
  · refine ⟨fun q => absurd q (by decide), fun _ => ⟨by unfold vp_in; decide, fun q => absurd q (by decide), fun _ => fin 16 16 rfl rfl (by decide) (by decide)⟩⟩
  · refine ⟨fun q => absurd q (by decide), fun _ => ⟨by unfold vp_in; decide, fun _ => fin 16 1 rfl rfl (by decide) (by decide), fun q => absurd (by decide) q⟩⟩
  · refine ⟨fun _ => ⟨by unfold vp_in; decide, fun _ => fin 1 1 rfl rfl (by decide) (by decide), fun q => absurd (by decide) q⟩, fun q => absurd (by decide) q⟩
  · refine ⟨fun q => absurd q (by decide), fun _ => ⟨by unfold vp_in; decide, fun q => absurd q (by decide), fun _ => fin 16 16 rfl rfl (by decide) (by decide)⟩⟩
  · refine ⟨fun q => absurd q (by decide), fun _ => ⟨by unfold vp_in; decide, fun _ => fin 16 1 rfl rfl (by decide) (by decide), fun q => absurd (by decide) q⟩⟩
  · refine ⟨fun q => absurd q (by decide), fun _ => ⟨by unfold vp_in; decide, fun q => absurd q (by decide), fun _ => fin 16 16 rfl rfl (by decide) (by decide)⟩⟩
  · refine ⟨fun q => absurd q (by decide), fun _ => ⟨by unfold vp_in; decide, fun _ => fin 16 1 rfl rfl (by decide) (by decide), fun q => absurd (by decide) q⟩⟩
theorem m_law (hc : cOK c) (hr : rRep c st told) {x : Int32} {post : Int32 → Prop} (h1 : ∀ w : Nat, w ≤ 6 → x = nI w → post (aLaw c w)) (h0 : x < 0 ∨ 6 < x → post (-102)) : wp_X8_law st told x post := by
  show wp_X8_law_0 st told post x
  unfold wp_X8_law_0
  refine in_i (fun a b => ns_no (by decide) ?_) (fun q => ns_yes rfl (h0 q))
  obtain ⟨w, hw, rfl⟩ := within_n (n := 6) (by decide) a b
  have h2 := h1 w hw rfl
  have fin : ∀ nb nc : Nat, nb = lawNb w → nc = lawNc w → 1 ≤ nb ∧ nb ≤ 16 → 1 ≤ nc ∧ nc ≤ 16 → wp_X8_law_49 st told post (nI w) (nI nb) (nI nc) 0 := by
    intro nb nc e1 e2 b1 b2
    subst e1; subst e2
    unfold aLaw at h2
    exact m_law1 hc hr hw b1 b2 (fun q => by rw [q] at h2; exact h2) (fun r q => by rw [q] at h2; exact h2)
  rcases (show w = 0 ∨ w = 1 ∨ w = 2 ∨ w = 3 ∨ w = 4 ∨ w = 5 ∨ w = 6 by omega) with e | e | e | e | e | e | e <;> subst e
  · exact ns_no (by decide) (sw_yes rfl (fin 16 16 rfl rfl (by decide) (by decide)))
  · exact ns_no (by decide) (sw_no (by decide) (sw_no (by decide) (ns_no (by decide) (fin 16 1 rfl rfl (by decide) (by decide)))))
  · exact ns_yes rfl (sw_no (by decide) (sw_no (by decide) (ns_no (by decide) (fin 1 1 rfl rfl (by decide) (by decide)))))
  · exact ns_no (by decide) (sw_no (by decide) (sw_yes rfl (fin 16 16 rfl rfl (by decide) (by decide))))
  · exact ns_no (by decide) (sw_no (by decide) (sw_no (by decide) (ns_no (by decide) (fin 16 1 rfl rfl (by decide) (by decide)))))
  · exact ns_no (by decide) (sw_no (by decide) (sw_no (by decide) (ns_yes rfl (fin 16 16 rfl rfl (by decide) (by decide)))))
  · exact ns_no (by decide) (sw_no (by decide) (sw_no (by decide) (ns_no (by decide) (fin 16 1 rfl rfl (by decide) (by decide)))))
end LW
