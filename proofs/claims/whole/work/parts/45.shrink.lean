/-! shrink, both sides -/
def cl (m i : Nat) : Nat := m &&& (255 ^^^ 2 ^ i)
theorem cl_f : ∀ (m : Fin 256) (i : Fin 8), (nI m.val &&& (nI (2 ^ i.val) ^^^ (-1))) = nI (cl m.val i.val) := by decide +kernel
theorem fin_f : ∀ (m : Fin 256) (k : Fin 9), (nI (2 ^ k.val - 1) &&& (nI m.val ^^^ (-1))) = nI ((2 ^ k.val - 1) &&& (255 ^^^ m.val)) := by decide +kernel
theorem cl_le (m i : Nat) : cl m i ≤ m := Nat.and_le_left
theorem cl_bit {m i : Nat} (hi : i < 8) {j : Nat} (hj : j < 8) : (cl m i).testBit j = (m.testBit j && !decide (i = j)) := by
  unfold cl
  rw [Nat.testBit_and, Nat.testBit_xor, show (255 : Nat) = 2 ^ 8 - 1 from rfl, Nat.testBit_two_pow_sub_one, Nat.testBit_two_pow]
  simp [hj]
def aN (c : Cf) (n m : Nat) : Nat := (aE c (aLook c (fun j => m.testBit j) n).1).length
def aShr (c : Cf) (n : Nat) : Nat → Nat → Nat → Nat
  | 0, _, m => m
  | k + 1, i, m => aShr c n k (i + 1) (if 2 ≤ aN c n (cl m i) then cl m i else m)
def oShrink (c : Cf) (x : Int32) : Int32 := if x < 1 ∨ 600 < x then -102 else if 2 ≤ aN c x.toNatClampNeg (2 ^ cNA c - 1) then nI (aShr c x.toNatClampNeg (cNA c) 0 (2 ^ cNA c - 1)) else -1
theorem oShrink_out {c : Cf} {x : Int32} (h : x < 1 ∨ 600 < x) : oShrink c x = -102 := by unfold oShrink; rw [if_pos h]
theorem oShrink_in {c : Cf} {n : Nat} (h1 : 1 ≤ n) (h6 : n ≤ 600) : oShrink c (nI n) = if 2 ≤ aN c n (2 ^ cNA c - 1) then nI (aShr c n (cNA c) 0 (2 ^ cNA c - 1)) else -1 := by
  unfold oShrink
  rw [if_neg (n600' h1 h6), nI_clamp (by omega)]
theorem aN_le {c : Cf} {n m : Nat} (h1 : 1 ≤ n) : aN c n m ≤ n := Nat.le_trans (aE_len c _) (aLook_len h1)
section SHC
variable {c : Cf} {count isFull lim stg : Int32} {fi : Nat} {a_t : Nat → Nat} {heads lens rows : Nat → Int64} {slots : Nat → Int32} {fs fvt fe fd fm fw : Int32} {ev es pa sp : Nat → Int32} {nh nl hh hl : Int64} {nr hrw : Nat → Int64} {gv ga gf : Int32} {beg fr to wt ft fv st told : Nat → Int32} {x : Int32}
theorem w_shrink (hc : cOK c) (hg : gRep c gv ga gf beg fr to wt ft fv) (hst : rRep c st told)
    {post : Int32 → Int32 → Int32 → Int32 → Nat → Int32 → (Nat → Int64) → (Nat → Int64) → (Nat → Int64) → (Nat → Int32) → Int64 → Int64 → (Nat → Int64) → Int64 → Int64 → (Nat → Int64) → Int32 → Int32 → Int32 → Int32 → Int32 → Int32 → (Nat → Int32) → (Nat → Int32) → (Nat → Int32) → (Nat → Int32) → Prop}
    (hp : ∀ lim stg isFull fi count heads lens rows slots hh hl hrw nh nl nr fs fvt fe fd fm fw ev es pa sp, post (oShrink c x) lim stg isFull fi count heads lens rows slots hh hl hrw nh nl nr fs fvt fe fd fm fw ev es pa sp) :
    wp_X7_shrink a_t lim stg isFull fi gv ga gf beg fr to wt ft fv st told count heads lens rows slots hh hl hrw nh nl nr fs fvt fe fd fm fw ev es pa sp x post := by
  show wp_X7_shrink_0 a_t gv ga gf beg fr to wt ft fv st told post x lim stg isFull fi count heads lens rows slots hh hl hrw nh nl nr fs fvt fe fd fm fw ev es pa sp
  unfold wp_X7_shrink_0
  refine isWithin_i (fun g1 g2 => ns_no (by decide) ?_) (fun q => ns_yes rfl ?_)
  · obtain ⟨n, h1, h6, rfl⟩ := n600 g1 g2
    rw [oShrink_in h1 h6] at hp
    show wp_X1_allArcs_0 ga _
    unfold wp_X1_allArcs_0
    have h8 : cNA c ≤ 8 := hc.1.2.1
    have ega : ga = nI (cNA c) := hg.2.1
    rw [ega, all1 h8, ← ega]
    have hb := pow8 h8
    refine w_run hc hg hst (by omega) h1 h6 (fun isFull count heads lens rows slots hh hl hrw nh nl nr fs fe fd fm fw ev es pa sp hi hs hl6 hw => ?_)
    have e2 : fe = nI (aN c n (2 ^ cNA c - 1)) := hi.2.1
    have hle := aN_le (c := c) (m := 2 ^ cNA c - 1) h1
    refine pk_le 2 (aN c n (2 ^ cNA c - 1)) (fun q => ?_) (fun q => ?_) rfl e2 (by decide) (by omega)
    · rw [if_pos q] at hp
      clear e2 hi hs hl6 hw
      unfold wp_X7_shrink_50
      refine ⟨fun k x2 x3 lim stg isFull fi count heads lens rows slots hh hl hrw nh nl nr fs fvt fe fd fm fw ev es pa sp => ∃ i m, i ≤ cNA c ∧ k = cNA c - i ∧ x2 = nI m ∧ x3 = nI i ∧ m < 256 ∧ aShr c n (cNA c - i) i m = aShr c n (cNA c) 0 (2 ^ cNA c - 1), cNA c, ⟨0, _, by omega, rfl, rfl, rfl, by omega, rfl⟩, ?_⟩
      rintro k x2 x3 lim stg isFull fi count heads lens rows slots hh hl hrw nh nl nr fs fvt fe fd fm fw ev es pa sp ⟨i, m, hi, rfl, rfl, rfl, hm, hS⟩
      unfold bd_X7_shrink_50
      refine pk_le (cNA c) i (fun q2 => ?_) (fun q2 => ?_) ega rfl (by omega) (by omega)
      · have e : cNA c - i = 0 := by omega
        rw [e] at hS
        have hS : m = aShr c n (cNA c) 0 (2 ^ cNA c - 1) := hS
        rw [← hS] at hp
        exact hp _ _ _ _ _ _ _ _ _ _ _ _ _ _ _ _ _ _ _ _ _ _ _ _ _
      · intro y27 e27
        rw [sh1' (by omega), cl_f ⟨m, hm⟩ ⟨i, by omega⟩] at e27
        have e27 : y27 = nI (cl m i) := e27
        subst e27
        have hcl := cl_le m i
        have hS : aShr c n (cNA c - (i + 1)) (i + 1) (if 2 ≤ aN c n (cl m i) then cl m i else m) = aShr c n (cNA c) 0 (2 ^ cNA c - 1) := by
          rw [← hS]
          obtain ⟨f, hf⟩ : ∃ f, cNA c - i = f + 1 := ⟨cNA c - i - 1, by omega⟩
          rw [hf, show cNA c - (i + 1) = f by omega]
          rfl
        refine w_run hc hg hst (by omega) h1 h6 (fun isFull count heads lens rows slots hh hl hrw nh nl nr fs fe fd fm fw ev es pa sp hi hs hl6 hw => ?_)
        have e2 : fe = nI (aN c n (cl m i)) := hi.2.1
        have hle := aN_le (c := c) (m := cl m i) h1
        refine pk_lt (aN c n (cl m i)) 2 (fun q => ?_) (fun q => ?_) e2 rfl (by omega) (by decide)
        · rw [if_neg (by omega)] at hS
          exact ⟨cNA c - (i + 1), by omega, i + 1, m, by omega, rfl, rfl, nI_inc i, hm, hS⟩
        · rw [if_pos (by omega)] at hS
          exact ⟨cNA c - (i + 1), by omega, i + 1, cl m i, by omega, rfl, rfl, nI_inc i, by omega, hS⟩
    · rw [if_neg (by omega)] at hp
      exact hp _ _ _ _ _ _ _ _ _ _ _ _ _ _ _ _ _ _ _ _ _ _ _ _ _
  · rw [oShrink_out q] at hp
    exact hp _ _ _ _ _ _ _ _ _ _ _ _ _ _ _ _ _ _ _ _ _ _ _ _ _
end SHC
section SHM
variable {c : Cf} {keeps states over ar vt nfi : Int32} {found places at_ par by_ val dbl fr to wt ft fv st told beg : Nat → Int32} {x : Int32}
theorem m_shrink (hc : cOK c) (hg : gRep c vt ar nfi beg fr to wt ft fv) (hst : rRep c st told)
    {post : Int32 → (Nat → Int32) → Int32 → (Nat → Int32) → (Nat → Int32) → (Nat → Int32) → (Nat → Int32) → (Nat → Int32) → (Nat → Int32) → Int32 → Int32 → Prop}
    (hp : ∀ found states places at_ keeps over, post (oShrink c x) found states places at_ par by_ val dbl keeps over) :
    wp_X8_shrink vt beg ar fr to wt nfi ft fv st told found states places at_ par by_ val dbl keeps over x post := by
  show wp_X8_shrink_0 vt beg ar fr to wt nfi ft fv st told post x found states places at_ par by_ val dbl keeps over
  unfold wp_X8_shrink_0
  refine in_i (fun g1 g2 => ns_no (by decide) ?_) (fun q => ns_yes rfl ?_)
  · obtain ⟨n, h1, h6, rfl⟩ := n600 g1 g2
    rw [oShrink_in h1 h6] at hp
    have h8 : cNA c ≤ 8 := hc.1.2.1
    have ega : ar = nI (cNA c) := hg.2.1
    have egf : nfi = nI (cNF c) := hg.2.2.1
    have hb := pow8 h8
    have cnt : ∀ lo m : Nat, (∀ i, i < cNA c → lo.testBit i = !(m.testBit i)) → ∀ found' states' places', pRep c (aLook c (fun i => !(lo.testBit i)) n).1 found' states' places' → ∀ {Q : Int32 → Prop}, Q (nI (aN c n m)) → wp_X8_countEnds ar nfi found' states' Q := by
      intro lo m hlm found' states' places' hP Q hQ
      have e := aLook_cg (c := c) (s := fun i => !(lo.testBit i)) (s' := fun i => m.testBit i) (fun i hi => by show (!(lo.testBit i)) = m.testBit i; rw [hlm i hi, Bool.not_not]) n
      rw [e] at hP
      exact m_countEnds hc ega egf hP.2.2.1 hP.2.1 hP.1 hQ
    have keep : ∀ {L : List AE} {par' by' val' dbl' : Nat → Int32}, kRep 0 L par' by' val' dbl' par by_ val dbl → par' = par ∧ by' = by_ ∧ val' = val ∧ dbl' = dbl := by
      intro L par' by' val' dbl' h
      rcases h with ⟨a, -⟩ | ⟨-, b⟩
      · exact absurd a (by decide)
      · exact b
    rw [show (0 : Int32) = nI 0 from rfl]
    refine m_search (lo := 0) hc hg hst (by decide) (Or.inr rfl) h1 h6 (fun found states places at_ par' by' val' dbl' over hP hK => ?_)
    obtain ⟨rfl, rfl, rfl, rfl⟩ := keep hK
    have hle := aN_le (c := c) (m := 2 ^ cNA c - 1) h1
    refine cnt 0 (2 ^ cNA c - 1) (fun i hi => by rw [all_bit i hi, Nat.zero_testBit]; rfl) _ _ _ hP ?_
    refine pk_le 2 (aN c n (2 ^ cNA c - 1)) (fun q => ?_) (fun q => ?_) rfl rfl (by decide) (by omega)
    · rw [if_pos q] at hp
      unfold wp_X8_shrink_40
      refine ⟨fun k x2 x3 found states places at_ par2 by2 val2 dbl2 over => ∃ i m lo, i ≤ cNA c ∧ k = cNA c - i ∧ x2 = nI lo ∧ x3 = nI i ∧ m < 2 ^ cNA c ∧ lo < 2 ^ 8 ∧ (∀ j, j < cNA c → lo.testBit j = !(m.testBit j)) ∧ aShr c n (cNA c - i) i m = aShr c n (cNA c) 0 (2 ^ cNA c - 1) ∧ par2 = par' ∧ by2 = by' ∧ val2 = val' ∧ dbl2 = dbl', cNA c, ⟨0, 2 ^ cNA c - 1, 0, by omega, rfl, rfl, rfl, by have := Nat.pow_pos (n := cNA c) (show 0 < 2 by decide); omega, by decide, fun j hj => by rw [all_bit j hj, Nat.zero_testBit]; rfl, rfl, rfl, rfl, rfl, rfl⟩, ?_⟩
      rintro k x2 x3 found states places at_ par2 by2 val2 dbl2 over ⟨i, m, lo, hi, rfl, rfl, rfl, hm, hlo, hlm, hS, rfl, rfl, rfl, rfl⟩
      unfold bd_X8_shrink_40
      refine pk_le (cNA c) i (fun q2 => ?_) (fun q2 => ?_) ega rfl (by omega) (by omega)
      · have e : cNA c - i = 0 := by omega
        rw [e] at hS
        have hS : m = aShr c n (cNA c) 0 (2 ^ cNA c - 1) := hS
        rw [← hS] at hp
        rw [ega, all1 h8, fin_f ⟨lo, hlo⟩ ⟨cNA c, by omega⟩]
        have e2 : (2 ^ cNA c - 1) &&& (255 ^^^ lo) = m := by
          apply Nat.eq_of_testBit_eq
          intro j
          rw [Nat.testBit_and, Nat.testBit_two_pow_sub_one, Nat.testBit_xor, show (255 : Nat) = 2 ^ 8 - 1 from rfl, Nat.testBit_two_pow_sub_one]
          by_cases hj : j < cNA c
          · rw [hlm j hj, decide_eq_true hj, decide_eq_true (show j < 8 by omega)]
            simp
          · rw [decide_eq_false hj, Bool.false_and]
            exact (Nat.testBit_lt_two_pow (Nat.lt_of_lt_of_le hm (Nat.pow_le_pow_right (by decide) (by omega)))).symm
        show post (nI ((2 ^ cNA c - 1) &&& (255 ^^^ lo))) _ _ _ _ _ _ _ _ _ _
        rw [e2]
        exact hp _ _ _ _ _ _
      · rw [sh1' (by omega), nx_or]
        have hcl := cl_le m i
        have hlo2 : lo ||| 2 ^ i < 2 ^ 8 := Nat.or_lt_two_pow hlo (Nat.pow_lt_pow_right (by decide) (by omega))
        have hlm2 : ∀ j, j < cNA c → (lo ||| 2 ^ i).testBit j = !((cl m i).testBit j) := by
          intro j hj
          rw [cl_bit (by omega) (by omega), Nat.testBit_or, hlm j hj, Nat.testBit_two_pow]
          by_cases e : i = j
          · simp [e]
          · simp [e]
        have hS : aShr c n (cNA c - (i + 1)) (i + 1) (if 2 ≤ aN c n (cl m i) then cl m i else m) = aShr c n (cNA c) 0 (2 ^ cNA c - 1) := by
          rw [← hS]
          obtain ⟨f, hf⟩ : ∃ f, cNA c - i = f + 1 := ⟨cNA c - i - 1, by omega⟩
          rw [hf, show cNA c - (i + 1) = f by omega]
          rfl
        refine m_search (lo := lo ||| 2 ^ i) hc hg hst (by omega) (Or.inr rfl) h1 h6 (fun found states places at_ par3 by3 val3 dbl3 over hP hK => ?_)
        obtain ⟨rfl, rfl, rfl, rfl⟩ := keep hK
        have hle := aN_le (c := c) (m := cl m i) h1
        refine cnt _ _ hlm2 _ _ _ hP ?_
        refine pk_lt (aN c n (cl m i)) 2 (fun q => ?_) (fun q => ?_) rfl rfl (by omega) (by decide)
        · rw [if_neg (by omega)] at hS
          exact ⟨cNA c - (i + 1), by omega, i + 1, m, lo, by omega, rfl, rfl, nI_inc i, hm, hlo, hlm, hS, rfl, rfl, rfl, rfl⟩
        · rw [if_pos (by omega)] at hS
          exact ⟨cNA c - (i + 1), by omega, i + 1, cl m i, _, by omega, rfl, rfl, nI_inc i, by omega, hlo2, hlm2, hS, rfl, rfl, rfl, rfl⟩
    · rw [if_neg (by omega)] at hp
      exact hp _ _ _ _ _ _
  · rw [oShrink_out q] at hp
    exact hp _ _ _ _ _ _
end SHM
