/-! look, looked, end: both sides -/
abbrev LK : Type := Option (Cf × BS)
abbrev aAll : Nat → Bool := fun _ => true
def lkOK : LK → Prop
  | none => True
  | some (c, R) => cOK c ∧ gOK c R.1 ∧ R.1.length ≤ 600
def cLk (o : LK) (fs fvt fe fd fm fw : Int32) (ev es pa sp : Nat → Int32) : Prop := match o with
  | none => fs = 0 ∧ fe = 0
  | some (c, R) => iRep c R.1 fs fe fd fm ev es pa sp ∧ fvt = nI (cNV c) ∧ fw = (if R.2 = true then 0 else 1)
def pK (L : List AE) (par by_ val dbl : Nat → Int32) : Prop := par 0 = -1 ∧ ∀ i, 0 < i → i < L.length → par i = nI (en L i).2.1 ∧ by_ i = nI (en L i).2.2.1 ∧ val i = nI (en L i).2.2.2.1 ∧ dbl i = nI (en L i).2.2.2.2
def mLk (o : LK) (hl ww lv dm gr nd : Int32) (es ev par by_ val dbl : Nat → Int32) : Prop := match o with
  | none => hl = 0
  | some (c, R) => hl = 1 ∧ ww = (if R.2 = true then 0 else 1) ∧ lv = nI (cNV c) ∧ dm = nI (aDead c R.1) ∧ gr = nI (aMost c R.1) ∧ nd = nI (aE c R.1).length ∧ eRep R.1 (aE c R.1) es ev ∧ pK R.1 par by_ val dbl
def oLook (c : Cf) (o : LK) (x : Int32) : Int32 × LK := if x < 1 ∨ 600 < x then (-102, o) else (nI (aLook c aAll x.toNatClampNeg).1.length, some (c, aLook c aAll x.toNatClampNeg))
theorem oLook_out {c : Cf} {o : LK} {x : Int32} (h : x < 1 ∨ 600 < x) : oLook c o x = (-102, o) := by unfold oLook; rw [if_pos h]
theorem n600 {x : Int32} (g1 : ¬ x < 1) (g2 : ¬ 600 < x) : ∃ n, 1 ≤ n ∧ n ≤ 600 ∧ x = nI n := by
  obtain ⟨n, hn6, rfl⟩ := within_n (x := x) (M := 600) (n := 600) (by decide) (fun z => g1 (Int32.lt_trans z (by decide))) g2
  refine ⟨n, ?_, hn6, rfl⟩
  rcases Nat.eq_zero_or_pos n with e | e
  · subst e; exact absurd (by decide) g1
  · exact e
theorem n600' {n : Nat} (h1 : 1 ≤ n) (h6 : n ≤ 600) : ¬ (nI n < 1 ∨ 600 < nI n) := by
  rintro (h | h)
  · exact absurd h (nI_nlt (a := n) (b := 1) h1 (by omega))
  · exact absurd h (nI_nlt (a := 600) (b := n) h6 (by decide))
theorem oLook_in {c : Cf} {o : LK} {n : Nat} (h1 : 1 ≤ n) (h6 : n ≤ 600) : oLook c o (nI n) = (nI (aLook c aAll n).1.length, some (c, aLook c aAll n)) := by
  unfold oLook
  rw [if_neg (n600' h1 h6), nI_clamp (by omega)]
theorem lkOK_look {c : Cf} (hc : cOK c) {o : LK} (ho : lkOK o) (x : Int32) : lkOK (oLook c o x).2 := by
  by_cases h : x < 1 ∨ 600 < x
  · rw [oLook_out h]; exact ho
  · have g1 : ¬ x < 1 := fun z => h (Or.inl z)
    have g2 : ¬ 600 < x := fun z => h (Or.inr z)
    obtain ⟨n, h1, h6, rfl⟩ := n600 g1 g2
    rw [oLook_in h1 h6]
    exact ⟨hc, gOK_look hc _ _, Nat.le_trans (aLook_len h1) h6⟩
theorem sh1 : ∀ k : Fin 9, ((1 : Int32) <<< (nI k.val &&& 31)) = nI (2 ^ k.val) := by decide +kernel
theorem sh1' {k : Nat} (h : k ≤ 8) : ((1 : Int32) <<< (nI k &&& 31)) = nI (2 ^ k) := sh1 ⟨k, by omega⟩
theorem all1 {k : Nat} (h : k ≤ 8) : ((1 : Int32) <<< (nI k &&& 31)) - 1 = nI (2 ^ k - 1) := by
  rw [sh1' h, nI_s1 (Nat.pow_pos (by decide))]
theorem pow8 {k : Nat} (h : k ≤ 8) : 2 ^ k ≤ 256 := Nat.pow_le_pow_right (n := 2) (by decide) h
theorem all_bit {c : Cf} (i : Nat) (hi : i < cNA c) : (2 ^ cNA c - 1).testBit i = true := by
  rw [Nat.testBit_two_pow_sub_one]; exact decide_eq_true hi
section LKS
variable {c : Cf} {count isFull lim stg : Int32} {fi : Nat} {al : Nat → Nat} {heads lens rows : Nat → Int64} {slots : Nat → Int32} {fs fvt fe fd fm fw : Int32} {ev es pa sp : Nat → Int32} {nh nl hh hl : Int64} {nr hrw : Nat → Int64} {gv ga gf : Int32} {beg fr to wt ft fv st told : Nat → Int32} {o : LK} {x : Int32}
theorem w_look (hc : cOK c) (hg : gRep c gv ga gf beg fr to wt ft fv) (hst : rRep c st told) (ho : cLk o fs fvt fe fd fm fw ev es pa sp)
    {post : Int32 → Int32 → Int32 → Int32 → Nat → Int32 → (Nat → Int64) → (Nat → Int64) → (Nat → Int64) → (Nat → Int32) → Int64 → Int64 → (Nat → Int64) → Int64 → Int64 → (Nat → Int64) → Int32 → Int32 → Int32 → Int32 → Int32 → Int32 → (Nat → Int32) → (Nat → Int32) → (Nat → Int32) → (Nat → Int32) → Prop}
    (hp : ∀ lim stg isFull fi count heads lens rows slots hh hl hrw nh nl nr fs fvt fe fd fm fw ev es pa sp, cLk (oLook c o x).2 fs fvt fe fd fm fw ev es pa sp → post (oLook c o x).1 lim stg isFull fi count heads lens rows slots hh hl hrw nh nl nr fs fvt fe fd fm fw ev es pa sp) :
    wp_X7_look al lim stg isFull fi gv ga gf beg fr to wt ft fv st told count heads lens rows slots hh hl hrw nh nl nr fs fvt fe fd fm fw ev es pa sp x post := by
  show wp_X7_look_0 al gv ga gf beg fr to wt ft fv st told post x lim stg isFull fi count heads lens rows slots hh hl hrw nh nl nr fs fvt fe fd fm fw ev es pa sp
  unfold wp_X7_look_0
  refine isWithin_i (fun g1 g2 => ns_no (by decide) ?_) (fun q => ns_yes rfl ?_)
  · obtain ⟨n, h1, h6, rfl⟩ := n600 g1 g2
    rw [oLook_in h1 h6] at hp
    show wp_X1_allArcs_0 ga _
    unfold wp_X1_allArcs_0
    have h8 : cNA c ≤ 8 := hc.1.2.1
    rw [show ga = nI (cNA c) from hg.2.1, all1 h8, ← show ga = nI (cNA c) from hg.2.1]
    have hb := pow8 h8
    refine w_run hc hg hst (by omega) h1 h6 (fun isFull count heads lens rows slots hh hl hrw nh nl nr fs fe fd fm fw ev es pa sp hi hs hl6 hw => ?_)
    have e := aLook_cg (c := c) (s := fun i => (2 ^ cNA c - 1).testBit i) (s' := aAll) (fun i hi => all_bit i hi) n
    rw [e] at hi hl6 hw
    have := hp (nI n) (nI (2 ^ cNA c - 1)) isFull (al 0) count heads lens rows slots hh hl hrw nh nl nr fs gv fe fd fm fw ev es pa sp ⟨hi, hg.1, hw⟩
    rw [show nI (aLook c aAll n).1.length = fs from hi.1.symm] at this
    exact this
  · rw [oLook_out q] at hp
    exact hp _ _ _ _ _ _ _ _ _ _ _ _ _ _ _ _ _ _ _ _ _ _ _ _ _ ho
end LKS
section LKM
variable {c : Cf} {keeps states over ar vt nfi hl ww lv dm gr nd : Int32} {found places at_ par by_ val dbl fr to wt ft fv st told beg es ev : Nat → Int32} {n : Nat} {o : LK} {x : Int32}
theorem m_lookO (hc : cOK c) (hg : gRep c vt ar nfi beg fr to wt ft fv) (hst : rRep c st told) (ho : mLk o hl ww lv dm gr nd es ev par by_ val dbl)
    {post : Int32 → (Nat → Int32) → Int32 → (Nat → Int32) → (Nat → Int32) → Int32 → Int32 → Int32 → Int32 → Int32 → Int32 → (Nat → Int32) → (Nat → Int32) → (Nat → Int32) → (Nat → Int32) → (Nat → Int32) → (Nat → Int32) → Int32 → Int32 → Prop}
    (hp : ∀ found states places at_ hl ww lv dm gr nd es ev par by_ val dbl keeps over, mLk (oLook c o x).2 hl ww lv dm gr nd es ev par by_ val dbl → post (oLook c o x).1 found states places at_ hl ww lv dm gr nd es ev par by_ val dbl keeps over) :
    wp_X8_look vt beg ar fr to wt nfi ft fv st told found states places at_ hl ww lv dm gr nd es ev par by_ val dbl keeps over x post := by
  refine m_look hc hg hst (fun q => ?_) (fun n h1 h6 e found' states' places' at' es' ev' par' by' val' dbl' over' P0 hP0 hs hE hK hlen => ?_)
  · rw [oLook_out q] at hp
    exact hp _ _ _ _ _ _ _ _ _ _ _ _ _ _ _ _ _ _ ho
  · subst e
    rw [oLook_in h1 h6] at hp
    have e := aLook_cg (c := c) (s := fun i => !(Nat.testBit 0 i)) (s' := aAll) (fun i hi => by rw [Nat.zero_testBit]; rfl) n
    rw [e] at hE hK hlen ⊢
    refine hp _ _ _ _ _ _ _ _ _ _ _ _ _ _ _ _ _ _ ⟨rfl, rfl, hg.1, rfl, rfl, rfl, hE, ?_⟩
    rcases hK with ⟨-, a, b⟩ | ⟨a, -⟩
    · exact ⟨a.trans hP0, b⟩
    · exact absurd a (by decide)
end LKM
def oLooked (o : LK) (x : Int32) : Int32 := match natQ 4 x with
  | none => -102
  | some i => match o with
    | none => -1
    | some (c, R) => if i = 0 then (if R.2 = true then 0 else 1) else if i = 1 then nI (aE c R.1).length else if i = 2 then nI (aDead c R.1) else nI (aMost c R.1)
section LKD
variable {o : LK} {fs fvt fe fd fm fw : Int32} {ev es pa sp : Nat → Int32} {hl ww lv dm gr nd : Int32} {mes mev par by_ val dbl : Nat → Int32} {x : Int32} {post : Int32 → Prop}
theorem w_looked (hO : lkOK o) (ho : cLk o fs fvt fe fd fm fw ev es pa sp) (hp : post (oLooked o x)) : wp_X7_looked fs fe fd fm fw x post := by
  show wp_X7_looked_0 fs fe fd fm fw post x
  unfold wp_X7_looked_0
  unfold oLooked at hp
  refine within_q (n := 4) (by decide) rfl (fun i h1 => ns_no (by decide) ?_) (fun h1 => ns_yes rfl ?_)
  · rw [h1] at hp
    obtain ⟨hi, rfl⟩ := natQ_some (by decide) h1
    cases o with
    | none => exact ns_yes ho.1 hp
    | some cr =>
      obtain ⟨c, R⟩ := cr
      obtain ⟨ho1, ho2, ho3⟩ := ho
      obtain ⟨e1, e2, e3, ⟨e4, -⟩, -⟩ := ho1
      have hl1 := hO.2.1.1
      have hl6 := hO.2.2
      refine ns_no (by rw [e1]; exact nI_ne0 (by omega) (by omega)) ?_
      rcases (show i = 0 ∨ i = 1 ∨ i = 2 ∨ i = 3 by omega) with e | e | e | e <;> subst e
      · refine sw_yes rfl ?_
        have hp : post (if R.2 = true then 0 else 1) := hp
        by_cases q : R.2 = true
        · rw [if_pos q] at hp ho3; exact sw_yes ho3 hp
        · rw [if_neg q] at hp ho3; exact sw_no (by rw [ho3]; decide) hp
      · refine sw_no (by decide) (sw_yes rfl ?_); rw [e2]; exact hp
      · refine sw_no (by decide) (sw_no (by decide) (sw_yes rfl ?_)); rw [e3]; exact hp
      · refine sw_no (by decide) (sw_no (by decide) (sw_no (by decide) ?_)); rw [e4]; exact hp
  · rw [h1] at hp; exact hp
theorem m_looked (ho : mLk o hl ww lv dm gr nd mes mev par by_ val dbl) (hp : post (oLooked o x)) : wp_X8_looked hl ww dm gr nd x post := by
  show wp_X8_looked_0 hl ww dm gr nd post x
  unfold wp_X8_looked_0
  unfold oLooked at hp
  refine in_q (n := 4) (by decide) rfl (fun i h1 => ns_no (by decide) ?_) (fun h1 => ns_yes rfl ?_)
  · rw [h1] at hp
    obtain ⟨hi, rfl⟩ := natQ_some (by decide) h1
    cases o with
    | none => exact ns_yes ho hp
    | some cr =>
      obtain ⟨c, R⟩ := cr
      obtain ⟨e1, e2, e3, e4, e5, e6, -, -⟩ := ho
      refine ns_no (by rw [e1]; decide) ?_
      rcases (show i = 0 ∨ i = 1 ∨ i = 2 ∨ i = 3 by omega) with e | e | e | e <;> subst e
      · refine ns_yes rfl ?_
        have hp : post (if R.2 = true then 0 else 1) := hp
        by_cases q : R.2 = true
        · rw [if_pos q] at hp e2; exact sw_yes e2 hp
        · rw [if_neg q] at hp e2; exact sw_no (by rw [e2]; decide) hp
      · refine ns_no (by decide) (ns_yes rfl ?_); rw [e6]; exact hp
      · refine ns_no (by decide) (ns_no (by decide) (ns_yes rfl ?_)); rw [e4]; exact hp
      · refine ns_no (by decide) (ns_no (by decide) (ns_no (by decide) ?_)); rw [e5]; exact hp
  · rw [h1] at hp; exact hp
def oEnd (o : LK) (x y : Int32) : Int32 := match o with
  | none => -101
  | some (c, R) => match natQ (aE c R.1).length x with
    | none => -101
    | some k => match natQ (cNV c) y with
      | none => -101
      | some v => nI ((sV (stt R.1 ((aE c R.1).getD k 0))).getD v 0)
theorem shr32 {n k : Nat} (hn : n < 2 ^ 31) (hk : k < 32) : ((nI n).toUInt32 >>> ((nI k).toUInt32 &&& Int32.toUInt32 31)).toInt32 = nI (n / 2 ^ k) := by
  have hs : n / 2 ^ k ≤ n := Nat.div_le_self _ _
  have e2 : UInt32.ofNat n >>> (UInt32.ofNat k &&& Int32.toUInt32 31) = UInt32.ofNat (n / 2 ^ k) := by
    apply UInt32.toNat_inj.1
    have h1 : (UInt32.ofNat n).toNat = n := Nat.mod_eq_of_lt (by omega)
    have h2 : (UInt32.ofNat (n / 2 ^ k)).toNat = n / 2 ^ k := Nat.mod_eq_of_lt (by omega)
    rw [UInt32.toNat_shiftRight, nx_cnt ⟨k, hk⟩, h1, h2, Nat.shiftRight_eq_div_pow]
  show (UInt32.ofNat n >>> (UInt32.ofNat k &&& Int32.toUInt32 31)).toInt32 = _
  rw [e2]
  rfl
variable {y : Int32}
theorem w_end (hO : lkOK o) (ho : cLk o fs fvt fe fd fm fw ev es pa sp) (hp : post (oEnd o x y)) : wp_X7_end fvt fe ev x y post := by
  show wp_X7_end_0 fvt fe ev post x y
  unfold wp_X7_end_0
  unfold oEnd at hp
  cases o with
  | none =>
    rw [show fe = nI 0 from ho.2]
    exact hasE_q (by decide) (fun v h => by rw [natQ_0] at h; cases h) (fun h => sw_yes rfl hp)
  | some cr =>
    obtain ⟨c, R⟩ := cr
    obtain ⟨ho1, ho2, ho3⟩ := ho
    obtain ⟨e1, e2, e3, -, e5, -⟩ := ho1
    obtain ⟨hc, hg, hl6⟩ := hO
    have hlE := aE_len c R.1
    have h5 : cNV c ≤ 5 := hc.1.1
    rw [e2, ho2]
    refine hasE_q (by omega) (fun k h1 => sw_no (by decide) ?_) (fun h1 => sw_yes rfl ?_)
    · simp only [h1] at hp
      obtain ⟨hk, rfl⟩ := natQ_some (by omega) h1
      refine within_q0 (by omega) (fun v h2 => ns_no (by decide) ⟨vp_in_nI (by omega) (by decide), ?_⟩) (fun h2 => ns_yes rfl ?_)
      · simp only [h2] at hp
        obtain ⟨hv, rfl⟩ := natQ_some (by omega) h2
        have hs := ((aE_ok c R.1).1 k hk).1
        have hsk := (hg.2 _ hs).1
        have hlt := eV_lt hsk
        rw [nI_clamp (by omega), (e5 k hk).2, mul4, shr32 (by omega) (by omega), ni_and _ 4 (by decide) (by decide), pow4]
        have := dig_get0 (B := 16) (by decide) (l := sV (stt R.1 ((aE c R.1).getD k 0))) (i := v) hsk.bV (by rw [hsk.lV]; omega)
        rw [show (2 : Nat) ^ 4 = 16 from rfl, this]
        exact hp
      · simp only [h2] at hp; exact hp
    · simp only [h1] at hp; exact hp
theorem m_end (hO : lkOK o) (ho : mLk o hl ww lv dm gr nd mes mev par by_ val dbl) (hp : post (oEnd o x y)) : wp_X8_end hl lv nd mev x y post := by
  show wp_X8_end_0 hl lv nd mev post x y
  unfold wp_X8_end_0
  unfold oEnd at hp
  cases o with
  | none => exact sw_yes ho hp
  | some cr =>
    obtain ⟨c, R⟩ := cr
    obtain ⟨e1, e2, e3, e4, e5, e6, e7, e8⟩ := ho
    obtain ⟨hc, hg, hl6⟩ := hO
    have hlE := aE_len c R.1
    have h5 : cNV c ≤ 5 := hc.1.1
    rw [e6, e3]
    refine sw_no (by rw [e1]; decide) (in_q0 (by omega) (fun k h1 => sw_no (by decide) ?_) (fun h1 => sw_yes rfl ?_))
    · simp only [h1] at hp
      obtain ⟨hk, rfl⟩ := natQ_some (by omega) h1
      refine in_q0 (by omega) (fun v h2 => ns_no (by decide) ?_) (fun h2 => ns_yes rfl ?_)
      · simp only [h2] at hp
        obtain ⟨hv, rfl⟩ := natQ_some (by omega) h2
        rw [mul5, nI_add, nI_clamp (by omega), (e7 k hk).2 v (by omega)]
        exact ⟨vp_in_nI (by omega) (by decide), hp⟩
      · simp only [h2] at hp; exact hp
    · simp only [h1] at hp; exact hp
end LKD
