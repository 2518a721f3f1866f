/-! the class's look: one STEP -/
def bRep (c : Cf) (B : BS) (isFull count : Int32) (heads lens rows : Nat → Int64) (slots : Nat → Int32) (fs fe fd fm : Int32) (ev es pa sp : Nat → Int32) : Prop := isFull = (if B.2 = true then 1 else 0) ∧ fRep c B.1 count heads lens rows slots ∧ iRep c B.1 fs fe fd fm ev es pa sp
theorem aPush_len {n : Nat} {B : BS} {x : AE} (h : B.1.length ≤ n) : (aPush n B x).1.length ≤ n := by
  unfold aPush
  split
  · exact h
  · split
    · exact h
    · rw [List.length_append, List.length_singleton]; omega
theorem aPush_ext {n : Nat} {B : BS} {x : AE} : ∃ M, (aPush n B x).1 = B.1 ++ M := by
  unfold aPush
  split
  · exact ⟨[], (List.append_nil _).symm⟩
  · split
    · exact ⟨[], (List.append_nil _).symm⟩
    · exact ⟨[x], rfl⟩
theorem aVisit_len {c : Cf} {stay : Nat → Bool} {n s : Nat} {a : AS} {B : BS} {t : Nat × Nat × Nat} (h : B.1.length ≤ n) : (aVisit c stay n s a B t).1.length ≤ n := by
  unfold aVisit
  split
  · exact h
  · exact aPush_len h
theorem aVisit_ext {c : Cf} {stay : Nat → Bool} {n s : Nat} {a : AS} {B : BS} {t : Nat × Nat × Nat} : ∃ M, (aVisit c stay n s a B t).1 = B.1 ++ M := by
  unfold aVisit
  split
  · exact ⟨[], (List.append_nil _).symm⟩
  · exact aPush_ext
theorem aGo_len {c : Cf} {stay : Nat → Bool} {n s : Nat} {a : AS} : ∀ (l : List (Nat × Nat × Nat)) {B : BS}, B.1.length ≤ n → (aGo c stay n s a B l).1.length ≤ n
  | [], _, h => h
  | t :: l, B, h => aGo_len l (B := aVisit c stay n s a B t) (aVisit_len h)
theorem aGo_ext {c : Cf} {stay : Nat → Bool} {n s : Nat} {a : AS} : ∀ (l : List (Nat × Nat × Nat)) {B : BS}, ∃ M, (aGo c stay n s a B l).1 = B.1 ++ M
  | [], B => ⟨[], (List.append_nil _).symm⟩
  | t :: l, B => by
    obtain ⟨M1, h1⟩ := aVisit_ext (c := c) (stay := stay) (n := n) (s := s) (a := a) (B := B) (t := t)
    obtain ⟨M2, h2⟩ := aGo_ext (c := c) (stay := stay) (n := n) (s := s) (a := a) l (B := aVisit c stay n s a B t)
    exact ⟨M1 ++ M2, by show (aGo c stay n s a (aVisit c stay n s a B t) l).1 = _; rw [h2, h1, List.append_assoc]⟩
theorem aGo_app (c : Cf) (stay : Nat → Bool) (n s : Nat) (a : AS) (B : BS) (l m : List (Nat × Nat × Nat)) : aGo c stay n s a B (l ++ m) = aGo c stay n s a (aGo c stay n s a B l) m := List.foldl_append
theorem stt_ext {L M : List AE} {i : Nat} (h : i < L.length) : stt (L ++ M) i = stt L i := by
  unfold stt
  rw [List.map_append, List.getD_eq_getElem?_getD, List.getElem?_append_left (by rw [List.length_map]; exact h), ← List.getD_eq_getElem?_getD]
theorem w_stepOf {src m d : Nat} (hs : src < 256) (hm : m < 16) (hd : d < 2) {post : Int32 → Prop} (hp : post (nI (src + 256 * m + 4096 * d))) : wp_X6_of (nI src) (nI m) (nI d) post := by
  show wp_X6_of_0 post (nI src) (nI m) (nI d)
  unfold wp_X6_of_0
  have e : ((nI src ||| (nI m <<< ((8 : Int32) &&& 31))) ||| (nI d <<< ((12 : Int32) &&& 31))) = nI (src + 256 * m + 4096 * d) := by
    rw [pk_shlN _ 8 (by decide) (by omega), pk_shlN _ 12 (by decide) (by omega), nx_or, nat_or_add (k := 8) (by omega), nx_or, nat_or_add (k := 12) (by omega)]
    congr 1; omega
  rw [e]; exact hp
section KN
variable {c : Cf} {B : BS} {isFull count : Int32} {heads lens rows : Nat → Int64} {slots : Nat → Int32} {fs fe fd fm : Int32} {ev es pa sp : Nat → Int32} {nh nl : Int64} {nr : Nat → Int64}
theorem w_keepNext (hc : cOK c) (hB : bRep c B isFull count heads lens rows slots fs fe fd fm ev es pa sp) (h2 : B.2 = false) {n : Nat} (hn : B.1.length ≤ n) (hn6 : n ≤ 600) {x : AE} (hx : sOK c x.1) (hr : cRep x.1 nh nl nr)
    {post : Int32 → Int32 → (Nat → Int64) → (Nat → Int64) → (Nat → Int64) → (Nat → Int32) → Int32 → Int32 → Int32 → Int32 → (Nat → Int32) → (Nat → Int32) → (Nat → Int32) → (Nat → Int32) → Prop}
    (hp : ∀ isFull count heads lens rows slots fs fe fd fm ev es pa sp, bRep c (aPush n B x) isFull count heads lens rows slots fs fe fd fm ev es pa sp → post isFull count heads lens rows slots fs fe fd fm ev es pa sp) : wp_X3_keepNext (nI n) isFull (nI (cNF c)) count heads lens rows slots nh nl nr fs fe fd fm ev es pa sp (nI x.2.1) (nI (scode x)) post := by
  obtain ⟨e1, hf, hi⟩ := id hB
  show wp_X3_keepNext_0 (nI n) (nI (cNF c)) nh nl nr post (nI x.2.1) (nI (scode x)) isFull count heads lens rows slots fs fe fd fm ev es pa sp
  unfold wp_X3_keepNext_0
  refine w_freeSlot hf hx hr (fun hm => ?_) (fun hm t ht1 ht2 => ?_)
  · refine ns_yes rfl (hp _ _ _ _ _ _ _ _ _ _ _ _ _ _ ?_)
    unfold aPush
    rw [if_pos hm]; exact hB
  · have hne : ¬ nI ((cH x.1 + t) % 1024) = -1 := by
      intro z
      have := nI_pos (n := (cH x.1 + t) % 1024) (by omega)
      rw [z] at this
      exact this (by decide)
    refine ns_no hne ?_
    obtain ⟨g0, g1, g2, g3⟩ := id hf
    rw [g0]
    refine pk_lt B.1.length n (fun q => ?_) (fun q => ?_) rfl rfl (by omega) (by omega)
    · rw [← g0]
      refine w_add hf hx hr (by omega) ht1 ht2 (x := x) rfl (fun count' heads' lens' rows' slots' hf' => ?_)
      refine w_pending hc hx hr.1 hr.2.1 (w_allValues hx hr.1 ?_)
      refine w_note hc hi (fun i h => (g2 i h).1) (by omega) hx (fun fs fe fd fm ev es pa sp hi' => hp _ _ _ _ _ _ _ _ _ _ _ _ _ _ ?_)
      unfold aPush
      rw [if_neg hm, if_neg (by omega)]
      exact ⟨by rw [e1, h2], hf', hi'⟩
    · rw [← g0]
      refine hp _ _ _ _ _ _ _ _ _ _ _ _ _ _ ?_
      unfold aPush
      rw [if_neg hm, if_pos (by omega)]
      exact ⟨by rw [if_pos rfl], hf, hi⟩
end KN
section TK
variable {c : Cf} {B : BS} {isFull count : Int32} {heads lens rows : Nat → Int64} {slots : Nat → Int32} {fs fe fd fm : Int32} {ev es pa sp : Nat → Int32} {nh nl hh hl : Int64} {nr hrw : Nat → Int64} {gv ga gf : Int32} {beg fr to wt ft fv st told : Nat → Int32} {sm n s : Nat} {a : AS}
theorem w_takeS (hc : cOK c) (hg : gRep c gv ga gf beg fr to wt ft fv) (hst : rRep c st told) (hsm : sm < 65536) (hB : bRep c B isFull count heads lens rows slots fs fe fd fm ev es pa sp) (hn : B.1.length ≤ n) (hn6 : n ≤ 600) (ha : sOK c a) (hr : cRep a hh hl hrw) {src p d : Nat} (hv : vStep c a src p d)
    {post : Int32 → Int32 → (Nat → Int64) → (Nat → Int64) → (Nat → Int64) → (Nat → Int32) → Int64 → Int64 → (Nat → Int64) → Int32 → Int32 → Int32 → Int32 → (Nat → Int32) → (Nat → Int32) → (Nat → Int32) → (Nat → Int32) → Prop}
    (hp : ∀ isFull count heads lens rows slots nh nl nr fs fe fd fm ev es pa sp, bRep c (aVisit c (fun i => sm.testBit i) n s a B (src, p, d)) isFull count heads lens rows slots fs fe fd fm ev es pa sp → post isFull count heads lens rows slots nh nl nr fs fe fd fm ev es pa sp) : wp_X3_take (nI n) (nI sm) isFull ga gf fr to wt ft fv st told count heads lens rows slots hh hl hrw nh nl nr fs fe fd fm ev es pa sp (nI s) (nI src) (nI p) (nI d) post := by
  obtain ⟨-, ega, egf, -, garcs, gfirsts⟩ := hg
  rw [ega, egf]
  show wp_X3_take_0 (nI n) (nI sm) (nI (cNA c)) (nI (cNF c)) fr to wt ft fv st told hh hl hrw post (nI s) (nI src) (nI p) (nI d) isFull count heads lens rows slots nh nl nr fs fe fd fm ev es pa sp
  unfold wp_X3_take_0
  have h8 : cNA c ≤ 8 := hc.1.2.1
  have h4 : cNF c ≤ 4 := hc.1.2.2
  by_cases hfull : B.2 = true
  · have : isFull = 1 := by rw [hB.1, if_pos hfull]
    refine sw_no (by rw [this]; decide) ?_
    refine hp _ _ _ _ _ _ _ _ _ _ _ _ _ _ _ _ _ ?_
    unfold aVisit
    rw [if_pos hfull]; exact hB
  have hf0 : B.2 = false := by cases h : B.2 <;> simp_all
  have : isFull = 0 := by rw [hB.1, if_neg hfull]
  refine sw_yes this ?_
  refine w_copy hr (fun nh1 nl1 nr1 hr1 => ?_)
  have hd2 : d < 2 := by rcases hv.2 with q | q <;> omega
  have hmsg := aMsg_lt hc ha hv
  have htgt := aTgt_lt hc hv
  have hOK1 := sOK_take hc ha hv
  have hOK2 := sOK_step hc ha (fun i => sm.testBit i) hv
  have fin : ∀ (nh nl : Int64) (nr : Nat → Int64) (x1 : Int32), src < 256 → cRep (aTake a src p d) nh nl nr → wp_X3_take_136 (nI n) (nI sm) (nI (cNA c)) (nI (cNF c)) fr to wt ft fv st told hh hl hrw post (nI s) (nI src) (nI d) (nI (aMsg c a src p)) (nI (aTgt c src)) isFull count heads lens rows slots nh nl nr fs fe fd fm ev es pa sp := by
    intro nh nl nr _ hs256 hr2
    unfold wp_X3_take_136
    refine w_deliver hc hOK1 hr2 hst (fun i h => (garcs i h).1) (fun i h => (garcs i h).2.2) hsm htgt hmsg (fun nh3 nl3 nr3 hr3 => ?_)
    refine w_stepOf hs256 hmsg hd2 ?_
    refine w_keepNext (x := (aStep c (fun i => sm.testBit i) a src p d, s, src, aMsg c a src p, d)) hc hB hf0 hn hn6 hOK2 hr3 (fun isFull count heads lens rows slots fs fe fd fm ev es pa sp hB' => hp _ _ _ _ _ _ _ _ _ _ _ _ _ _ _ _ _ ?_)
    unfold aVisit
    rw [if_neg hfull]; exact hB'
  rcases hv.1 with q | q
  · have e1 : (nI src - 100 : Int32) = nI (src - 100) := by rw [show (100 : Int32) = nI 100 from rfl, pk_sub q.1]
    rw [e1]
    refine ⟨fun z => absurd z (nI_pos (n := src - 100) (by omega)), fun _ => ?_⟩
    have hin4 : vp_in (nI (src - 100)) 4 := vp_in_nI (by omega) (by decide)
    have ev2 : fv (src - 100) = nI (aMsg c a src p) := by rw [(gfirsts _ q.2.1).2]; unfold aMsg; rw [if_pos q.1]
    have et2 : ft (src - 100) = nI (aTgt c src) := by rw [(gfirsts _ q.2.1).1]; unfold aTgt; rw [if_pos q.1]
    have go : ∀ (nh nl : Int64) (nr : Nat → Int64), cRep (aTake a src p d) nh nl nr → wp_X3_take_79 (nI n) (nI sm) (nI (cNA c)) (nI (cNF c)) fr to wt ft fv st told hh hl hrw post (nI s) (nI src) (nI p) (nI d) (nI (src - 100)) 1 isFull count heads lens rows slots nh nl nr fs fe fd fm ev es pa sp := by
      intro nh nl nr hr2
      unfold wp_X3_take_79
      refine sw_no (by decide) ⟨hin4, ?_⟩
      unfold wp_X3_take_106
      refine sw_no (by decide) ⟨hin4, ?_⟩
      rw [nI_clamp (by omega), ev2, et2]
      exact fin nh nl nr 0 (by omega) hr2
    unfold wp_X3_take_35
    rcases hv.2 with hd0 | ⟨hd1, hD⟩
    · subst hd0
      refine ns_no (by decide) (sw_no (by decide) (w_markCome ha hr1.1 (by omega) q.2.2.1 (go _ _ _ ?_)))
      unfold aTake
      rw [if_neg (by decide), if_pos q.1]
      exact ⟨rfl, hr1.2.1, hr1.2.2⟩
    · subst hd1
      refine ns_yes rfl (w_useDouble ha hr1.1 hD (go _ _ _ ?_))
      unfold aTake
      rw [if_pos rfl]
      exact ⟨rfl, hr1.2.1, hr1.2.2⟩
  · refine ⟨fun _ => ?_, fun z => absurd (pk_sneg (a := src) (b := 100) (by omega) (by omega)) z⟩
    have hin8 : vp_in (nI src) 8 := vp_in_nI (by omega) (by decide)
    have n100 : ¬ 100 ≤ src := by omega
    have em : ((sR a).getD src []).getD p 0 = aMsg c a src p := by unfold aMsg; rw [if_neg n100]
    have et2 : to src = nI (aTgt c src) := by rw [(garcs _ q.1).2.1]; unfold aTgt; rw [if_neg n100]
    have go : ∀ (nh nl : Int64) (nr : Nat → Int64), cRep (aTake a src p d) nh nl nr → wp_X3_take_79 (nI n) (nI sm) (nI (cNA c)) (nI (cNF c)) fr to wt ft fv st told hh hl hrw post (nI s) (nI src) (nI p) (nI d) (nI src - 100) 0 isFull count heads lens rows slots nh nl nr fs fe fd fm ev es pa sp := by
      intro nh nl nr hr2
      unfold wp_X3_take_79
      refine sw_yes rfl (w_messageAt ha hr.2.2 (by omega) q.2 ?_)
      unfold wp_X3_take_106
      refine sw_yes rfl ⟨hin8, ?_⟩
      rw [nI_clamp (by omega), em, et2]
      exact fin nh nl nr 0 (by omega) hr2
    unfold wp_X3_take_35
    rcases hv.2 with hd0 | ⟨hd1, hD⟩
    · subst hd0
      refine ns_no (by decide) (sw_yes rfl (w_take ha hr1 (by omega) q.2 (fun nl2 nr2 hr2 => go _ _ _ ?_)))
      unfold aTake
      rw [if_neg (by decide), if_neg n100]
      exact hr2
    · subst hd1
      refine ns_yes rfl (w_useDouble ha hr1.1 hD (go _ _ _ ?_))
      unfold aTake
      rw [if_pos rfl]
      exact ⟨rfl, hr1.2.1, hr1.2.2⟩
end TK
