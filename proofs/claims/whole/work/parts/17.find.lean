/-! ENDS, and what the class notes of a look -/
def en (L : List AE) (i : Nat) : AE := L.getD i (([], [], [], 0, []), 0, 0, 0, 0)
theorem stt_en (L : List AE) (i : Nat) : stt L i = (en L i).1 := by
  unfold stt en
  rw [List.getD_eq_getElem?_getD, List.getElem?_map, List.getD_eq_getElem?_getD]
  cases L[i]? <;> rfl
theorem en_app {L : List AE} {x : AE} {i : Nat} (h : i < L.length) : en (L ++ [x]) i = en L i := by
  unfold en
  rw [List.getD_eq_getElem?_getD, List.getElem?_append_left h, ← List.getD_eq_getElem?_getD]
theorem en_new {L : List AE} {x : AE} : en (L ++ [x]) L.length = x := by
  unfold en
  rw [List.getD_eq_getElem?_getD, List.getElem?_append_right (Nat.le_refl _), Nat.sub_self]
  rfl
theorem snoc_ind {P : List AE → Prop} (h0 : P []) (hs : ∀ L x, P L → P (L ++ [x])) : ∀ L, P L := by
  intro L
  have key : ∀ M : List AE, P M.reverse := by
    intro M
    induction M with
    | nil => exact h0
    | cons x M ih => rw [List.reverse_cons]; exact hs _ _ ih
  have := key L.reverse
  rwa [List.reverse_reverse] at this
def aE (c : Cf) (L : List AE) : List Nat := aEnds c [] L 0
theorem aEnds_app (c : Cf) (x : AE) : ∀ (l seen : List AE) (k : Nat), aEnds c seen (l ++ [x]) k = aEnds c seen l k ++ (if aIsEnd c (seen ++ l) x.1 = true then [k + l.length] else [])
  | [], seen, k => by simp [aEnds]
  | e :: l, seen, k => by
    rw [List.cons_append, aEnds, aEnds, aEnds_app c x l (seen ++ [e]) (k + 1), List.append_assoc, List.append_assoc]
    rw [show seen ++ ([e] ++ l) = seen ++ e :: l from rfl, List.length_cons, show k + 1 + l.length = k + (l.length + 1) by omega]
theorem aE_app (c : Cf) (L : List AE) (x : AE) : aE c (L ++ [x]) = aE c L ++ (if aIsEnd c L x.1 = true then [L.length] else []) := by
  unfold aE
  rw [aEnds_app, List.nil_append, Nat.zero_add]
theorem aDead_app (c : Cf) (L : List AE) (x : AE) : aDead c (L ++ [x]) = aDead c L + (if aPend c x.1 = 0 then 1 else 0) := by
  unfold aDead
  rw [List.filter_append, List.length_append]
  congr 1
  by_cases h : aPend c x.1 = 0
  · rw [if_pos h]; simp [h]
  · rw [if_neg h]; simp [h]
theorem aMost_app (c : Cf) (L : List AE) (x : AE) : aMost c (L ++ [x]) = if aMost c L < aPend c x.1 then aPend c x.1 else aMost c L := by
  unfold aMost
  rw [List.foldl_append]
  rfl
theorem aE_len (c : Cf) : ∀ L, (aE c L).length ≤ L.length := by
  refine snoc_ind (by simp [aE, aEnds]) (fun L x ih => ?_)
  rw [aE_app, List.length_append, List.length_append]
  split <;> simp <;> omega
theorem aE_ok (c : Cf) : ∀ L, (∀ k, k < (aE c L).length → (aE c L).getD k 0 < L.length ∧ aPend c (stt L ((aE c L).getD k 0)) = 0) ∧ ∀ i, i < L.length → aPend c (stt L i) = 0 → ∃ k, k < (aE c L).length ∧ sV (stt L ((aE c L).getD k 0)) = sV (stt L i) := by
  refine snoc_ind ⟨fun k h => by simp [aE, aEnds] at h, fun i h => by simp at h⟩ (fun L x ih => ?_)
  obtain ⟨ih1, ih2⟩ := ih
  have old : ∀ k, k < (aE c L).length → (aE c (L ++ [x])).getD k 0 = (aE c L).getD k 0 := by
    intro k hk
    rw [aE_app, List.getD_eq_getElem?_getD, List.getElem?_append_left hk, ← List.getD_eq_getElem?_getD]
  have lenle : (aE c L).length ≤ (aE c (L ++ [x])).length := by rw [aE_app, List.length_append]; omega
  have new : aIsEnd c L x.1 = true → (aE c (L ++ [x])).length = (aE c L).length + 1 ∧ (aE c (L ++ [x])).getD (aE c L).length 0 = L.length := by
    intro h
    rw [aE_app, if_pos h, List.length_append]
    refine ⟨rfl, ?_⟩
    rw [List.getD_eq_getElem?_getD, List.getElem?_append_right (Nat.le_refl _), Nat.sub_self]; rfl
  have same : ¬ aIsEnd c L x.1 = true → (aE c (L ++ [x])).length = (aE c L).length := by
    intro h
    rw [aE_app, if_neg h, List.append_nil]
  refine ⟨fun k hk => ?_, fun i hi hz => ?_⟩
  · rw [List.length_append, List.length_singleton]
    by_cases hk2 : k < (aE c L).length
    · rw [old k hk2]
      obtain ⟨g1, g2⟩ := ih1 k hk2
      exact ⟨by omega, by rw [stt_app g1]; exact g2⟩
    · by_cases q : aIsEnd c L x.1 = true
      · obtain ⟨n1, n2⟩ := new q
        have : k = (aE c L).length := by omega
        subst this
        rw [n2]
        refine ⟨by omega, ?_⟩
        rw [stt_new]
        unfold aIsEnd at q
        simp only [Bool.and_eq_true, decide_eq_true_eq] at q
        exact q.1
      · rw [same q] at hk; omega
  · rw [List.length_append, List.length_singleton] at hi
    have lift : ∀ i, i < L.length → aPend c (stt L i) = 0 → ∃ k, k < (aE c (L ++ [x])).length ∧ sV (stt (L ++ [x]) ((aE c (L ++ [x])).getD k 0)) = sV (stt L i) := by
      intro i hi hz
      obtain ⟨k, hk, e⟩ := ih2 i hi hz
      exact ⟨k, by omega, by rw [old k hk, stt_app (ih1 k hk).1]; exact e⟩
    by_cases e : i = L.length
    · subst e
      rw [stt_new] at hz ⊢
      by_cases q : aIsEnd c L x.1 = true
      · obtain ⟨n1, n2⟩ := new q
        exact ⟨(aE c L).length, by omega, by rw [n2, stt_new]⟩
      · unfold aIsEnd at q
        simp only [Bool.and_eq_true, decide_eq_true_eq, Bool.not_eq_true', not_and, hz, forall_const, Bool.not_eq_false, List.any_eq_true] at q
        obtain ⟨e, he, h1, h2⟩ := q
        obtain ⟨j, hj, ej⟩ := stt_mem.mp (List.mem_map_of_mem (f := fun e => e.1) he)
        obtain ⟨k, hk, e3⟩ := lift j hj (by rw [ej]; exact h1)
        exact ⟨k, hk, by rw [e3, ej]; exact h2⟩
    · rw [stt_app (by omega)] at hz ⊢
      exact lift i (by omega) hz
theorem aIsEnd_iff {c : Cf} {L : List AE} {b : AS} (hz : aPend c b = 0) : aIsEnd c L b = true ↔ ∀ k, k < (aE c L).length → sV (stt L ((aE c L).getD k 0)) ≠ sV b := by
  obtain ⟨h1, h2⟩ := aE_ok c L
  unfold aIsEnd
  simp only [hz, decide_true, Bool.true_and, Bool.not_eq_true', List.any_eq_false, Bool.and_eq_true, decide_eq_true_eq, not_and]
  constructor
  · intro q k hk e
    obtain ⟨g1, g2⟩ := h1 k hk
    obtain ⟨x, hx, ex⟩ := List.mem_map.mp (stt_mem.mpr ⟨_, g1, rfl⟩)
    have ex : x.1 = stt L ((aE c L).getD k 0) := ex
    exact q x hx (by rw [ex]; exact g2) (by rw [ex]; exact e)
  · intro q x hx h3 h4
    obtain ⟨j, hj, ej⟩ := stt_mem.mp (List.mem_map_of_mem (f := fun e => e.1) hx)
    obtain ⟨k, hk, e⟩ := h2 j hj (by rw [ej]; exact h3)
    exact q k hk (by rw [e, ej]; exact h4)
theorem aPend_le {c : Cf} {a : AS} (hc : cOK c) (h : sOK c a) : aPend c a ≤ 132 := by
  unfold aPend
  have h1 := List.length_filter_le (fun f => decide ((sC a).getD f 0 = 0)) (List.range (cNF c))
  rw [List.length_range] at h1
  have h2 := sum_len_le h (Nat.le_refl 8)
  rw [List.take_of_length_le (by rw [h.lR]; omega)] at h2
  have := hc.1.2.2
  omega
def scode (x : AE) : Nat := x.2.2.1 + 256 * x.2.2.2.1 + 4096 * x.2.2.2.2
/-- what is noted of the STATES found -/
def iRep (c : Cf) (L : List AE) (fs fe fd fm : Int32) (ev es pa sp : Nat → Int32) : Prop := fs = nI L.length ∧ fe = nI (aE c L).length ∧ fd = nI (aDead c L) ∧ (fm = nI (aMost c L) ∧ aMost c L ≤ 132) ∧ (∀ k, k < (aE c L).length → es k = nI ((aE c L).getD k 0) ∧ ev k = nI (dig 16 (sV (stt L ((aE c L).getD k 0))))) ∧ ∀ i, i < L.length → pa i = nI (en L i).2.1 ∧ sp i = nI (scode (en L i))
theorem w_noteEnd {n val : Nat} {w : Nat → Nat} {fs : Int32} {ev es : Nat → Int32} (hn : n < 600) (hv : val < 2 ^ 20) (hw : ∀ k, k < n → w k < 2 ^ 20 ∧ ev k = nI (w k)) {post : Int32 → (Nat → Int32) → (Nat → Int32) → Prop} (h1 : ∀ k, k < n → w k = val → post (nI n) ev es) (h0 : (∀ k, k < n → w k ≠ val) → post (nI (n + 1)) (upd ev n (nI val)) (upd es n fs)) : wp_X0_noteEnd fs (nI n) ev es (nI val) post := by
  show wp_X0_noteEnd_0 fs post (nI val) (nI n) ev es
  unfold wp_X0_noteEnd_0 wp_X0_noteEnd_2
  refine ⟨fun k x2 => ∃ i, i ≤ n ∧ k = n - i ∧ x2 = nI i ∧ ∀ k, k < i → w k ≠ val, n, ⟨0, by omega, rfl, rfl, fun k h => absurd h (Nat.not_lt_zero _)⟩, ?_⟩
  rintro k x2 ⟨i, hi, rfl, rfl, hI⟩
  unfold bd_X0_noteEnd_2
  refine pk_le n i (fun h => ?_) (fun h => ?_) rfl rfl (by omega) (by omega)
  · have e : i = n := by omega
    subst e
    have hin : vp_in (nI i) 600 := vp_in_nI hn (by decide)
    refine ⟨fun q => absurd q (nI_ge hn (by decide)), fun _ => ⟨hin, hin, ?_⟩⟩
    rw [nI_clamp (by omega), nI_inc]
    exact h0 hI
  · obtain ⟨g1, g2⟩ := hw i h
    refine ⟨vp_in_nI (by omega) (by decide), ?_⟩
    rw [nI_clamp (by omega), g2]
    by_cases e : w i = val
    · exact ns_yes (by rw [e]) (h1 i h e)
    · refine ns_no (fun z => e ((nI_eq (by omega) (by omega)).mp z)) ⟨n - (i + 1), by omega, i + 1, by omega, rfl, nI_inc i, fun k hk => ?_⟩
      by_cases e2 : k = i
      · rw [e2]; exact e
      · exact hI k (by omega)
section NT
variable {c : Cf} {L : List AE} {fs fe fd fm : Int32} {ev es pa sp : Nat → Int32}
theorem w_note (hc : cOK c) (hi : iRep c L fs fe fd fm ev es pa sp) (hall : ∀ i, i < L.length → sOK c (stt L i)) (hn : L.length < 600) {x : AE} (hx : sOK c x.1) {post : Int32 → Int32 → Int32 → Int32 → (Nat → Int32) → (Nat → Int32) → (Nat → Int32) → (Nat → Int32) → Prop}
    (hp : ∀ fs fe fd fm ev es pa sp, iRep c (L ++ [x]) fs fe fd fm ev es pa sp → post fs fe fd fm ev es pa sp) : wp_X0_note fs fe fd fm ev es pa sp (nI x.2.1) (nI (scode x)) (nI (aPend c x.1)) (nI (dig 16 (sV x.1))) post := by
  obtain ⟨e1, e2, e3, ⟨e4, b4⟩, e5, e6⟩ := hi
  show wp_X0_note_0 post (nI x.2.1) (nI (scode x)) (nI (aPend c x.1)) (nI (dig 16 (sV x.1))) fs fe fd fm ev es pa sp
  unfold wp_X0_note_0
  have hpd := aPend_le hc hx
  have hEl := aE_len c L
  obtain ⟨ok1, ok2⟩ := aE_ok c L
  rw [e1]
  have hin : vp_in (nI L.length) 600 := vp_in_nI hn (by decide)
  refine ⟨fun _ => ⟨hin, hin, ?_⟩, fun q => absurd (nI_lt hn (by decide)) q⟩
  rw [nI_clamp (by omega), e4, nmax (by omega) (by omega), ← aMost_app]
  have bm : aMost c (L ++ [x]) ≤ 132 := by rw [aMost_app]; split <;> omega
  have parts : ∀ i, i < (L ++ [x]).length → upd pa L.length (nI x.2.1) i = nI (en (L ++ [x]) i).2.1 ∧ upd sp L.length (nI (scode x)) i = nI (scode (en (L ++ [x]) i)) := by
    intro i h
    rw [List.length_append, List.length_singleton] at h
    by_cases e : i = L.length
    · subst e; rw [en_new, pk_us, pk_us]; exact ⟨rfl, rfl⟩
    · rw [en_app (by omega), pk_un e, pk_un e]; exact e6 i (by omega)
  have keep : ∀ k, k < (aE c L).length → (aE c (L ++ [x])).getD k 0 = (aE c L).getD k 0 := by
    intro k hk
    rw [aE_app, List.getD_eq_getElem?_getD, List.getElem?_append_left hk, ← List.getD_eq_getElem?_getD]
  by_cases hz : aPend c x.1 = 0
  · refine ns_yes (by rw [hz]; rfl) ?_
    rw [e2]
    refine w_noteEnd (w := fun k => dig 16 (sV (stt L ((aE c L).getD k 0)))) (by omega) (eV_lt hx) (fun k hk => ⟨eV_lt (hall _ (ok1 k hk).1), (e5 k hk).2⟩) (fun k hk e => ?_) (fun q => ?_)
    · unfold wp_X0_note_63
      have ni : ¬ aIsEnd c L x.1 = true := by
        rw [aIsEnd_iff hz]
        intro z
        exact z k hk (dig_inj (by decide) _ _ (by rw [(hall _ (ok1 k hk).1).lV, hx.lV]) (hall _ (ok1 k hk).1).bV hx.bV e)
      have eE : aE c (L ++ [x]) = aE c L := by rw [aE_app, if_neg ni, List.append_nil]
      refine hp _ _ _ _ _ _ _ _ ⟨by rw [List.length_append, nI_inc]; rfl, by rw [eE], ?_, ⟨rfl, bm⟩, fun k hk => ?_, parts⟩
      · rw [aDead_app, if_pos hz, e3, nI_inc]
      · rw [eE] at hk ⊢
        rw [stt_app (ok1 k hk).1]
        exact e5 k hk
    · unfold wp_X0_note_63
      have ni : aIsEnd c L x.1 = true := by
        rw [aIsEnd_iff hz]
        intro k hk z
        exact q k hk (by rw [z])
      have eE : aE c (L ++ [x]) = aE c L ++ [L.length] := by rw [aE_app, if_pos ni]
      refine hp _ _ _ _ _ _ _ _ ⟨by rw [List.length_append, nI_inc]; rfl, by rw [eE, List.length_append]; rfl, ?_, ⟨rfl, bm⟩, fun k hk => ?_, parts⟩
      · rw [aDead_app, if_pos hz, e3, nI_inc]
      · rw [eE, List.length_append, List.length_singleton] at hk
        by_cases e : k = (aE c L).length
        · subst e
          have : (aE c (L ++ [x])).getD (aE c L).length 0 = L.length := by
            rw [eE, List.getD_eq_getElem?_getD, List.getElem?_append_right (Nat.le_refl _), Nat.sub_self]; rfl
          rw [this, pk_us, pk_us, stt_new]
          exact ⟨rfl, rfl⟩
        · rw [keep k (by omega), pk_un e, pk_un e, stt_app (ok1 k (by omega)).1]
          exact e5 k (by omega)
  · refine ns_no (nI_ne0 (by omega) (by omega)) ?_
    unfold wp_X0_note_63
    have ni : ¬ aIsEnd c L x.1 = true := by unfold aIsEnd; simp [hz]
    have eE : aE c (L ++ [x]) = aE c L := by rw [aE_app, if_neg ni, List.append_nil]
    refine hp _ _ _ _ _ _ _ _ ⟨by rw [List.length_append, nI_inc]; rfl, by rw [eE, e2], ?_, ⟨rfl, bm⟩, fun k hk => ?_, parts⟩
    · rw [aDead_app, if_neg hz, e3, Nat.add_zero]
    · rw [eE] at hk ⊢
      rw [stt_app (ok1 k hk).1]
      exact e5 k hk
end NT
