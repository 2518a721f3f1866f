/-! the reference: what is open, ENDS, look() -/
theorem take_en {L : List AE} {i : Nat} (h : i < L.length) : L.take (i + 1) = L.take i ++ [en L i] := by
  rw [List.take_add_one, List.getElem?_eq_getElem h]
  unfold en
  rw [List.getD_eq_getElem?_getD, List.getElem?_eq_getElem h]
  rfl
theorem aIsEnd_take {c : Cf} {L : List AE} {i : Nat} (hi : i ≤ L.length) {x : AS} : aIsEnd c (L.take i) x = true ↔ aPend c x = 0 ∧ ∀ s, s < i → ¬ (aPend c (stt L s) = 0 ∧ sV (stt L s) = sV x) := by
  unfold aIsEnd
  simp only [Bool.and_eq_true, decide_eq_true_eq, Bool.not_eq_true', List.any_eq_false, not_and]
  refine ⟨fun h => ⟨h.1, fun s hs h1 h2 => ?_⟩, fun h => ⟨h.1, fun e he h1 h2 => ?_⟩⟩
  · have hs2 : s < (L.take i).length := by rw [List.length_take]; omega
    have he : en (L.take i) s ∈ L.take i := getD_mem hs2
    have e2 : (en (L.take i) s).1 = stt L s := by
      rw [← stt_en]
      have : L = L.take i ++ L.drop i := (List.take_append_drop i L).symm
      conv => rhs; rw [this]
      rw [stt_ext hs2]
    exact h.2 _ he (by rw [e2]; exact h1) (by rw [e2]; exact h2)
  · obtain ⟨s, hs, e2⟩ := List.getElem_of_mem he
    have hs2 : s < i := by rw [List.length_take] at hs; omega
    have e3 : stt L s = e.1 := by
      have : L = L.take i ++ L.drop i := (List.take_append_drop i L).symm
      rw [this, stt_ext hs, stt_en]
      unfold en
      rw [List.getD_eq_getElem?_getD, List.getElem?_eq_getElem hs, e2]; rfl
    exact h.2 s hs2 (by rw [e3]; exact h1) (by rw [e3]; exact h2)
theorem sum_na {c : Cf} {a : AS} (hc : cOK c) (h : sOK c a) : ((sR a).map List.length).sum = (((sR a).take (cNA c)).map List.length).sum := by
  have h8 : cNA c ≤ 8 := hc.1.2.1
  have key : ∀ k, cNA c + k ≤ 8 → (((sR a).take (cNA c + k)).map List.length).sum = (((sR a).take (cNA c)).map List.length).sum := by
    intro k
    induction k with
    | zero => intro _; rfl
    | succ k ih =>
      intro hk
      rw [← Nat.add_assoc, sum_take (by rw [h.lR]; omega), ih (by omega), h.rHi _ (by omega)]; rfl
  have := key (8 - cNA c) (by omega)
  rw [show cNA c + (8 - cNA c) = 8 by omega, List.take_of_length_le (by rw [h.lR]; omega)] at this
  exact this
theorem filter_succ (P : Nat → Bool) (f : Nat) : ((List.range (f + 1)).filter P).length = ((List.range f).filter P).length + (if P f = true then 1 else 0) := by
  rw [List.range_succ, List.filter_append, List.length_append]
  congr 1
  by_cases h : P f = true
  · rw [if_pos h]; simp [h]
  · rw [if_neg h]; simp [h]
section ME
variable {c : Cf} {L : List AE} {found : Nat → Int32} {ar nfi : Int32}
theorem m_openIn (hc : cOK c) (har : ar = nI (cNA c)) (hnf : nfi = nI (cNF c)) (hR : pRows c L found) (hlen : L.length ≤ 600) {i : Nat} (hi : i < L.length) {post : Int32 → Prop} (hp : post (nI (aPend c (stt L i)))) : wp_X8_openIn ar nfi found (nI i) post := by
  obtain ⟨ha, hf⟩ := hR i hi
  have h8 : cNA c ≤ 8 := hc.1.2.1
  have h4 : cNF c ≤ 4 := hc.1.2.2
  generalize stt L i = a at ha hf hp
  show wp_X8_openIn_0 ar nfi found post (nI i)
  unfold wp_X8_openIn_0 wp_X8_openIn_4
  refine ⟨fun k x2 x3 => ∃ f, f ≤ cNF c ∧ k = cNF c - f ∧ x3 = nI f ∧ x2 = nI ((List.range f).filter (fun f => decide ((sC a).getD f 0 = 0))).length, cNF c, ⟨0, by omega, rfl, rfl, rfl⟩, ?_⟩
  rintro k x2 x3 ⟨f, hfn, rfl, rfl, rfl⟩
  unfold bd_X8_openIn_4
  rw [hnf]
  refine pk_le (cNF c) f (fun q => ?_) (fun q => ?_) rfl rfl (by omega) (by omega)
  · have e : f = cNF c := by omega
    subst e
    unfold wp_X8_openIn_48
    refine ⟨fun k x2 x3 => ∃ j, j ≤ cNA c ∧ k = cNA c - j ∧ x3 = nI j ∧ x2 = nI (((List.range (cNF c)).filter (fun f => decide ((sC a).getD f 0 = 0))).length + (((sR a).take j).map List.length).sum), cNA c, ⟨0, by omega, rfl, rfl, by simp⟩, ?_⟩
    rintro k x2 x3 ⟨j, hj, rfl, rfl, rfl⟩
    unfold bd_X8_openIn_48
    rw [har]
    refine pk_le (cNA c) j (fun q2 => ?_) (fun q2 => ?_) rfl rfl (by omega) (by omega)
    · have e : j = cNA c := by omega
      subst e
      unfold aPend at hp
      rw [sum_na hc ha] at hp
      exact hp
    · show wp_X8_rowOf_0 _ (nI j)
      unfold wp_X8_rowOf_0
      rw [row17]
      dsimp only
      rw [m148, nI_add]
      refine ⟨vp_in_nI (by omega) (by decide), ?_⟩
      rintro y4 rfl
      rw [nI_clamp (by omega), hf _ (by omega), mE_n, nI_add]
      refine ⟨cNA c - (j + 1), by omega, j + 1, by omega, rfl, nI_inc j, ?_⟩
      rw [sum_take (by rw [ha.lR]; omega), Nat.add_assoc]
  · rw [m148, show (10 : Int32) = nI 10 from rfl, nI_add]
    refine ⟨vp_in_nI (by omega) (by decide), ?_⟩
    have hC := eC_lt ha
    rw [nI_clamp (by omega), hf 10 (by decide), mE_c, shr_bit (by omega) (by omega), Nat.testBit_eq_decide_div_mod_eq]
    have hget := dig_get0 (B := 2) (by decide) (i := f) ha.bC (by rw [ha.lC]; omega)
    rw [hget]
    have hb := getD_all ha.bC (by decide) f
    unfold wp_X8_openIn_38
    refine ⟨fun z => ?_, fun z => ?_⟩
    · have hne : ¬ (sC a).getD f 0 = 0 := fun y => z (by rw [y]; decide)
      refine ⟨cNF c - (f + 1), by omega, f + 1, by omega, rfl, nI_inc f, ?_⟩
      rw [filter_succ, if_neg (by rw [decide_eq_true_eq]; exact hne), show (0 : Int32) = nI 0 from rfl, nI_add]
    · have he : (sC a).getD f 0 = 0 := by
        rw [decide_eq_false_iff_not] at z
        omega
      refine ⟨cNF c - (f + 1), by omega, f + 1, by omega, rfl, nI_inc f, ?_⟩
      rw [filter_succ, if_pos (by rw [decide_eq_true_eq]; exact he), nI_inc]
theorem m_isLike (hR : pRows c L found) (hlen : L.length ≤ 600) {i j : Nat} (hi : i < L.length) (hj : j < L.length) {post : Int32 → Prop} (h1 : sV (stt L i) = sV (stt L j) → post 1) (h0 : sV (stt L i) ≠ sV (stt L j) → post 0) : wp_X8_isLike found (nI i) (nI j) post := by
  obtain ⟨ha, hf⟩ := hR i hi
  obtain ⟨hb, hg⟩ := hR j hj
  show wp_X8_isLike_0 found post (nI i) (nI j)
  unfold wp_X8_isLike_0 wp_X8_isLike_5
  refine ⟨fun k x3 x4 => ∃ v, v ≤ 5 ∧ k = 5 - v ∧ x4 = nI v ∧ ((x3 = 1 ∧ ∀ w, w < v → (sV (stt L i)).getD w 0 = (sV (stt L j)).getD w 0) ∨ (x3 = 0 ∧ sV (stt L i) ≠ sV (stt L j))), 5, ⟨0, by omega, rfl, rfl, Or.inl ⟨rfl, fun w h => absurd h (Nat.not_lt_zero _)⟩⟩, ?_⟩
  rintro k x3 x4 ⟨v, hv, rfl, rfl, hI⟩
  unfold bd_X8_isLike_5 wp_X8_isLike_48 wp_X8_isLike_49
  refine pk_le 5 v (fun q => ?_) (fun q => ?_) rfl rfl (by decide) (by omega)
  · rcases hI with ⟨e, h⟩ | ⟨e, h⟩
    · subst e
      refine ⟨by decide, h1 ?_⟩
      apply List.ext_getElem (by rw [ha.lV, hb.lV])
      intro w g1 g2
      have := h w (by rw [ha.lV] at g1; omega)
      rwa [List.getD_eq_getElem?_getD, List.getElem?_eq_getElem g1, List.getD_eq_getElem?_getD, List.getElem?_eq_getElem g2] at this
    · subst e
      exact ⟨by decide, h0 h⟩
  · rcases hI with ⟨e, h⟩ | ⟨e, h⟩
    · subst e
      refine sw_no (by decide) ?_
      rw [m148, m148, nI_add, nI_add]
      refine ⟨vp_in_nI (by omega) (by decide), vp_in_nI (by omega) (by decide), ?_⟩
      rw [nI_clamp (by omega), nI_clamp (by omega), hf v (by omega), hg v (by omega), mE_v q, mE_v q]
      have l1 := getD_all ha.bV (by decide) v
      have l2 := getD_all hb.bV (by decide) v
      by_cases e2 : (sV (stt L i)).getD v 0 = (sV (stt L j)).getD v 0
      · refine ns_yes (by rw [e2]) ⟨5 - (v + 1), by omega, v + 1, by omega, rfl, nI_inc v, Or.inl ⟨rfl, fun w hw => ?_⟩⟩
        by_cases e3 : w = v
        · rw [e3]; exact e2
        · exact h w (by omega)
      · exact ns_no (fun z => e2 ((nI_eq (by omega) (by omega)).mp z)) ⟨5 - (v + 1), by omega, v + 1, by omega, rfl, nI_inc v, Or.inr ⟨rfl, fun z => e2 (by rw [z])⟩⟩
    · subst e
      exact sw_yes rfl ⟨5 - (v + 1), by omega, v + 1, by omega, rfl, nI_inc v, Or.inr ⟨rfl, h⟩⟩
theorem m_isFirstOf (hc : cOK c) (har : ar = nI (cNA c)) (hnf : nfi = nI (cNF c)) (hR : pRows c L found) (hlen : L.length ≤ 600) {i : Nat} (hi : i < L.length) {post : Int32 → Prop} (h1 : aIsEnd c (L.take i) (stt L i) = true → post 1) (h0 : ¬ aIsEnd c (L.take i) (stt L i) = true → post 0) : wp_X8_isFirstOf ar nfi found (nI i) post := by
  rw [aIsEnd_take (by omega)] at h1 h0
  show wp_X8_isFirstOf_0 ar nfi found post (nI i)
  unfold wp_X8_isFirstOf_0
  refine m_openIn hc har hnf hR hlen hi ?_
  have hpd := aPend_le hc (hR i hi).1
  refine pk_le (aPend c (stt L i)) 0 (fun q => ?_) (fun q => ?_) rfl rfl (by omega) (by decide)
  · unfold wp_X8_isFirstOf_12
    refine ⟨fun k x2 => ∃ s, s ≤ i ∧ k = i - s ∧ x2 = nI s ∧ ∀ t, t < s → ¬ (aPend c (stt L t) = 0 ∧ sV (stt L t) = sV (stt L i)), i, ⟨0, by omega, rfl, rfl, fun t h => absurd h (Nat.not_lt_zero _)⟩, ?_⟩
    rintro k x2 ⟨s, hs, rfl, rfl, hI⟩
    unfold bd_X8_isFirstOf_12 wp_X8_isFirstOf_36
    refine pk_le i s (fun q2 => ?_) (fun q2 => ?_) rfl rfl (by omega) (by omega)
    · exact h1 ⟨by omega, fun t ht => hI t (by omega)⟩
    · refine m_openIn hc har hnf hR hlen (by omega) ?_
      have hps := aPend_le hc (hR s (by omega)).1
      have next : ¬ (aPend c (stt L s) = 0 ∧ sV (stt L s) = sV (stt L i)) → ∃ n', n' < i - s ∧ ∃ s', s' ≤ i ∧ n' = i - s' ∧ nI s + 1 = nI s' ∧ ∀ t, t < s' → ¬ (aPend c (stt L t) = 0 ∧ sV (stt L t) = sV (stt L i)) := by
        intro h
        refine ⟨i - (s + 1), by omega, s + 1, by omega, rfl, nI_inc s, fun t ht => ?_⟩
        by_cases e : t = s
        · rw [e]; exact h
        · exact hI t (by omega)
      by_cases e : aPend c (stt L s) = 0
      · refine ns_yes (by rw [e]; rfl) (m_isLike hR hlen (by omega) hi (fun z => ?_) (fun z => ?_))
        · exact sw_no (by decide) (h0 (fun y => y.2 s q2 ⟨e, z⟩))
        · exact sw_yes rfl (next (fun y => z y.2))
      · exact ns_no (nI_ne0 (by omega) (by omega)) (next (fun y => e y.1))
  · exact h0 (fun z => by omega)
theorem aE_take {c : Cf} {L : List AE} {i : Nat} (hi : i < L.length) : aE c (L.take (i + 1)) = aE c (L.take i) ++ (if aIsEnd c (L.take i) (stt L i) = true then [i] else []) := by
  rw [take_en hi, aE_app, ← stt_en, List.length_take, Nat.min_eq_left (by omega)]
variable {states : Int32}
theorem m_countEnds (hc : cOK c) (har : ar = nI (cNA c)) (hnf : nfi = nI (cNF c)) (hR : pRows c L found) (hlen : L.length ≤ 600) (hst : states = nI L.length) {post : Int32 → Prop} (hp : post (nI (aE c L).length)) : wp_X8_countEnds ar nfi found states post := by
  show wp_X8_countEnds_0 ar nfi found states post
  unfold wp_X8_countEnds_0 wp_X8_countEnds_4
  refine ⟨fun k x1 x2 => ∃ s, s ≤ L.length ∧ k = L.length - s ∧ x2 = nI s ∧ x1 = nI (aE c (L.take s)).length, L.length, ⟨0, by omega, rfl, rfl, rfl⟩, ?_⟩
  rintro k x1 x2 ⟨s, hs, rfl, rfl, rfl⟩
  unfold bd_X8_countEnds_4 wp_X8_countEnds_26
  rw [hst]
  refine pk_le L.length s (fun q => ?_) (fun q => ?_) rfl rfl (by omega) (by omega)
  · have e : s = L.length := by omega
    subst e
    rw [List.take_length]; exact hp
  · refine m_isFirstOf hc har hnf hR hlen q (fun z => ?_) (fun z => ?_)
    · refine sw_no (by decide) ⟨L.length - (s + 1), by omega, s + 1, by omega, rfl, nI_inc s, ?_⟩
      rw [aE_take q, if_pos z, List.length_append, nI_inc]; rfl
    · refine sw_yes rfl ⟨L.length - (s + 1), by omega, s + 1, by omega, rfl, nI_inc s, ?_⟩
      rw [aE_take q, if_neg z, List.append_nil, show (0 : Int32) = nI 0 from rfl, nI_add, Nat.add_zero]
end ME
