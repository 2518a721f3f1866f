/-! what a look of the picture keeps -/
theorem aSteps_v {c : Cf} (hc : cOK c) {a : AS} {t : Nat × Nat × Nat} (ht : t ∈ aSteps c a) : vStep c a t.1 t.2.1 t.2.2 := by
  unfold aSteps at ht
  rw [List.mem_append, List.mem_flatMap, List.mem_flatMap] at ht
  rcases ht with ⟨f, hf, h⟩ | ⟨i, hi, h⟩
  · rw [List.mem_range] at hf
    by_cases e : (sC a).getD f 0 = 0
    · rw [aFirsts_yes e, List.mem_map] at h
      obtain ⟨d, hd, rfl⟩ := h
      rw [List.mem_range] at hd
      refine ⟨Or.inl ⟨by show 100 ≤ 100 + f; omega, ?_, ?_, rfl⟩, mmn_step hd⟩
      · show 100 + f - 100 < cNF c; omega
      · show (sC a).getD (100 + f - 100) 0 = 0
        rw [show 100 + f - 100 = f by omega]; exact e
    · rw [aFirsts_no e] at h; cases h
  · rw [List.mem_range] at hi
    unfold aArc at h
    rw [List.mem_flatMap] at h
    obtain ⟨p, hp, h⟩ := h
    rw [List.mem_range] at hp
    by_cases e : aIs c ((sR a).getD i []) p = true
    · rw [aPlace_yes e, List.mem_map] at h
      obtain ⟨d, hd, rfl⟩ := h
      rw [List.mem_range] at hd
      exact ⟨Or.inr ⟨hi, hp⟩, mmn_step hd⟩
    · rw [aPlace_no e] at h; cases h
def gOK (c : Cf) (L : List AE) : Prop := 1 ≤ L.length ∧ ∀ i, i < L.length → sOK c (stt L i) ∧ (0 < i → (en L i).2.1 < i ∧ (en L i).2.2.1 < 256 ∧ (en L i).2.2.2.1 < 16 ∧ (en L i).2.2.2.2 < 2)
theorem gOK_push {c : Cf} {n : Nat} {B : BS} {x : AE} (hB : gOK c B.1) (hx : sOK c x.1) (h1 : x.2.1 < B.1.length) (h2 : x.2.2.1 < 256) (h3 : x.2.2.2.1 < 16) (h4 : x.2.2.2.2 < 2) : gOK c (aPush n B x).1 := by
  unfold aPush
  split
  · exact hB
  · split
    · exact hB
    · refine ⟨by show 1 ≤ (B.1 ++ [x]).length; rw [List.length_append]; have := hB.1; omega, fun i hi => ?_⟩
      have hi : i < (B.1 ++ [x]).length := hi
      rw [List.length_append, List.length_singleton] at hi
      show sOK c (stt (B.1 ++ [x]) i) ∧ (0 < i → (en (B.1 ++ [x]) i).2.1 < i ∧ (en (B.1 ++ [x]) i).2.2.1 < 256 ∧ (en (B.1 ++ [x]) i).2.2.2.1 < 16 ∧ (en (B.1 ++ [x]) i).2.2.2.2 < 2)
      by_cases e : i = B.1.length
      · subst e
        rw [stt_new, en_new]
        exact ⟨hx, fun _ => ⟨h1, h2, h3, h4⟩⟩
      · rw [stt_app (by omega), en_app (by omega)]
        exact hB.2 i (by omega)
theorem src_lt {c : Cf} (hc : cOK c) {a : AS} {s p d : Nat} (h : vStep c a s p d) : s < 256 ∧ d < 2 := by
  have h8 : cNA c ≤ 8 := hc.1.2.1
  have h4 : cNF c ≤ 4 := hc.1.2.2
  obtain ⟨h1, h2⟩ := h
  refine ⟨?_, by omega⟩
  rcases h1 with h1 | h1 <;> omega
theorem gOK_visit {c : Cf} (hc : cOK c) {stay : Nat → Bool} {n s : Nat} {a : AS} {B : BS} {t : Nat × Nat × Nat} (hB : gOK c B.1) (ha : sOK c a) (hs : s < B.1.length) (ht : vStep c a t.1 t.2.1 t.2.2) : gOK c (aVisit c stay n s a B t).1 := by
  unfold aVisit
  split
  · exact hB
  · obtain ⟨h1, h2⟩ := src_lt hc ht
    exact gOK_push hB (sOK_step hc ha stay ht) hs h1 (aMsg_lt hc ha ht) h2
theorem gOK_go {c : Cf} (hc : cOK c) {stay : Nat → Bool} {n s : Nat} {a : AS} (ha : sOK c a) : ∀ (l : List (Nat × Nat × Nat)) {B : BS}, gOK c B.1 → s < B.1.length → (∀ t ∈ l, vStep c a t.1 t.2.1 t.2.2) → gOK c (aGo c stay n s a B l).1
  | [], _, hB, _, _ => hB
  | t :: l, B, hB, hs, ht => by
    obtain ⟨M, hM⟩ := aVisit_ext (c := c) (stay := stay) (n := n) (s := s) (a := a) (B := B) (t := t)
    exact gOK_go hc ha l (gOK_visit hc hB ha hs (ht t List.mem_cons_self)) (by rw [hM, List.length_append]; omega) (fun t h => ht t (List.mem_cons_of_mem _ h))
theorem aSt_stt (B : BS) (s : Nat) : aSt B s = stt B.1 s := rfl
theorem gOK_loop {c : Cf} (hc : cOK c) {stay : Nat → Bool} {n : Nat} : ∀ (f s : Nat) {B : BS}, gOK c B.1 → gOK c (aLoop c stay n f s B).1
  | 0, _, _, hB => hB
  | f + 1, s, B, hB => by
    unfold aLoop
    split
    · rename_i q
      exact gOK_loop hc f (s + 1) (gOK_go hc (hB.2 s q.1).1 _ hB q.1 (fun t ht => aSteps_v hc ht))
    · exact hB
theorem gOK_look {c : Cf} (hc : cOK c) (stay : Nat → Bool) (n : Nat) : gOK c (aLook c stay n).1 := by
  unfold aLook
  refine gOK_loop hc _ _ ⟨Nat.le_refl 1, fun i hi => ?_⟩
  have hi : i < 1 := hi
  have e : i = 0 := by omega
  subst e
  exact ⟨sOK_begin hc, fun h => absurd h (Nat.lt_irrefl _)⟩
/-! what stays counts for the ARCS alone -/
theorem aSend_cg {c : Cf} {s s' : Nat → Bool} {v y : Nat} {r : List (List Nat)} : ∀ n, (∀ i, i < n → s i = s' i) → aSend c s v y n r = aSend c s' v y n r
  | 0, _ => rfl
  | n + 1, h => by
    unfold aSend
    rw [aSend_cg n (fun i hi => h i (by omega)), h n (by omega)]
theorem aStep_cg {c : Cf} {s s' : Nat → Bool} (h : ∀ i, i < cNA c → s i = s' i) (a : AS) (src p d : Nat) : aStep c s a src p d = aStep c s' a src p d := by
  unfold aStep aDeliver
  rw [aSend_cg (c := c) (s := s) (s' := s') (cNA c) h]
theorem aLook_cg {c : Cf} {s s' : Nat → Bool} (h : ∀ i, i < cNA c → s i = s' i) (n : Nat) : aLook c s n = aLook c s' n := by
  have hv : ∀ (k : Nat) (a : AS), aVisit c s n k a = aVisit c s' n k a := by
    intro k a
    funext B t
    unfold aVisit
    rw [aStep_cg h]
  have hg : ∀ (k : Nat) (a : AS) (B : BS) (l : List (Nat × Nat × Nat)), aGo c s n k a B l = aGo c s' n k a B l := by
    intro k a B l
    unfold aGo
    rw [hv]
  have hl : ∀ (f k : Nat) (B : BS), aLoop c s n f k B = aLoop c s' n f k B := by
    intro f
    induction f with
    | zero => intro k B; rfl
    | succ f ih =>
      intro k B
      unfold aLoop
      rw [hg, ih]
  unfold aLook
  exact hl _ _ _
theorem aLook_len {c : Cf} {s : Nat → Bool} {n : Nat} (hn : 1 ≤ n) : (aLook c s n).1.length ≤ n := by
  have hl : ∀ (f k : Nat) (B : BS), B.1.length ≤ n → (aLoop c s n f k B).1.length ≤ n := by
    intro f
    induction f with
    | zero => intro k B h; exact h
    | succ f ih =>
      intro k B h
      unfold aLoop
      split
      · exact ih _ _ (aGo_len _ h)
      · exact h
  exact hl _ _ _ hn
