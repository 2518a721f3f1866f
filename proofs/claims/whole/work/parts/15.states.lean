/-! the class's table of STATES -/
def stt (L : List AE) (i : Nat) : AS := (L.map (fun e => e.1)).getD i ([], [], [], 0, [])
theorem stt_app {L : List AE} {x : AE} {i : Nat} (h : i < L.length) : stt (L ++ [x]) i = stt L i := by
  unfold stt
  rw [List.map_append, List.getD_eq_getElem?_getD, List.getElem?_append_left (by rw [List.length_map]; exact h), ← List.getD_eq_getElem?_getD]
theorem stt_new {L : List AE} {x : AE} : stt (L ++ [x]) L.length = x.1 := by
  unfold stt
  rw [List.map_append, List.getD_eq_getElem?_getD, List.getElem?_append_right (by rw [List.length_map]; exact Nat.le_refl _), List.length_map, Nat.sub_self]
  rfl
theorem stt_mem {L : List AE} {b : AS} : b ∈ L.map (fun e => e.1) ↔ ∃ i, i < L.length ∧ stt L i = b := by
  unfold stt
  constructor
  · intro h
    obtain ⟨i, hi, rfl⟩ := List.getElem_of_mem h
    refine ⟨i, by rw [List.length_map] at hi; exact hi, ?_⟩
    rw [List.getD_eq_getElem?_getD, List.getElem?_eq_getElem hi]; rfl
  · rintro ⟨i, hi, rfl⟩
    exact getD_mem (by rw [List.length_map]; exact hi)
theorem dig_len_inj {l m : List (List Nat)} (hl : l.length = 8) (hm : m.length = 8) (bl : ∀ r ∈ l, r.length < 32) (bm : ∀ r ∈ m, r.length < 32) (h16 : ∀ r ∈ l, ∀ d ∈ r, d < 16) (h16' : ∀ r ∈ m, ∀ d ∈ r, d < 16) (e : dig 32 (l.map List.length) = dig 32 (m.map List.length)) (er : ∀ j, j < 8 → dig 16 (l.getD j []) = dig 16 (m.getD j [])) : l = m := by
  have e1 : l.map List.length = m.map List.length := dig_inj (by decide) _ _ (by rw [List.length_map, List.length_map, hl, hm]) (fun d hd => by obtain ⟨r, hr, rfl⟩ := List.mem_map.mp hd; exact bl r hr) (fun d hd => by obtain ⟨r, hr, rfl⟩ := List.mem_map.mp hd; exact bm r hr) e
  apply List.ext_getElem (by rw [hl, hm])
  intro j h1 h2
  have h3 := er j (by omega)
  rw [List.getD_eq_getElem?_getD, List.getElem?_eq_getElem h1, List.getD_eq_getElem?_getD, List.getElem?_eq_getElem h2] at h3
  refine dig_inj (B := 16) (by decide) _ _ ?_ (h16 _ (List.getElem_mem h1)) (h16' _ (List.getElem_mem h2)) h3
  have h4 : (l.map List.length)[j]? = (m.map List.length)[j]? := by rw [e1]
  rw [List.getElem?_map, List.getElem?_map, List.getElem?_eq_getElem h1, List.getElem?_eq_getElem h2] at h4
  exact Option.some.inj h4
theorem enc_inj {c : Cf} {a b : AS} (ha : sOK c a) (hb : sOK c b) (e1 : eHead a = eHead b) (e2 : eLen a = eLen b) (e3 : ∀ j, j < 8 → eRow a j = eRow b j) : a = b := by
  have v : sV a = sV b := dig_inj (by decide) _ _ (by rw [ha.lV, hb.lV]) ha.bV hb.bV (by rw [← eH_vals ha, ← eH_vals hb, e1])
  have h1 : eH1 a = eH1 b := by rw [← eH_d1 ha, ← eH_d1 hb, e1]
  have h2 : eH2 a = eH2 b := by rw [← eH_d2 ha, ← eH_d2 hb, e1]
  have s : sS a = sS b := dig_inj (by decide) _ _ (by rw [ha.lS, hb.lS]) ha.b32 hb.b32 (by unfold eH1 at h1; omega)
  have d : sD a = sD b := by rw [← eH_dbl ha, ← eH_dbl hb, e1]
  have cc : sC a = sC b := dig_inj (by decide) _ _ (by rw [ha.lC, hb.lC]) ha.bC hb.bC (by unfold eH2 at h2; omega)
  have r : sR a = sR b := dig_len_inj ha.lR hb.lR (fun r hr => by have := lens_lt ha _ (List.mem_map_of_mem hr); exact this) (fun r hr => by have := lens_lt hb _ (List.mem_map_of_mem hr); exact this) ha.bR hb.bR e2 e3
  obtain ⟨a1, a2, a3, a4, a5⟩ := a
  obtain ⟨b1, b2, b3, b4, b5⟩ := b
  dsimp only [sV, sS, sC, sD, sR] at v s d cc r
  rw [v, s, d, cc, r]
theorem lN_inj {a b : Nat} (ha : a < 2 ^ 64) (hb : b < 2 ^ 64) (h : lN a = lN b) : a = b := by
  rw [← wb_tn ha, ← wb_tn hb, h]
/-- the STATES in the arrays -/
def fRows (c : Cf) (L : List AE) (heads lens rows : Nat → Int64) : Prop := ∀ i, i < L.length → sOK c (stt L i) ∧ heads i = lN (eHead (stt L i)) ∧ lens i = lN (eLen (stt L i)) ∧ ∀ j, j < 8 → rows (i * 8 + j) = lN (eRow (stt L i) j)
/-- where the search of a STATE begins -/
def cH (a : AS) : Nat := (cHash (lN (eHead a)) (lN (eLen a)) (fun j => lN (eRow a j))).toBitVec.toNat
def fSlots (L : List AE) (slots : Nat → Int32) : Prop := ∃ pos : Nat → Nat, (∀ i, i < L.length → pos i < 1024 ∧ slots (pos i) = nI (i + 1)) ∧ (∀ p, p < 1024 → slots p = 0 ∨ ∃ i, i < L.length ∧ p = pos i) ∧ ∀ i, i < L.length → ∃ t, pos i = (cH (stt L i) + t) % 1024 ∧ ∀ t', t' < t → slots ((cH (stt L i) + t') % 1024) ≠ 0
def fRep (c : Cf) (L : List AE) (count : Int32) (heads lens rows : Nat → Int64) (slots : Nat → Int32) : Prop := count = nI L.length ∧ L.length ≤ 600 ∧ fRows c L heads lens rows ∧ fSlots L slots
theorem pigeon : ∀ (n : Nat) (f : Nat → Nat), (∀ p, p < n + 1 → ∃ i, i < n ∧ f i = p) → False
  | 0, f, h => by obtain ⟨i, hi, -⟩ := h 0 (by decide); omega
  | n + 1, f, h => by
    obtain ⟨i0, hi0, e0⟩ := h (n + 1) (by omega)
    refine pigeon n (fun i => if i = i0 then f n else f i) (fun p hp => ?_)
    obtain ⟨i, hi, e⟩ := h p (by omega)
    have hne : i ≠ i0 := fun z => by subst z; omega
    by_cases hn : i = n
    · subst hn
      exact ⟨i0, by omega, by simp [e]⟩
    · exact ⟨i, by omega, by simp [hne, e]⟩
section ST
variable {c : Cf} {L : List AE} {count : Int32} {heads lens rows : Nat → Int64} {slots : Nat → Int32} {b : AS} {hd ln : Int64} {rw : Nat → Int64}
theorem mul8 (i : Nat) : nI i * 8 = nI (i * 8) := pk_mul i 8
theorem w_isLike (hR : fRows c L heads lens rows) (hlen : L.length ≤ 600) (hb : sOK c b) (hr : cRep b hd ln rw) {i : Nat} (hi : i < L.length) {post : Int32 → Prop} (h1 : stt L i = b → post 1) (h0 : stt L i ≠ b → post 0) : wp_X5_isLike heads lens rows hd ln rw (nI i) post := by
  obtain ⟨ha, e1, e2, e3⟩ := hR i hi
  show wp_X5_isLike_0 heads lens rows hd ln rw post (nI i)
  unfold wp_X5_isLike_0
  have hin : vp_in (nI i) 600 := vp_in_nI (by omega) (by decide)
  refine ⟨hin, ?_⟩
  rw [nI_clamp (by omega), e1, e2, hr.1, hr.2.1]
  refine ⟨fun q => ?_, fun q => ⟨hin, fun q2 => ?_, fun q2 => ?_⟩⟩
  · exact h0 (fun z => q ((lg_eq _ _).mpr (by rw [z])))
  · have f1 : eHead (stt L i) = eHead b := lN_inj (eH_64 ha) (eH_64 hb) ((lg_eq _ _).mp q)
    have f2 : eLen (stt L i) = eLen b := lN_inj (eL_64 ha) (eL_64 hb) ((lg_eq _ _).mp q2)
    unfold wp_X5_isLike_32
    refine ⟨fun k x3 => ∃ j, j ≤ 8 ∧ k = 8 - j ∧ x3 = nI j ∧ ∀ j', j' < j → eRow (stt L i) j' = eRow b j', 8, ⟨0, by omega, rfl, rfl, fun j' h => absurd h (Nat.not_lt_zero _)⟩, ?_⟩
    rintro k x3 ⟨j, hj, rfl, rfl, hI⟩
    unfold bd_X5_isLike_32
    refine pk_le 8 j (fun h => ?_) (fun h => ?_) rfl rfl (by decide) (by omega)
    · exact h1 (enc_inj ha hb f1 f2 (fun j' hj' => hI j' (by omega)))
    · rw [mul8, nI_add]
      refine ⟨vp_in_nI (by omega) (by decide), vp_in_nI h (by decide), ?_⟩
      rw [nI_clamp (by omega), nI_clamp (by omega), e3 j h, hr.2.2 j h]
      refine ⟨fun q3 => ?_, fun q3 => ?_⟩
      · refine ⟨8 - (j + 1), by omega, j + 1, by omega, rfl, nI_inc j, fun j' hj' => ?_⟩
        by_cases e : j' = j
        · subst e; exact lN_inj (eR_lt ha _) (eR_lt hb _) ((lg_eq _ _).mp q3)
        · exact hI j' (by omega)
      · exact h0 (fun z => q3 ((lg_eq _ _).mpr (by rw [z])))
  · exact h0 (fun z => q2 ((lg_eq _ _).mpr (by rw [z])))
theorem cH_eq (hr : cRep b hd ln rw) : (cHash hd ln rw).toBitVec.toNat = cH b := by
  unfold cH
  rw [hr.1, hr.2.1, cHash_congr (rw' := fun j => lN (eRow b j)) hr.2.2]
theorem slot_eq {x : Int32} {S t : Nat} (hx : x.toBitVec.toNat = S) : (x + nI t) &&& 1023 = nI ((S + t) % 1024) := by
  rw [pk_and _ 10 (by decide)]
  congr 1
  have : (x + nI t).toBitVec.toNat = (S + t % 2 ^ 32) % 2 ^ 32 := by
    rw [Int32.toBitVec_add, BitVec.toNat_add, hx]
    show (S + (BitVec.ofNat 32 t).toNat) % 2 ^ 32 = _
    rw [BitVec.toNat_ofNat]
  rw [this]
  omega
theorem w_freeSlot (hR : fRep c L count heads lens rows slots) (hb : sOK c b) (hr : cRep b hd ln rw) {post : Int32 → Prop} (h1 : b ∈ L.map (fun e => e.1) → post (-1))
    (h0 : b ∉ L.map (fun e => e.1) → ∀ t, slots ((cH b + t) % 1024) = 0 → (∀ t', t' < t → slots ((cH b + t') % 1024) ≠ 0) → post (nI ((cH b + t) % 1024))) : wp_X5_freeSlot heads lens rows slots hd ln rw post := by
  obtain ⟨-, hlen, hrows, pos, p1, p2, p3⟩ := hR
  show wp_X5_freeSlot_0 heads lens rows slots hd ln rw post
  unfold wp_X5_freeSlot_0
  refine w_hash ?_
  unfold wp_X5_freeSlot_7
  refine ⟨fun k x3 => ∃ t, t ≤ 1024 ∧ k = 1024 - t ∧ x3 = nI t ∧ ∀ t', t' < t → ∃ i, i < L.length ∧ (cH b + t') % 1024 = pos i ∧ stt L i ≠ b, 1024, ⟨0, by omega, rfl, rfl, fun t' h => absurd h (Nat.not_lt_zero _)⟩, ?_⟩
  rintro k x3 ⟨t, ht, rfl, rfl, hI⟩
  unfold bd_X5_freeSlot_7
  have nz : ∀ i, i < L.length → slots (pos i) ≠ 0 := fun i hi => by
    rw [(p1 i hi).2]; exact nI_ne0 (by omega) (by omega)
  refine pk_le 1024 t (fun h => ?_) (fun h => ?_) rfl rfl (by decide) (by omega)
  · exfalso
    refine pigeon 1023 pos (fun p hp => ?_)
    obtain ⟨i, hi, e, -⟩ := hI ((p + 1024 * (cH b / 1024 + 1) - cH b) % 1024) (Nat.lt_of_lt_of_le (Nat.mod_lt _ (by decide)) h)
    refine ⟨i, by omega, ?_⟩
    rw [← e]
    omega
  · rw [slot_eq (cH_eq hr)]
    have hq : (cH b + t) % 1024 < 1024 := Nat.mod_lt _ (by decide)
    have hin : vp_in (nI ((cH b + t) % 1024)) 1024 := vp_in_nI hq (by decide)
    refine ⟨hin, ?_⟩
    rw [nI_clamp (by omega)]
    have notin : slots ((cH b + t) % 1024) = 0 → b ∉ L.map (fun e => e.1) := by
      intro z hm
      obtain ⟨i, hi, e⟩ := stt_mem.mp hm
      obtain ⟨ti, f1, f2⟩ := p3 i hi
      rw [e] at f1 f2
      rcases Nat.lt_trichotomy ti t with g | g | g
      · obtain ⟨i', hi', e', ne'⟩ := hI ti g
        rw [← f1] at e'
        have : nI (i + 1) = nI (i' + 1) := by rw [← (p1 i hi).2, ← (p1 i' hi').2, e']
        have := (nI_eq (by omega) (by omega)).mp this
        have : i = i' := by omega
        subst this
        exact ne' e
      · subst g
        rw [← f1] at z
        exact nz i hi z
      · exact f2 t g z
    refine ⟨fun z => ⟨hin, ?_⟩, fun z => ?_⟩
    · rcases p2 _ hq with z2 | ⟨i, hi, e⟩
      · exact absurd z2 z
      · rw [e, (p1 i hi).2, nI_s1 (by omega)]
        have e9 : i + 1 - 1 = i := by omega
        rw [e9]
        refine w_isLike hrows hlen hb hr hi (fun e2 => ?_) (fun e2 => ?_)
        · exact sw_no (by decide) (h1 (stt_mem.mpr ⟨i, hi, e2⟩))
        · refine sw_yes rfl ⟨1024 - (t + 1), by omega, t + 1, by omega, rfl, nI_inc t, fun t' ht' => ?_⟩
          by_cases e3 : t' = t
          · subst e3; exact ⟨i, hi, e, e2⟩
          · exact hI t' (by omega)
    · refine h0 (notin z) t z (fun t' ht' => ?_)
      obtain ⟨i, hi, e, -⟩ := hI t' ht'
      rw [e]; exact nz i hi
theorem w_add (hR : fRep c L count heads lens rows slots) (hb : sOK c b) (hr : cRep b hd ln rw) (hn : L.length < 600) {t : Nat} (hz : slots ((cH b + t) % 1024) = 0) (hz2 : ∀ t', t' < t → slots ((cH b + t') % 1024) ≠ 0) {x : AE} (hx : x.1 = b)
    {post : Int32 → (Nat → Int64) → (Nat → Int64) → (Nat → Int64) → (Nat → Int32) → Prop} (hp : ∀ count' heads' lens' rows' slots', fRep c (L ++ [x]) count' heads' lens' rows' slots' → post count' heads' lens' rows' slots') : wp_X5_add count heads lens rows slots hd ln rw (nI ((cH b + t) % 1024)) post := by
  obtain ⟨e0, hlen, hrows, pos, p1, p2, p3⟩ := hR
  show wp_X5_add_0 hd ln rw post (nI ((cH b + t) % 1024)) count heads lens rows slots
  unfold wp_X5_add_0
  have hq : (cH b + t) % 1024 < 1024 := Nat.mod_lt _ (by decide)
  rw [e0, mul8]
  have hin : vp_in (nI L.length) 600 := vp_in_nI hn (by decide)
  refine ⟨fun _ => ⟨hin, hin, by decide, nI_pos (by omega), by decide, by decide, ?_, vp_in_nI hq (by decide), ?_⟩, fun q => absurd (nI_lt hn (by decide)) q⟩
  · rw [nI_clamp (by omega), show (8 : Int32).toNatClampNeg = 8 from rfl]; omega
  · rw [nI_clamp (by omega), nI_clamp (by omega), nI_clamp (by omega), nI_inc, show (0 : Int32).toNatClampNeg = 0 from rfl, show (8 : Int32).toNatClampNeg = 8 from rfl]
    have hfresh : ∀ i, i < L.length → pos i ≠ (cH b + t) % 1024 := fun i hi z => by
      have := (p1 i hi).2
      rw [z, hz] at this
      exact nI_ne0 (n := i + 1) (by omega) (by omega) this.symm
    refine hp _ _ _ _ _ ⟨by rw [List.length_append]; rfl, by rw [List.length_append]; exact hn, fun i hi => ?_, fun i => if i = L.length then (cH b + t) % 1024 else pos i, fun i hi => ?_, fun p hp => ?_, fun i hi => ?_⟩
    · rw [List.length_append, List.length_singleton] at hi
      by_cases e : i = L.length
      · subst e
        rw [stt_new, hx]
        refine ⟨hb, by rw [pk_uLs]; exact hr.1, by rw [pk_uLs]; exact hr.2.1, fun j hj => ?_⟩
        rw [pk_cpy_in (by omega) (by omega), show 0 + (L.length * 8 + j - L.length * 8) = j by omega]
        exact hr.2.2 j hj
      · obtain ⟨g1, g2, g3, g4⟩ := hrows i (by omega)
        rw [stt_app (by omega)]
        refine ⟨g1, by rw [pk_uLn e]; exact g2, by rw [pk_uLn e]; exact g3, fun j hj => ?_⟩
        rw [pk_cpy_out (by omega)]
        exact g4 j hj
    · rw [List.length_append, List.length_singleton] at hi
      by_cases e : i = L.length
      · subst e
        dsimp only
        rw [if_pos rfl, pk_us]
        exact ⟨hq, rfl⟩
      · dsimp only
        rw [if_neg e, pk_un (hfresh i (by omega))]
        exact p1 i (by omega)
    · by_cases e : p = (cH b + t) % 1024
      · exact Or.inr ⟨L.length, by rw [List.length_append, List.length_singleton]; omega, by dsimp only; rw [if_pos rfl]; exact e⟩
      · rw [pk_un e]
        rcases p2 p hp with z | ⟨i, hi, z⟩
        · exact Or.inl z
        · exact Or.inr ⟨i, by rw [List.length_append, List.length_singleton]; omega, by dsimp only; rw [if_neg (by omega)]; exact z⟩
    · have keep : ∀ p, slots p ≠ 0 → upd slots ((cH b + t) % 1024) (nI (L.length + 1)) p ≠ 0 := by
        intro p hp
        rw [pk_un (fun z => by rw [z] at hp; exact hp hz)]
        exact hp
      rw [List.length_append, List.length_singleton] at hi
      by_cases e : i = L.length
      · subst e
        dsimp only
        rw [stt_new, hx, if_pos rfl]
        exact ⟨t, rfl, fun t' ht' => keep _ (hz2 t' ht')⟩
      · obtain ⟨ti, f1, f2⟩ := p3 i (by omega)
        dsimp only
        rw [stt_app (by omega), if_neg e]
        exact ⟨ti, f1, fun t' ht' => keep _ (f2 t' ht')⟩
theorem w_load (hR : fRows c L heads lens rows) (hlen : L.length ≤ 600) {i : Nat} (hi : i < L.length) {post : Int64 → Int64 → (Nat → Int64) → Prop} (hp : ∀ hd' ln' rw', cRep (stt L i) hd' ln' rw' → post hd' ln' rw') : wp_X5_load heads lens rows hd ln rw (nI i) post := by
  obtain ⟨-, e1, e2, e3⟩ := hR i hi
  show wp_X5_load_0 heads lens rows post (nI i) hd ln rw
  unfold wp_X5_load_0
  have hin : vp_in (nI i) 600 := vp_in_nI (by omega) (by decide)
  rw [mul8]
  refine ⟨hin, hin, nI_pos (by omega), by decide, by decide, ?_, by decide, ?_⟩
  · rw [nI_clamp (by omega), show (8 : Int32).toNatClampNeg = 8 from rfl]; omega
  · rw [nI_clamp (by omega), nI_clamp (by omega), show (0 : Int32).toNatClampNeg = 0 from rfl, show (8 : Int32).toNatClampNeg = 8 from rfl]
    refine hp _ _ _ ⟨e1, e2, fun j hj => ?_⟩
    rw [pk_cpy_in (by omega) (by omega), Nat.sub_zero]
    exact e3 j hj
theorem w_copy {a : AS} {ohd oln : Int64} {orw : Nat → Int64} (hr : cRep a ohd oln orw) {post : Int64 → Int64 → (Nat → Int64) → Prop} (hp : ∀ hd' ln' rw', cRep a hd' ln' rw' → post hd' ln' rw') : wp_X4_copy hd ln rw ohd oln orw post := by
  show wp_X4_copy_0 ohd oln orw post hd ln rw
  unfold wp_X4_copy_0
  refine ⟨by decide, by decide, by decide, by decide, by decide, hp _ _ _ ⟨hr.1, hr.2.1, fun j hj => ?_⟩⟩
  rw [show (0 : Int32).toNatClampNeg = 0 from rfl, show (8 : Int32).toNatClampNeg = 8 from rfl, pk_cpy_in (by omega) (by omega), Nat.sub_zero, Nat.zero_add]
  exact hr.2.2 j hj
end ST
