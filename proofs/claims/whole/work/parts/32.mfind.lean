/-! the reference's table of STATES -/
def mHi (v : Nat → Int32) : Nat → Int32
  | 0 => 17
  | k + 1 => (31 * mHi v k) + v k
theorem mHi_congr {v w : Nat → Int32} : ∀ {n : Nat}, (∀ k, k < n → v k = w k) → mHi v n = mHi w n
  | 0, _ => rfl
  | n + 1, h => by
    unfold mHi
    rw [mHi_congr (n := n) (fun k hk => h k (by omega)), h n (by omega)]
def mHx (v : Nat → Int32) : Int32 := mHi v 148 ^^^ (((mHi v 148).toUInt32 >>> ((15 : Int32).toUInt32 &&& Int32.toUInt32 31)).toInt32)
def mH (a : AS) : Nat := (mHx (fun k => nI (mE a k))).toBitVec.toNat % 2048
theorem mH_lt (a : AS) : mH a < 2048 := Nat.mod_lt _ (by decide)
theorem m_hash {a : AS} {at_ : Nat → Int32} (hr : mRep a at_) {post : Int32 → Prop} (hp : post (nI (mH a))) : wp_X8_hash at_ post := by
  show wp_X8_hash_0 at_ post
  unfold wp_X8_hash_0 wp_X8_hash_5
  refine ⟨fun n x1 x2 => ∃ k, k ≤ 148 ∧ n = 148 - k ∧ x2 = nI k ∧ x1 = mHi at_ k, 148, ⟨0, by omega, rfl, rfl, rfl⟩, ?_⟩
  rintro n x1 x2 ⟨k, hk, rfl, rfl, rfl⟩
  unfold bd_X8_hash_5
  refine pk_le 148 k (fun h => ?_) (fun h => ?_) rfl rfl (by decide) (by omega)
  · have e : k = 148 := by omega
    subst e
    rw [mHi_congr (w := fun k => nI (mE a k)) hr, pk_and _ 11 (by decide)]
    exact hp
  · refine ⟨vp_in_nI h (by decide), ?_⟩
    rintro y rfl
    rw [nI_clamp (by omega)]
    exact ⟨148 - (k + 1), by omega, k + 1, by omega, rfl, nI_inc k, rfl⟩
theorem mE_inj {c : Cf} {a b : AS} (ha : sOK c a) (hb : sOK c b) (e : ∀ k, k < 148 → mE a k = mE b k) : a = b := by
  have lst : ∀ (l m : List Nat), l.length = m.length → (∀ j, j < l.length → l.getD j 0 = m.getD j 0) → l = m := by
    intro l m hl h
    apply List.ext_getElem hl
    intro j h1 h2
    have := h j h1
    rwa [List.getD_eq_getElem?_getD, List.getElem?_eq_getElem h1, List.getD_eq_getElem?_getD, List.getElem?_eq_getElem h2] at this
  have v : sV a = sV b := lst _ _ (by rw [ha.lV, hb.lV]) (fun j hj => by rw [ha.lV] at hj; have := e j (by omega); rwa [mE_v hj, mE_v hj] at this)
  have s : sS a = sS b := lst _ _ (by rw [ha.lS, hb.lS]) (fun j hj => by rw [ha.lS] at hj; have := e (5 + j) (by omega); rwa [mE_s hj, mE_s hj] at this)
  have cc : sC a = sC b := dig_inj (by decide) _ _ (by rw [ha.lC, hb.lC]) ha.bC hb.bC (by have := e 10 (by omega); rwa [mE_c, mE_c] at this)
  have d : sD a = sD b := by have := e 11 (by omega); rwa [mE_d, mE_d] at this
  have r : sR a = sR b := by
    apply List.ext_getElem (by rw [ha.lR, hb.lR])
    intro i h1 h2
    have hi : i < 8 := by rw [ha.lR] at h1; exact h1
    have g1 : (sR a).getD i [] = (sR a)[i] := by rw [List.getD_eq_getElem?_getD, List.getElem?_eq_getElem h1]; rfl
    have g2 : (sR b).getD i [] = (sR b)[i] := by rw [List.getD_eq_getElem?_getD, List.getElem?_eq_getElem h2]; rfl
    rw [← g1, ← g2]
    have hn := e (12 + 17 * i) (by omega)
    rw [mE_n, mE_n] at hn
    have h16 := ha.len16 i
    refine lst _ _ hn (fun j hj => ?_)
    have := e (12 + 17 * i + 1 + j) (by omega)
    rwa [mE_r i (by omega), mE_r i (by omega)] at this
  obtain ⟨a1, a2, a3, a4, a5⟩ := a
  obtain ⟨b1, b2, b3, b4, b5⟩ := b
  dsimp only [sV, sS, sC, sD, sR] at v s d cc r
  rw [v, s, d, cc, r]
def pRows (c : Cf) (L : List AE) (found : Nat → Int32) : Prop := ∀ i, i < L.length → sOK c (stt L i) ∧ ∀ k, k < 148 → found (148 * i + k) = nI (mE (stt L i) k)
def pSlots (L : List AE) (places : Nat → Int32) : Prop := ∃ pos : Nat → Nat, (∀ i, i < L.length → pos i < 2048 ∧ places (pos i) = nI (i + 1)) ∧ (∀ p, p < 2048 → places p = 0 ∨ ∃ i, i < L.length ∧ p = pos i) ∧ ∀ i, i < L.length → ∃ t, pos i = (mH (stt L i) + t) % 2048 ∧ ∀ t', t' < t → places ((mH (stt L i) + t') % 2048) ≠ 0
def pRep (c : Cf) (L : List AE) (found : Nat → Int32) (states : Int32) (places : Nat → Int32) : Prop := states = nI L.length ∧ L.length ≤ 600 ∧ pRows c L found ∧ pSlots L places
section PF
variable {c : Cf} {L : List AE} {found places at_ : Nat → Int32} {states : Int32} {b : AS}
theorem m148 (i : Nat) : (148 : Int32) * nI i = nI (148 * i) := pk_mul 148 i
theorem m_load (hR : pRows c L found) (hlen : L.length ≤ 600) {i : Nat} (hi : i < L.length) {post : (Nat → Int32) → Prop} (hp : ∀ at', mRep (stt L i) at' → post at') : wp_X8_load found at_ (nI i) post := by
  obtain ⟨ha, e⟩ := hR i hi
  show wp_X8_load_0 found post (nI i) at_
  unfold wp_X8_load_0 wp_X8_load_2
  refine ⟨fun n x2 at' => ∃ k, k ≤ 148 ∧ n = 148 - k ∧ x2 = nI k ∧ ∀ j, j < k → at' j = nI (mE (stt L i) j), 148, ⟨0, by omega, rfl, rfl, fun j h => absurd h (Nat.not_lt_zero _)⟩, ?_⟩
  rintro n x2 at' ⟨k, hk, rfl, rfl, hI⟩
  unfold bd_X8_load_2
  refine pk_le 148 k (fun h => ?_) (fun h => ?_) rfl rfl (by decide) (by omega)
  · exact hp _ (fun j hj => hI j (by omega))
  · rw [m148, nI_add]
    refine ⟨vp_in_nI (by omega) (by decide), vp_in_nI h (by decide), 148 - (k + 1), by omega, k + 1, by omega, rfl, nI_inc k, fun j hj => ?_⟩
    rw [nI_clamp (by omega), nI_clamp (by omega), e k h, nar (Nat.lt_trans (mE_lt ha _) (by decide))]
    by_cases e2 : j = k
    · subst e2; rw [pk_us]
    · rw [pk_un e2]; exact hI j (by omega)
theorem m_isSame (hR : pRows c L found) (hlen : L.length ≤ 600) (hb : sOK c b) (hr : mRep b at_) {i : Nat} (hi : i < L.length) {post : Int32 → Prop} (h1 : stt L i = b → post 1) (h0 : stt L i ≠ b → post 0) : wp_X8_isSame found at_ (nI i) post := by
  obtain ⟨ha, e⟩ := hR i hi
  show wp_X8_isSame_0 found at_ post (nI i)
  unfold wp_X8_isSame_0 wp_X8_isSame_2
  refine ⟨fun n x2 => ∃ k, k ≤ 148 ∧ n = 148 - k ∧ x2 = nI k ∧ ∀ j, j < k → mE (stt L i) j = mE b j, 148, ⟨0, by omega, rfl, rfl, fun j h => absurd h (Nat.not_lt_zero _)⟩, ?_⟩
  rintro n x2 ⟨k, hk, rfl, rfl, hI⟩
  unfold bd_X8_isSame_2 wp_X8_isSame_36
  refine pk_le 148 k (fun h => ?_) (fun h => ?_) rfl rfl (by decide) (by omega)
  · have e9 : k = 148 := by omega
    subst e9
    exact ns_yes rfl (h1 (mE_inj ha hb hI))
  · rw [m148, nI_add]
    refine ⟨vp_in_nI (by omega) (by decide), vp_in_nI h (by decide), ?_⟩
    rw [nI_clamp (by omega), nI_clamp (by omega), e k h, hr k h]
    have l1 := mE_lt ha k
    have l2 := mE_lt hb k
    by_cases q : mE (stt L i) k = mE b k
    · refine ns_yes (by rw [q]) ⟨148 - (k + 1), by omega, k + 1, by omega, rfl, nI_inc k, fun j hj => ?_⟩
      by_cases e2 : j = k
      · subst e2; exact q
      · exact hI j (by omega)
    · refine ns_no (fun z => q ((nI_eq (by omega) (by omega)).mp z)) ?_
      exact ns_no (fun z => by have := (nI_eq (a := k) (b := 148) (by omega) (by decide)).mp z; omega) (h0 (fun z => q (by rw [z])))
theorem m_find (hR : pRep c L found states places) (hb : sOK c b) (hr : mRep b at_) {n : Nat} (hn : L.length ≤ n) (hn6 : n ≤ 600) {post : Int32 → (Nat → Int32) → Int32 → (Nat → Int32) → Prop} (h1 : b ∈ L.map (fun e => e.1) → post 0 found states places)
    (h2 : b ∉ L.map (fun e => e.1) → L.length = n → post (-1) found states places) (h3 : b ∉ L.map (fun e => e.1) → L.length ≠ n → ∀ x : AE, x.1 = b → ∀ found' states' places', pRep c (L ++ [x]) found' states' places' → post 1 found' states' places') : wp_X8_find found states places at_ (nI n) post := by
  obtain ⟨e0, hlen, hrows, pos, p1, p2, p3⟩ := hR
  show wp_X8_find_0 at_ post (nI n) found states places
  unfold wp_X8_find_0
  refine m_hash hr ?_
  have hH := mH_lt b
  have nz : ∀ i, i < L.length → places (pos i) ≠ 0 := fun i hi => by
    rw [(p1 i hi).2]; exact nI_ne0 (by omega) (by omega)
  unfold wp_X8_find_8
  refine ⟨fun k x2 => ∃ t, t ≤ 2048 ∧ k = 2048 - t ∧ x2 = nI ((mH b + t) % 2048) ∧ ∀ t', t' < t → ∃ i, i < L.length ∧ (mH b + t') % 2048 = pos i ∧ stt L i ≠ b, 2048, ⟨0, by omega, rfl, by rw [Nat.add_zero, Nat.mod_eq_of_lt hH], fun t' h => absurd h (Nat.not_lt_zero _)⟩, ?_⟩
  rintro k x2 ⟨t, ht, rfl, rfl, hI⟩
  unfold bd_X8_find_8
  have htl : t < 2048 := by
    rcases Nat.lt_or_ge t 2048 with q | q
    · exact q
    · exfalso
      refine pigeon 2047 pos (fun p hp => ?_)
      obtain ⟨i, hi, e, -⟩ := hI ((p + 2048 - mH b) % 2048) (Nat.lt_of_lt_of_le (Nat.mod_lt _ (by decide)) q)
      refine ⟨i, by omega, ?_⟩
      rw [← e]; omega
  have hq : (mH b + t) % 2048 < 2048 := Nat.mod_lt _ (by decide)
  have hin : vp_in (nI ((mH b + t) % 2048)) 2048 := vp_in_nI hq (by decide)
  refine ⟨hin, ?_⟩
  rw [nI_clamp (by omega)]
  rcases p2 _ hq with z | ⟨i, hi, e⟩
  · rw [z]
    refine ⟨fun _ => ?_, fun q => absurd (by decide) q⟩
    have notin : b ∉ L.map (fun e => e.1) := by
      intro hm
      obtain ⟨i, hi, e⟩ := stt_mem.mp hm
      obtain ⟨ti, f1, f2⟩ := p3 i hi
      rw [e] at f1 f2
      rcases Nat.lt_trichotomy ti t with g | g | g
      · obtain ⟨i', hi', e', ne'⟩ := hI ti g
        rw [← f1] at e'
        have : nI (i + 1) = nI (i' + 1) := by rw [← (p1 i hi).2, ← (p1 i' hi').2, e']
        have := (nI_eq (by omega) (by omega)).mp this
        have : i = i' := by omega
        subst this
        exact ne' e
      · subst g
        rw [← f1] at z
        exact nz i hi z
      · exact f2 t g z
    rw [e0]
    by_cases e9 : L.length = n
    · exact ns_yes (by rw [e9]) (by rw [← e0]; exact h2 notin e9)
    · refine ns_no (fun y => e9 ((nI_eq (by omega) (by omega)).mp y)) ?_
      have hfresh : ∀ i, i < L.length → pos i ≠ (mH b + t) % 2048 := fun i hi y => by
        have := (p1 i hi).2
        rw [y, z] at this
        exact nI_ne0 (n := i + 1) (by omega) (by omega) this.symm
      unfold wp_X8_find_57
      refine ⟨fun n x3 found' => ∃ k, k ≤ 148 ∧ n = 148 - k ∧ x3 = nI k ∧ (∀ j, j < k → found' (148 * L.length + j) = nI (mE b j)) ∧ ∀ j, j < 148 * L.length → found' j = found j, 148, ⟨0, by omega, rfl, rfl, fun j h => absurd h (Nat.not_lt_zero _), fun j _ => rfl⟩, ?_⟩
      rintro n' x3 found' ⟨k, hk, rfl, rfl, hJ, hJ2⟩
      unfold bd_X8_find_57
      refine pk_le 148 k (fun h => ?_) (fun h => ?_) rfl rfl (by decide) (by omega)
      · refine ⟨hin, ?_⟩
        rw [nI_clamp (by omega), nI_inc]
        refine h3 notin e9 (b, 0, 0, 0, 0) rfl _ _ _ ?_
        refine ⟨by rw [List.length_append]; rfl, by rw [List.length_append, List.length_singleton]; omega, fun i hi => ?_, fun i => if i = L.length then (mH b + t) % 2048 else pos i, fun i hi => ?_, fun p hp => ?_, fun i hi => ?_⟩
        · rw [List.length_append, List.length_singleton] at hi
          by_cases e : i = L.length
          · subst e
            rw [stt_new]
            exact ⟨hb, fun j hj => hJ j (by omega)⟩
          · obtain ⟨g1, g2⟩ := hrows i (by omega)
            rw [stt_app (by omega)]
            exact ⟨g1, fun j hj => by rw [hJ2 _ (by omega)]; exact g2 j hj⟩
        · rw [List.length_append, List.length_singleton] at hi
          dsimp only
          by_cases e : i = L.length
          · subst e
            rw [if_pos rfl, pk_us]
            exact ⟨hq, rfl⟩
          · rw [if_neg e, pk_un (hfresh i (by omega))]
            exact p1 i (by omega)
        · by_cases e : p = (mH b + t) % 2048
          · exact Or.inr ⟨L.length, by rw [List.length_append, List.length_singleton]; omega, by dsimp only; rw [if_pos rfl]; exact e⟩
          · rw [pk_un e]
            rcases p2 p hp with y | ⟨i, hi, y⟩
            · exact Or.inl y
            · exact Or.inr ⟨i, by rw [List.length_append, List.length_singleton]; omega, by dsimp only; rw [if_neg (by omega)]; exact y⟩
        · have keep : ∀ p, places p ≠ 0 → upd places ((mH b + t) % 2048) (nI (L.length + 1)) p ≠ 0 := by
            intro p hp
            rw [pk_un (fun y => by rw [y] at hp; exact hp z)]
            exact hp
          rw [List.length_append, List.length_singleton] at hi
          dsimp only
          by_cases e : i = L.length
          · subst e
            rw [stt_new, if_pos rfl]
            refine ⟨t, rfl, fun t' ht' => keep _ ?_⟩
            obtain ⟨i', hi', e', -⟩ := hI t' ht'
            rw [e']; exact nz i' hi'
          · obtain ⟨ti, f1, f2⟩ := p3 i (by omega)
            rw [stt_app (by omega), if_neg e]
            exact ⟨ti, f1, fun t' ht' => keep _ (f2 t' ht')⟩
      · rw [m148, nI_add]
        refine ⟨vp_in_nI h (by decide), vp_in_nI (by omega) (by decide), 148 - (k + 1), by omega, k + 1, by omega, rfl, nI_inc k, fun j hj => ?_, fun j hj => ?_⟩
        · rw [nI_clamp (by omega), nI_clamp (by omega), hr k h, nar (Nat.lt_trans (mE_lt hb _) (by decide))]
          by_cases e2 : j = k
          · subst e2; rw [pk_us]
          · rw [pk_un (by omega)]; exact hJ j (by omega)
        · rw [nI_clamp (by omega), pk_un (by omega)]; exact hJ2 j hj
  · rw [e, (p1 i hi).2]
    refine ⟨fun q => absurd q (nI_nle (by omega) (by omega)), fun _ => ⟨by rw [← e]; exact hin, ?_⟩⟩
    rw [nI_s1 (by omega), show i + 1 - 1 = i by omega, ← e]
    refine m_isSame hrows hlen hb hr hi (fun e2 => ?_) (fun e2 => ?_)
    · exact sw_no (by decide) (h1 (stt_mem.mpr ⟨i, hi, e2⟩))
    · refine sw_yes rfl ?_
      rintro y rfl
      rw [nI_inc, show (2048 : Int32) = nI 2048 from rfl, pk_rem (by omega) (by decide) (by decide)]
      refine ⟨2048 - (t + 1), by omega, t + 1, by omega, rfl, congrArg nI (by omega), fun t' ht' => ?_⟩
      by_cases e3 : t' = t
      · subst e3; exact ⟨i, hi, e, e2⟩
      · exact hI t' (by omega)
end PF
