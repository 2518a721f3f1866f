/-! look() of the reference -/
theorem aDead_take {c : Cf} {L : List AE} {i : Nat} (hi : i < L.length) : aDead c (L.take (i + 1)) = aDead c (L.take i) + (if aPend c (stt L i) = 0 then 1 else 0) := by
  rw [take_en hi, aDead_app, ← stt_en]
theorem aMost_take {c : Cf} {L : List AE} {i : Nat} (hi : i < L.length) : aMost c (L.take (i + 1)) = if aMost c (L.take i) < aPend c (stt L i) then aPend c (stt L i) else aMost c (L.take i) := by
  rw [take_en hi, aMost_app, ← stt_en]
theorem aMost_le {c : Cf} (hc : cOK c) : ∀ L, (∀ i, i < L.length → sOK c (stt L i)) → aMost c L ≤ 132 := by
  refine snoc_ind (fun _ => by simp [aMost]) (fun L x ih h => ?_)
  rw [aMost_app]
  have h1 := ih (fun i hi => by have := h i (by rw [List.length_append]; omega); rwa [stt_app hi] at this)
  have h2 := h L.length (by rw [List.length_append, List.length_singleton]; omega)
  rw [stt_new] at h2
  have h3 := aPend_le hc h2
  split <;> omega
/-- what look() leaves -/
def lRep (c : Cf) (L : List AE) (dead great ends : Int32) (endState endValues : Nat → Int32) : Prop := dead = nI (aDead c L) ∧ great = nI (aMost c L) ∧ ends = nI (aE c L).length
def eRep (L : List AE) (E : List Nat) (endState endValues : Nat → Int32) : Prop := ∀ k, k < E.length → endState k = nI (E.getD k 0) ∧ ∀ v, v < 5 → endValues (5 * k + v) = nI ((sV (stt L (E.getD k 0))).getD v 0)
section ML
variable {c : Cf} {keeps states over ar vt nfi hl ww lv dm gr nd : Int32} {found places at_ par by_ val dbl fr to wt ft fv st told beg es ev : Nat → Int32} {n : Nat}
theorem m_look (hc : cOK c) (hg : gRep c vt ar nfi beg fr to wt ft fv) (hst : rRep c st told) {x : Int32}
    {post : Int32 → (Nat → Int32) → Int32 → (Nat → Int32) → (Nat → Int32) → Int32 → Int32 → Int32 → Int32 → Int32 → Int32 → (Nat → Int32) → (Nat → Int32) → (Nat → Int32) → (Nat → Int32) → (Nat → Int32) → (Nat → Int32) → Int32 → Int32 → Prop}
    (h0 : x < 1 ∨ 600 < x → post (-102) found states places at_ hl ww lv dm gr nd es ev par by_ val dbl keeps over)
    (h1 : ∀ n, 1 ≤ n → n ≤ 600 → x = nI n → ∀ found' states' places' at' es' ev' par' by' val' dbl' over' P0, P0 0 = -1 → (∀ i, i < (aLook c (fun i => !(Nat.testBit 0 i)) n).1.length → sOK c (stt (aLook c (fun i => !(Nat.testBit 0 i)) n).1 i)) → eRep (aLook c (fun i => !(Nat.testBit 0 i)) n).1 (aE c (aLook c (fun i => !(Nat.testBit 0 i)) n).1) es' ev' → kRep 1 (aLook c (fun i => !(Nat.testBit 0 i)) n).1 par' by' val' dbl' P0 by_ val dbl → (aLook c (fun i => !(Nat.testBit 0 i)) n).1.length ≤ 600 →
      post (nI (aLook c (fun i => !(Nat.testBit 0 i)) n).1.length) found' states' places' at' 1 (if (aLook c (fun i => !(Nat.testBit 0 i)) n).2 = true then 0 else 1) vt (nI (aDead c (aLook c (fun i => !(Nat.testBit 0 i)) n).1)) (nI (aMost c (aLook c (fun i => !(Nat.testBit 0 i)) n).1)) (nI (aE c (aLook c (fun i => !(Nat.testBit 0 i)) n).1).length) es' ev' par' by' val' dbl' 1 over') :
    wp_X8_look vt beg ar fr to wt nfi ft fv st told found states places at_ hl ww lv dm gr nd es ev par by_ val dbl keeps over x post := by
  show wp_X8_look_0 vt beg ar fr to wt nfi ft fv st told post x found states places at_ hl ww lv dm gr nd es ev par by_ val dbl keeps over
  unfold wp_X8_look_0
  refine in_i (fun g1 g2 => ns_no (by decide) ⟨by unfold vp_in; decide, ?_⟩) (fun q => ns_yes rfl (h0 q))
  obtain ⟨n, hn6, rfl⟩ := within_n (x := x) (M := 600) (n := 600) (by decide) (fun z => g1 (Int32.lt_trans z (by decide))) g2
  have hn1 : 1 ≤ n := by
    rcases Nat.eq_zero_or_pos n with e | e
    · subst e; exact absurd (by decide) g1
    · exact e
  have h1 := h1 n hn1 hn6 rfl
  rw [show (0 : Int32).toNatClampNeg = 0 from rfl, show (0 : Int32) = nI 0 from rfl]
  refine m_search (lo := 0) hc hg hst (by decide) (Or.inl rfl) hn1 hn6 (fun found' states' places' at' par' by' val' dbl' over' hP hKp => ?_)
  refine ⟨by split <;> decide, ?_⟩
  obtain ⟨f0, f1, f2, f3⟩ := id hP
  have h1 := fun es' ev' => h1 found' states' places' at' es' ev' par' by' val' dbl' over' (upd par 0 (-1)) pk_us (fun i hi => (f2 i hi).1)
  generalize aLook c (fun i => !(Nat.testBit 0 i)) n = R at *
  have ega : ar = nI (cNA c) := hg.2.1
  have egf : nfi = nI (cNF c) := hg.2.2.1
  unfold wp_X8_look_66
  refine ⟨fun k x2 dm gr nd es ev => ∃ s, s ≤ R.1.length ∧ k = R.1.length - s ∧ x2 = nI s ∧ dm = nI (aDead c (R.1.take s)) ∧ gr = nI (aMost c (R.1.take s)) ∧ nd = nI (aE c (R.1.take s)).length ∧ eRep R.1 (aE c (R.1.take s)) es ev, R.1.length, ⟨0, by omega, rfl, rfl, rfl, rfl, rfl, fun k hk => absurd hk (Nat.not_lt_zero _)⟩, ?_⟩
  rintro k x2 dm gr nd es ev ⟨s, hs, rfl, rfl, rfl, rfl, rfl, hE⟩
  unfold bd_X8_look_66
  rw [f0]
  refine pk_le R.1.length s (fun q => ?_) (fun q => ?_) rfl rfl (by omega) (by omega)
  · have e : s = R.1.length := by omega
    subst e
    rw [List.take_length] at hE ⊢
    rw [← f0]
    have := h1 es ev hE hKp f1
    rw [← f0] at this
    exact this
  · rw [← f0]
    have hps := aPend_le hc (f2 s q).1
    have hml : aMost c (R.1.take s) ≤ 132 := aMost_le hc _ (fun i hi => by
      have hi2 : i < R.1.length := by rw [List.length_take] at hi; omega
      have := (f2 i hi2).1
      have e : R.1 = R.1.take s ++ R.1.drop s := (List.take_append_drop s R.1).symm
      rw [e, stt_ext hi] at this
      exact this)
    have hEl := aE_len c (R.1.take s)
    rw [List.length_take, Nat.min_eq_left hs] at hEl
    refine m_openIn hc ega egf f2 f1 q ?_
    have main : ∀ t0 : Int32, t0 = nI (aMost c (R.1.take (s + 1))) → ∀ dm' : Int32, dm' = nI (aDead c (R.1.take (s + 1))) → wp_X8_look_115 vt beg ar fr to wt nfi ft fv st told post (fun x2' m_deadMany' m_greatest' m_ends' m_endState' m_endValues' => ∃ n', n' < R.1.length - s ∧ ∃ s, s ≤ R.1.length ∧ n' = R.1.length - s ∧ x2' = nI s ∧ m_deadMany' = nI (aDead c (R.1.take s)) ∧ m_greatest' = nI (aMost c (R.1.take s)) ∧ m_ends' = nI (aE c (R.1.take s)).length ∧ eRep R.1 (aE c (R.1.take s)) m_endState' m_endValues') (nI s) t0 found' states' places' at' 1 (if R.2 = true then 0 else 1) vt dm' (nI (aMost c (R.1.take s))) (nI (aE c (R.1.take s)).length) es ev par' by' val' dbl' 1 over' := by
      intro t0 ht0 dm' hdm
      unfold wp_X8_look_115
      refine m_isFirstOf hc ega egf f2 f1 q (fun z => ?_) (fun z => ?_)
      · refine sw_no (by decide) ⟨vp_in_nI (by omega) (by decide), ?_⟩
        unfold wp_X8_look_139
        have ha := (f2 s q).1
        refine ⟨fun k x4 ev' => ∃ v, v ≤ 5 ∧ k = 5 - v ∧ x4 = nI v ∧ (∀ k, k < (aE c (R.1.take s)).length → ∀ w, w < 5 → ev' (5 * k + w) = ev (5 * k + w)) ∧ ∀ w, w < v → ev' (5 * (aE c (R.1.take s)).length + w) = nI ((sV (stt R.1 s)).getD w 0), 5, ⟨0, by omega, rfl, rfl, fun _ _ _ _ => rfl, fun w h => absurd h (Nat.not_lt_zero _)⟩, ?_⟩
        rintro k x4 ev' ⟨v, hv, rfl, rfl, hJ1, hJ2⟩
        unfold bd_X8_look_139 wp_X8_look_188
        refine pk_le 5 v (fun q2 => ?_) (fun q2 => ?_) rfl rfl (by decide) (by omega)
        · refine ⟨R.1.length - (s + 1), by omega, s + 1, by omega, rfl, nI_inc s, hdm, ht0, ?_, ?_⟩
          · rw [aE_take q, if_pos z, List.length_append, nI_inc]; rfl
          · rw [aE_take q, if_pos z]
            intro k hk
            rw [List.length_append, List.length_singleton] at hk
            rw [nI_clamp (by omega)]
            by_cases e : k = (aE c (R.1.take s)).length
            · subst e
              have e9 : (aE c (R.1.take s) ++ [s]).getD (aE c (R.1.take s)).length 0 = s := by
                rw [List.getD_eq_getElem?_getD, List.getElem?_append_right (Nat.le_refl _), Nat.sub_self]; rfl
              rw [e9, pk_us]
              exact ⟨rfl, fun w hw => hJ2 w (by omega)⟩
            · have e9 : (aE c (R.1.take s) ++ [s]).getD k 0 = (aE c (R.1.take s)).getD k 0 := by
                rw [List.getD_eq_getElem?_getD, List.getElem?_append_left (by omega), ← List.getD_eq_getElem?_getD]
              rw [e9, pk_un e]
              obtain ⟨g1, g2⟩ := hE k (by omega)
              exact ⟨g1, fun w hw => by rw [hJ1 k (by omega) w hw]; exact g2 w hw⟩
        · rw [m148, nI_add, show (5 : Int32) = nI 5 from rfl, pk_mul, nI_add]
          refine ⟨vp_in_nI (by omega) (by decide), vp_in_nI (by omega) (by decide), 5 - (v + 1), by omega, v + 1, by omega, rfl, nI_inc v, fun k hk w hw => ?_, fun w hw => ?_⟩
          · rw [nI_clamp (by omega), pk_un (by omega)]; exact hJ1 k hk w hw
          · rw [nI_clamp (by omega), nI_clamp (by omega), (f2 s q).2 v (by omega), mE_v q2]
            have := getD_all ha.bV (by decide) v
            by_cases e : w = v
            · subst e; rw [pk_us, nar (by omega)]
            · rw [pk_un (by omega)]; exact hJ2 w (by omega)
      · refine sw_yes rfl ?_
        unfold wp_X8_look_188
        refine ⟨R.1.length - (s + 1), by omega, s + 1, by omega, rfl, nI_inc s, hdm, ht0, ?_, ?_⟩
        · rw [aE_take q, if_neg z, List.append_nil]
        · rw [aE_take q, if_neg z, List.append_nil]; exact hE
    have h94 : ∀ t0 : Int32, t0 = nI (if aPend c (stt R.1 s) = 0 then 1 else 0) → wp_X8_look_94 vt beg ar fr to wt nfi ft fv st told post (fun x2' m_deadMany' m_greatest' m_ends' m_endState' m_endValues' => ∃ n', n' < R.1.length - s ∧ ∃ s, s ≤ R.1.length ∧ n' = R.1.length - s ∧ x2' = nI s ∧ m_deadMany' = nI (aDead c (R.1.take s)) ∧ m_greatest' = nI (aMost c (R.1.take s)) ∧ m_ends' = nI (aE c (R.1.take s)).length ∧ eRep R.1 (aE c (R.1.take s)) m_endState' m_endValues') (nI s) (nI (aPend c (stt R.1 s))) t0 (nI (aDead c (R.1.take s))) found' states' places' at' 1 (if R.2 = true then 0 else 1) vt (nI (aDead c (R.1.take s))) (nI (aMost c (R.1.take s))) (nI (aE c (R.1.take s)).length) es ev par' by' val' dbl' 1 over' := by
      intro t0 ht0
      unfold wp_X8_look_94
      have hd : nI (aDead c (R.1.take s)) + t0 = nI (aDead c (R.1.take (s + 1))) := by rw [ht0, nI_add, aDead_take q]
      refine pk_le (aPend c (stt R.1 s)) (aMost c (R.1.take s)) (fun q2 => ?_) (fun q2 => ?_) rfl rfl (by omega) (by omega)
      · exact main _ (by rw [aMost_take q, if_neg (by omega)]) _ hd
      · exact main _ (by rw [aMost_take q, if_pos (by omega)]) _ hd
    by_cases e : aPend c (stt R.1 s) = 0
    · exact ns_yes (by rw [e]; rfl) (h94 1 (by rw [if_pos e]; rfl))
    · exact ns_no (nI_ne0 (by omega) (by omega)) (h94 0 (by rw [if_neg e]; rfl))
end ML
