/-! the reference's look: one STEP -/
theorem stt_map {L M : List AE} (h : L.map (fun e => e.1) = M.map (fun e => e.1)) (i : Nat) : stt L i = stt M i := by unfold stt; rw [h]
theorem pRep_congr {c : Cf} {L M : List AE} (h : L.map (fun e => e.1) = M.map (fun e => e.1)) {found places : Nat → Int32} {states : Int32} (hp : pRep c L found states places) : pRep c M found states places := by
  have hl : L.length = M.length := by have := congrArg List.length h; rwa [List.length_map, List.length_map] at this
  obtain ⟨e0, e1, e2, pos, p1, p2, p3⟩ := hp
  rw [hl] at e0 e1 p1 p2 p3
  refine ⟨e0, e1, fun i hi => ?_, pos, p1, p2, fun i hi => ?_⟩
  · rw [← stt_map h]; exact e2 i (by omega)
  · rw [← stt_map h]; exact p3 i hi
theorem mE_setC {a : AS} {C' : List Nat} {j : Nat} : mE (sV a, sS a, C', sD a, sR a) j = if j = 10 then dig 2 C' else mE a j := by
  by_cases e : j = 10
  · subst e; rfl
  · rw [if_neg e]
    unfold mE
    by_cases h1 : j < 5
    · rw [if_pos h1, if_pos h1]
    · rw [if_neg h1, if_neg h1]
      by_cases h2 : j < 10
      · rw [if_pos h2, if_pos h2]
      · rw [if_neg h2, if_neg h2, if_neg e, if_neg e]
theorem mE_setD {a : AS} {d j : Nat} : mE (sV a, sS a, sC a, d, sR a) j = if j = 11 then d else mE a j := by
  by_cases e : j = 11
  · subst e; rfl
  · rw [if_neg e]
    unfold mE
    by_cases h1 : j < 5
    · rw [if_pos h1, if_pos h1]
    · rw [if_neg h1, if_neg h1]
      by_cases h2 : j < 10
      · rw [if_pos h2, if_pos h2]
      · rw [if_neg h2, if_neg h2]
        by_cases h3 : j = 10
        · rw [if_pos h3, if_pos h3]
        · rw [if_neg h3, if_neg h3, if_neg e, if_neg e]
/-- by which STEPS: kept in a look, left as they were in shrink() -/
def kRep (keeps : Int32) (L : List AE) (par by_ val dbl P0 Y0 V0 D0 : Nat → Int32) : Prop := (keeps = 1 ∧ par 0 = P0 0 ∧ ∀ i, 0 < i → i < L.length → par i = nI (en L i).2.1 ∧ by_ i = nI (en L i).2.2.1 ∧ val i = nI (en L i).2.2.2.1 ∧ dbl i = nI (en L i).2.2.2.2) ∨ (keeps = 0 ∧ par = P0 ∧ by_ = Y0 ∧ val = V0 ∧ dbl = D0)
def nRep (c : Cf) (B : BS) (keeps : Int32) (found : Nat → Int32) (states : Int32) (places par by_ val dbl : Nat → Int32) (over : Int32) (P0 Y0 V0 D0 : Nat → Int32) : Prop := pRep c B.1 found states places ∧ over = (if B.2 = true then 1 else 0) ∧ kRep keeps B.1 par by_ val dbl P0 Y0 V0 D0
section MP
variable {c : Cf} {B : BS} {keeps states over ar vt ft0 : Int32} {found places at_ par by_ val dbl P0 Y0 V0 D0 fr to wt ft fv st told beg : Nat → Int32} {lo n s : Nat}
theorem m_step (hc : cOK c) (hg : gRep c vt ar ft0 beg fr to wt ft fv) (hst : rRep c st told) (hlo : lo < 65536) (hB : nRep c B keeps found states places par by_ val dbl over P0 Y0 V0 D0) (h2 : B.2 = false) (hn : B.1.length ≤ n) (hn6 : n ≤ 600) (hs : s < B.1.length) {src p d : Nat} (hv : vStep c (stt B.1 s) src p d)
    {post : (Nat → Int32) → Int32 → (Nat → Int32) → (Nat → Int32) → (Nat → Int32) → (Nat → Int32) → (Nat → Int32) → (Nat → Int32) → Int32 → Prop}
    (hp : ∀ found states places at_ par by_ val dbl over, nRep c (aVisit c (fun i => !(lo.testBit i)) n s (stt B.1 s) B (src, p, d)) keeps found states places par by_ val dbl over P0 Y0 V0 D0 → post found states places at_ par by_ val dbl over) : wp_X8_step ar fr to wt ft fv st told found states places at_ par by_ val dbl keeps over (nI s) (nI src) (nI p) (nI d) (nI n) (nI lo) post := by
  obtain ⟨-, ega, egf, -, garcs, gfirsts⟩ := hg
  obtain ⟨hP, hO, hKp⟩ := hB
  obtain ⟨f0, f1, f2, f3⟩ := id hP
  have h8 : cNA c ≤ 8 := hc.1.2.1
  have h4 : cNF c ≤ 4 := hc.1.2.2
  show wp_X8_step_0 ar fr to wt ft fv st told keeps post (nI s) (nI src) (nI p) (nI d) (nI n) (nI lo) found states places at_ par by_ val dbl over
  unfold wp_X8_step_0
  refine m_load f2 f1 hs (fun at1 hr => ?_)
  have ha := (f2 s hs).1
  generalize stt B.1 s = a at ha hr hv hp
  have hd2 : d < 2 := by rcases hv.2 with q | q <;> omega
  have hmsg := aMsg_lt hc ha hv
  have htgt := aTgt_lt hc hv
  have hOK1 := sOK_take hc ha hv
  have hOK2 := sOK_step hc ha (fun i => !(lo.testBit i)) hv
  have hD2 := ha.bD
  have hd0 : ¬ nI d = 0 → d = 1 := fun z => by
    rcases hv.2 with q | q
    · exact absurd (by rw [q]; rfl) z
    · exact q.1
  have fin : ∀ at2 : Nat → Int32, mRep (aTake a src p d) at2 → wp_X8_comes ar fr wt st told at2 (nI (aTgt c src)) (nI (aMsg c a src p)) (nI lo) (fun m_at_16 => wp_X8_find found states places m_at_16 (nI n) (fun r17 m_found_18 m_states_19 m_places_20 => (0 ≤ r17 → (wp_X8_step_146 ar fr to wt ft fv st told keeps post (nI s) (nI src) (nI d) (nI (aMsg c a src p)) r17 0 m_found_18 m_states_19 m_places_20 m_at_16 par by_ val dbl over)) ∧ (¬ 0 ≤ r17 → (wp_X8_step_146 ar fr to wt ft fv st told keeps post (nI s) (nI src) (nI d) (nI (aMsg c a src p)) r17 1 m_found_18 m_states_19 m_places_20 m_at_16 par by_ val dbl over)))) := by
    intro at2 hr2
    refine m_comes hc hOK1 hr2 hst ega (fun i h => (garcs i h).1) (fun i h => (garcs i h).2.2) hlo htgt hmsg (fun at3 hr3 => ?_)
    have eV : aVisit c (fun i => !(lo.testBit i)) n s a B (src, p, d) = aPush n B (aStep c (fun i => !(lo.testBit i)) a src p d, s, src, aMsg c a src p, d) := by
      unfold aVisit; rw [if_neg (by rw [h2]; decide)]
    refine m_find hP hOK2 hr3 hn hn6 (fun hm => ?_) (fun hm hl => ?_) (fun hm hl x hx found' states' places' hP' => ?_)
    · refine ⟨fun _ => ?_, fun z => absurd (by decide) z⟩
      unfold wp_X8_step_146
      refine ⟨by decide, fun _ => ?_, fun z => absurd (by decide) z⟩
      refine hp _ _ _ _ _ _ _ _ _ ?_
      rw [eV]; unfold aPush; rw [if_pos hm]
      exact ⟨hP, by rw [h2]; rfl, hKp⟩
    · refine ⟨fun z => absurd z (by decide), fun _ => ?_⟩
      unfold wp_X8_step_146
      refine ⟨by decide, fun _ => ?_, fun z => absurd (by decide) z⟩
      refine hp _ _ _ _ _ _ _ _ _ ?_
      rw [eV]; unfold aPush; rw [if_neg hm, if_pos hl]
      exact ⟨hP, rfl, hKp⟩
    · refine ⟨fun _ => ?_, fun z => absurd (by decide) z⟩
      unfold wp_X8_step_146
      refine ⟨by decide, fun z => absurd z (by decide), fun _ => ?_⟩
      have hP2 : pRep c (B.1 ++ [(aStep c (fun i => !(lo.testBit i)) a src p d, s, src, aMsg c a src p, d)]) found' states' places' := pRep_congr (by rw [List.map_append, List.map_append]; simp [hx]) hP'
      have eP : aPush n B (aStep c (fun i => !(lo.testBit i)) a src p d, s, src, aMsg c a src p, d) = (B.1 ++ [(aStep c (fun i => !(lo.testBit i)) a src p d, s, src, aMsg c a src p, d)], false) := by unfold aPush; rw [if_neg hm, if_neg hl]
      rcases hKp with ⟨k1, k2, k3⟩ | ⟨k1, k2⟩
      · refine ⟨fun z => absurd z (by rw [k1]; decide), fun _ => ?_⟩
        have es : states' - 1 = nI B.1.length := by rw [hP2.1, List.length_append, List.length_singleton, nI_s1 (by omega)]; rfl
        rw [es]
        have hin : vp_in (nI B.1.length) 600 := vp_in_nI (by omega) (by decide)
        refine ⟨hin, hin, hin, ?_⟩
        have last : ∀ t0 : Int32, t0 = nI d → wp_X8_step_218 ar fr to wt ft fv st told keeps post t0 (nI B.1.length) found' states' places' at3 (upd par (nI B.1.length).toNatClampNeg (nI s)) (upd by_ (nI B.1.length).toNatClampNeg (nI src)) (upd val (nI B.1.length).toNatClampNeg (nI (aMsg c a src p))) dbl 0 := by
          intro t0 ht0
          unfold wp_X8_step_218
          rw [nI_clamp (by omega), ht0]
          refine ⟨hin, hp _ _ _ _ _ _ _ _ _ ?_⟩
          rw [eV, eP]
          refine ⟨hP2, rfl, Or.inl ⟨k1, by rw [pk_un (by omega)]; exact k2, fun i hi0 hi => ?_⟩⟩
          rw [List.length_append, List.length_singleton] at hi
          by_cases e : i = B.1.length
          · subst e
            rw [en_new, pk_us, pk_us, pk_us, pk_us]
            exact ⟨rfl, rfl, rfl, rfl⟩
          · rw [en_app (by omega), pk_un e, pk_un e, pk_un e, pk_un e]
            exact k3 i hi0 (by omega)
        rcases hv.2 with q | q
        · exact sw_yes (by rw [q]; rfl) (last 0 (by rw [q]; rfl))
        · exact sw_no (by rw [q.1]; decide) (last 1 (by rw [q.1]; rfl))
      · refine ⟨fun _ => ?_, fun z => absurd k1 z⟩
        refine hp _ _ _ _ _ _ _ _ _ ?_
        rw [eV, eP]
        exact ⟨hP2, rfl, Or.inr ⟨k1, k2⟩⟩
  have h96 : ∀ at2 : Nat → Int32, (d = 0 → mRep (aTake a src p d) at2) → (d = 1 → mRep a at2) → wp_X8_step_96 ar fr to wt ft fv st told keeps post (nI s) (nI src) (nI d) (nI n) (nI lo) (nI (aTgt c src)) (nI (aMsg c a src p)) found states places at2 par by_ val dbl over := by
    intro at2 g0 g1
    unfold wp_X8_step_96
    have hin : vp_in 11 148 := by unfold vp_in; decide
    refine ⟨hin, ?_⟩
    unfold wp_X8_step_114
    rw [show (11 : Int32).toNatClampNeg = 11 from rfl]
    rcases hv.2 with q | q
    · have r := g0 q
      refine sw_yes (by rw [q]; rfl) ⟨hin, ?_⟩
      have e11 : at2 11 = nI (sD (aTake a src p d)) := r 11 (by decide)
      have b11 := hOK1.bD
      rw [e11, show (0 : Int32) = nI 0 from rfl, pk_sub (by omega), Nat.sub_zero, i2b (by omega), nar (by omega)]
      exact fin _ (mRep_set r rfl (fun j _ _ => rfl))
    · have r := g1 q.1
      refine sw_no (by rw [q.1]; decide) ⟨hin, ?_⟩
      have e11 : at2 11 = nI (sD a) := r 11 (by decide)
      rw [e11, nI_s1 q.2, i2b (by omega), nar (by omega)]
      refine fin _ ?_
      unfold aTake
      rw [if_pos q.1]
      exact mRep_set r (by rw [mE_setD, if_pos rfl]) (fun j _ hne => by rw [mE_setD, if_neg hne])
  rcases hv.1 with q | q
  · refine ⟨fun z => absurd z (nI_nlt (a := src) (b := 100) q.1 (by omega)), fun _ => ?_⟩
    have e1 : (nI src - 100 : Int32) = nI (src - 100) := by rw [show (100 : Int32) = nI 100 from rfl, pk_sub q.1]
    rw [e1]
    have hin4 : vp_in (nI (src - 100)) 4 := vp_in_nI (by omega) (by decide)
    refine ⟨hin4, ?_⟩
    rintro y9 e9
    refine ⟨hin4, ?_⟩
    rintro y11 e11
    rw [nI_clamp (by omega), (gfirsts _ q.2.1).1] at e9
    rw [nI_clamp (by omega), (gfirsts _ q.2.1).2] at e11
    have t9 : y9 = nI (aTgt c src) := by rw [e9]; unfold aTgt; rw [if_pos q.1]
    have t11 : y11 = nI (aMsg c a src p) := by rw [e11]; unfold aMsg; rw [if_pos q.1]
    subst t9; subst t11
    have hin10 : vp_in 10 148 := by unfold vp_in; decide
    refine ⟨hin10, ?_⟩
    have e10 : at1 (10 : Int32).toNatClampNeg = nI (dig 2 (sC a)) := hr 10 (by decide)
    have hC := eC_lt ha
    unfold wp_X8_step_56
    rw [e10, show (10 : Int32).toNatClampNeg = 10 from rfl]
    rcases hv.2 with z | z
    · refine sw_yes (by rw [z]; rfl) ⟨hin10, ?_⟩
      have hset := dig_set 2 (sC a) (src - 100) 1 (by rw [ha.lC]; omega)
      rw [q.2.2.1, Nat.zero_mul, Nat.add_zero, Nat.one_mul] at hset
      have hlt : dig 2 ((sC a).set (src - 100) 1) < 2 ^ 4 := by
        have := dig_lt (B := 2) (by decide) ((sC a).set (src - 100) 1) (set_all ha.bC (by decide))
        rw [List.length_set, ha.lC] at this; exact this
      have hz : dig 2 (sC a) / 2 ^ (src - 100) % 2 ^ 1 = 0 := by
        have := dig_get0 (B := 2) (by decide) (i := src - 100) ha.bC (by rw [ha.lC]; omega)
        rw [q.2.2.1] at this; exact this
      have eor : nI (dig 2 (sC a)) ||| ((1 : Int32) <<< (nI (src - 100) &&& 31)) = nI (dig 2 ((sC a).set (src - 100) 1)) := by
        rw [show (1 : Int32) = nI 1 from rfl, pk_shlN _ (src - 100) (sft ⟨src - 100, by omega⟩) (by rw [Nat.one_mul]; exact Nat.lt_of_lt_of_le (Nat.pow_lt_pow_right (by decide) (show src - 100 < 4 by omega)) (by decide)), nx_or, or_dig (w := 1) hz (by decide), Nat.one_mul, ← hset]
      rw [eor, i2b (by omega), nar (by omega)]
      refine h96 _ (fun _ => ?_) (fun y => by omega)
      unfold aTake
      rw [if_neg (by omega), if_pos q.1]
      exact mRep_set hr (by rw [mE_setC, if_pos rfl]) (fun j _ hne => by rw [mE_setC, if_neg hne])
    · refine sw_no (by rw [z.1]; decide) ⟨hin10, ?_⟩
      rw [show (0 : Int32) = nI 0 from rfl, nx_or, Nat.or_zero, i2b (by omega), nar (by omega)]
      exact h96 _ (fun y => by omega) (fun _ => mRep_set hr rfl (fun j _ _ => rfl))
  · refine ⟨fun _ => ⟨vp_in_nI (by omega) (by decide), ?_⟩, fun z => absurd (nI_lt (a := src) (b := 100) (by omega) (by decide)) z⟩
    have n100 : ¬ 100 ≤ src := by omega
    have h16 := ha.len16 src
    rintro y3 e3
    rw [nI_clamp (by omega), (garcs _ q.1).2.1] at e3
    have t3 : y3 = nI (aTgt c src) := by rw [e3]; unfold aTgt; rw [if_neg n100]
    subst t3
    show wp_X8_rowOf_0 _ (nI src)
    unfold wp_X8_rowOf_0
    rw [row17]
    dsimp only
    rw [nI_inc, nI_add]
    refine ⟨vp_in_nI (by omega) (by decide), ?_⟩
    rintro y6 e6
    rw [nI_clamp (by omega), hr _ (by omega), mE_r src (by omega)] at e6
    have t6 : y6 = nI (aMsg c a src p) := by rw [e6]; unfold aMsg; rw [if_neg n100]
    subst t6
    rcases hv.2 with z | z
    · refine ns_yes (by rw [z]; rfl) (m_takeOff ha hr (by omega) q.2 (fun at2 hr2 => h96 _ (fun _ => ?_) (fun y => by omega)))
      unfold aTake
      rw [if_neg (by omega), if_neg n100]
      exact hr2
    · exact ns_no (by rw [z.1]; decide) (h96 _ (fun y => by omega) (fun _ => hr))
end MP
