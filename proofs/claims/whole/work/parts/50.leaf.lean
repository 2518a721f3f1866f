abbrev sh_X0 (cA : Nat → ClassId) (a : Nat → Nat)  (states_ : Int32) (vertices_ : Int32) (ends_ : Int32) (stepless_ : Int32) (mostPending_ : Int32) (whole_ : Int32) (endValues_ : (Nat → Int32)) (endStates_ : (Nat → Int32)) (parents_ : (Nat → Int32)) (steps_ : (Nat → Int32)) : va_W := [(a 0, .inr (0, [.int states_, .int vertices_, .int ends_, .int stepless_, .int mostPending_, .int whole_, .ref (a 1), .ref (a 2), .ref (a 3), .ref (a 4)])), (a 1, .inl (cA 0, 600, .inl endValues_)), (a 2, .inl (cA 0, 600, .inl endStates_)), (a 3, .inl (cA 0, 600, .inl parents_)), (a 4, .inl (cA 0, 600, .inl steps_))]
abbrev sh_X1 (cA : Nat → ClassId) (a : Nat → Nat)  (vertices_ : Int32) (arcs_ : Int32) (firsts_ : Int32) (begins_ : (Nat → Int32)) (arcFrom_ : (Nat → Int32)) (arcTo_ : (Nat → Int32)) (weights_ : (Nat → Int32)) (firstTo_ : (Nat → Int32)) (firstValue_ : (Nat → Int32)) : va_W := [(a 0, .inr (1, [.int vertices_, .int arcs_, .int firsts_, .ref (a 1), .ref (a 2), .ref (a 3), .ref (a 4), .ref (a 5), .ref (a 6)])), (a 1, .inl (cA 0, 5, .inl begins_)), (a 2, .inl (cA 0, 8, .inl arcFrom_)), (a 3, .inl (cA 0, 8, .inl arcTo_)), (a 4, .inl (cA 0, 8, .inl weights_)), (a 5, .inl (cA 0, 4, .inl firstTo_)), (a 6, .inl (cA 0, 4, .inl firstValue_))]
abbrev sh_X2 (cA : Nat → ClassId) (a : Nat → Nat)  (settings_ : (Nat → Int32)) (told_ : (Nat → Int32)) : va_W := [(a 0, .inr (2, [.ref (a 1), .ref (a 2)])), (a 1, .inl (cA 0, 6, .inl settings_)), (a 2, .inl (cA 0, 256, .inl told_))]
abbrev sh_X3 (cA : Nat → ClassId) (a : Nat → Nat) (r_graph : Nat) (r_rules : Nat) (r_found : Nat) (r_here : Nat) (r_next : Nat) (r_findings : Nat) (limit_ : Int32) (staying_ : Int32) (isFull_ : Int32) : va_W := [(a 0, .inr (3, [.ref r_graph, .ref r_rules, .ref r_found, .ref r_here, .ref r_next, .ref r_findings, .int limit_, .int staying_, .int isFull_]))]
abbrev sh_X4 (cA : Nat → ClassId) (a : Nat → Nat)  (head_ : Int64) (lengths_ : Int64) (rows_ : (Nat → Int64)) : va_W := [(a 0, .inr (4, [.long head_, .long lengths_, .ref (a 1)])), (a 1, .inl (cA 1, 8, .inr (.inl rows_)))]
abbrev sh_X5 (cA : Nat → ClassId) (a : Nat → Nat)  (count_ : Int32) (heads_ : (Nat → Int64)) (lengths_ : (Nat → Int64)) (rows_ : (Nat → Int64)) (slots_ : (Nat → Int32)) : va_W := [(a 0, .inr (5, [.int count_, .ref (a 1), .ref (a 2), .ref (a 3), .ref (a 4)])), (a 1, .inl (cA 1, 600, .inr (.inl heads_))), (a 2, .inl (cA 1, 600, .inr (.inl lengths_))), (a 3, .inl (cA 1, 4800, .inr (.inl rows_))), (a 4, .inl (cA 0, 1024, .inl slots_))]
abbrev sh_X7 (cA : Nat → ClassId) (a : Nat → Nat) (r_graph : Nat) (r_rules : Nat) (r_search : Nat) (r_latest : Nat) (r_trial : Nat)  : va_W := [(a 0, .inr (6, [.ref r_graph, .ref r_rules, .ref r_search, .ref r_latest, .ref r_trial]))]
abbrev sh_X8 (cA : Nat → ClassId) (a : Nat → Nat)  (vertices_ : Int32) (begins_ : (Nat → Int32)) (arcs_ : Int32) (arcFrom_ : (Nat → Int32)) (arcTo_ : (Nat → Int32)) (arcWeight_ : (Nat → Int32)) (firsts_ : Int32) (firstTo_ : (Nat → Int32)) (firstValue_ : (Nat → Int32)) (settings_ : (Nat → Int32)) (tells_ : (Nat → Int32)) (found_ : (Nat → Int32)) (states_ : Int32) (places_ : (Nat → Int32)) (at_ : (Nat → Int32)) (hasLook_ : Int32) (wasWhole_ : Int32) (lookedVertices_ : Int32) (deadMany_ : Int32) (greatest_ : Int32) (ends_ : Int32) (endState_ : (Nat → Int32)) (endValues_ : (Nat → Int32)) (parent_ : (Nat → Int32)) (stepBy_ : (Nat → Int32)) (stepValue_ : (Nat → Int32)) (stepDouble_ : (Nat → Int32)) (keepsSteps_ : Int32) (isOver_ : Int32) : va_W := [(a 0, .inr (7, [.int vertices_, .ref (a 1), .int arcs_, .ref (a 2), .ref (a 3), .ref (a 4), .int firsts_, .ref (a 5), .ref (a 6), .ref (a 7), .ref (a 8), .ref (a 9), .int states_, .ref (a 10), .ref (a 11), .int hasLook_, .int wasWhole_, .int lookedVertices_, .int deadMany_, .int greatest_, .int ends_, .ref (a 12), .ref (a 13), .ref (a 14), .ref (a 15), .ref (a 16), .ref (a 17), .int keepsSteps_, .int isOver_])), (a 1, .inl (cA 0, 5, .inl begins_)), (a 2, .inl (cA 0, 8, .inl arcFrom_)), (a 3, .inl (cA 0, 8, .inl arcTo_)), (a 4, .inl (cA 0, 8, .inl arcWeight_)), (a 5, .inl (cA 0, 4, .inl firstTo_)), (a 6, .inl (cA 0, 4, .inl firstValue_)), (a 7, .inl (cA 0, 6, .inl settings_)), (a 8, .inl (cA 0, 256, .inl tells_)), (a 9, .inl (cA 2, 88800, .inl found_)), (a 10, .inl (cA 0, 2048, .inl places_)), (a 11, .inl (cA 2, 148, .inl at_)), (a 12, .inl (cA 0, 600, .inl endState_)), (a 13, .inl (cA 2, 3000, .inl endValues_)), (a 14, .inl (cA 0, 600, .inl parent_)), (a 15, .inl (cA 0, 600, .inl stepBy_)), (a 16, .inl (cA 0, 600, .inl stepValue_)), (a 17, .inl (cA 0, 600, .inl stepDouble_))]
abbrev sh_AI (cA : Nat → ClassId) (a n : Nat) (v_ : Nat → Int32) : va_W := [(a, .inl (cA 0, n, .inl v_))]
abbrev sh_AJ (cA : Nat → ClassId) (a n : Nat) (v_ : Nat → Int64) : va_W := [(a, .inl (cA 1, n, .inr (.inl v_)))]
abbrev sh_AB (cA : Nat → ClassId) (a n : Nat) (v_ : Nat → Int32) : va_W := [(a, .inl (cA 2, n, .inl v_))]
/-! J7_fill_53178: fill([II)V -/
abbrev rm_J7_fill_53178 : Room := { frames := 0, cells := 0, slots := 0, locals := 0 }
abbrev q_J7_fill_53178 (D : va_G) (cA : Nat → ClassId) (A : Nat → Prop) (a_v : Nat) (n_v : Nat) (post : (Nat → Int32) → Prop) : Array Value → State → Outcome → State → Prop := va_Qv (fun (u : (Nat → Int32)) => post u) (cOut D cA A (fun (u : (Nat → Int32)) => sh_AI cA a_v n_v u)) A
set_option maxHeartbeats 4000000 in
set_option maxRecDepth 100000 in
theorem b_J7_fill_53178_5 {p : Program} {l : Launch} {e : Env} {s : State} {m : MethodId} {args : Array Value} {below : List Frame} {meth : Method} {c : Code} {D : va_G} {cA : Nat → ClassId} {A : Nat → Prop} {a_v : Nat} {n_v : Nat} (C : cxm RJ7 cJ7_fill_53178 4 none wsJ7_fill_53178 p s m args meth c) (hA : ∀ q, s.heap.size ≤ q → A q) (hK : va_K D vwCl (tyL cA) s) {post : (Nat → Int32) → Prop} {x1 : Int32} {x2 : Int32} {x3 : Int32} {v_v : (Nat → Int32)} {K5 : Int32 → (Nat → Int32) → Prop} (hk5 : ∀ (H : Heap) (locs : List Loc) (ls : Array Slot) (x2 : Int32) (v_v : (Nat → Int32)), lv_has ls 4 [(0, .ref a_v), (1, .int x1), (2, .int x2), (3, .int x3)] → va_P D vwCl (sh_AI cA a_v n_v v_v) H → va_D A (sh_AI cA a_v n_v v_v) → va_S A s.heap H locs → K5 x2 v_v → W p l e rm_J7_fill_53178 s m args below meth c H locs 0 0 (MQ below (q_J7_fill_53178 D cA A a_v n_v post) args s 0 0 A) (F0 m 5 ls [])) {H : Heap} {locs : List Loc} {ls : Array Slot} (hl : lv_has ls 4 [(0, .ref a_v), (1, .int x1), (2, .int x2), (3, .int x3)]) (hP : va_P D vwCl (sh_AI cA a_v n_v v_v) H) (hD : va_D A (sh_AI cA a_v n_v v_v)) (hS : va_S A s.heap H locs) (hw : bd_J7_fill_53178_5 n_v post K5 x1 x2 x3 v_v) : W p l e rm_J7_fill_53178 s m args below meth c H locs 0 0 (MQ below (q_J7_fill_53178 D cA A a_v n_v post) args s 0 0 A) (F0 m 5 ls []) := by
  obtain ⟨hx, hb, hr, hts, hown, hlocks, hml⟩ := id C
  unfold bd_J7_fill_53178_5 at hw
  refine lv_iload_n hx hb dJ7_fill_53178_5 rfl (lv_at hl 2 rfl) ?_
  refine lv_iload_n hx hb dJ7_fill_53178_6 rfl (lv_at hl 3 rfl) ?_
  refine lv_icmp_ge (tgt := 20) hx hb dJ7_fill_53178_7 (by decide) (fun hc => ?_) (fun hc => ?_)
  · have hw := hw.1 hc
    exact W.vret hx hb hr (fun t ht hW => ⟨⟨(v_v), rfl, hw, by rw [ht]; exact hP, va_K.moved hW.alike hK, hD⟩, hS.F ht⟩) hS.2.2 dJ7_fill_53178_20
  · have hw := hw.2 hc
    refine lv_aload_n hx hb dJ7_fill_53178_10 rfl (lv_at hl 0 rfl) ?_
    refine lv_iload_n hx hb dJ7_fill_53178_11 rfl (lv_at hl 2 rfl) ?_
    refine lv_iload_n hx hb dJ7_fill_53178_12 rfl (lv_at hl 1 rfl) ?_
    obtain ⟨hi1, hw⟩ := hw
    refine va_iast hx hb hK hP hD hS 0 0 rfl rfl hi1 dJ7_fill_53178_13 (fun H locs hP hD hS => ?_)
    have hP : va_P D vwCl (sh_AI cA a_v n_v (upd v_v x2.toNatClampNeg x1)) H := hP
    have hD : va_D A (sh_AI cA a_v n_v (upd v_v x2.toNatClampNeg x1)) := hD
    refine lv_iinc (v := (x2 + 1)) (lv' := [(2, .int (x2 + 1)), (0, .ref a_v), (1, .int x1), (3, .int x3)]) hx hb dJ7_fill_53178_14 hl (k := 2) rfl rfl (by decide) rfl (fun ls hl => ?_)
    refine lv_goto (tgt := 5) hx hb dJ7_fill_53178_17 (by decide) ?_
    exact hk5 _ _ _ (x2 + 1) (upd v_v x2.toNatClampNeg x1) (lv_sub hl [1, 2, 0, 3] rfl) hP hD hS hw
set_option maxHeartbeats 4000000 in
set_option maxRecDepth 100000 in
theorem k_J7_fill_53178_5 {p : Program} {l : Launch} {e : Env} {s : State} {m : MethodId} {args : Array Value} {below : List Frame} {meth : Method} {c : Code} {D : va_G} {cA : Nat → ClassId} {A : Nat → Prop} {a_v : Nat} {n_v : Nat} (C : cxm RJ7 cJ7_fill_53178 4 none wsJ7_fill_53178 p s m args meth c) (hA : ∀ q, s.heap.size ≤ q → A q) (hK : va_K D vwCl (tyL cA) s) {post : (Nat → Int32) → Prop} {x1 : Int32} {x2 : Int32} {x3 : Int32} {v_v : (Nat → Int32)} {H : Heap} {locs : List Loc} {ls : Array Slot} (hl : lv_has ls 4 [(0, .ref a_v), (1, .int x1), (2, .int x2), (3, .int x3)]) (hP : va_P D vwCl (sh_AI cA a_v n_v v_v) H) (hD : va_D A (sh_AI cA a_v n_v v_v)) (hS : va_S A s.heap H locs) (hw : wp_J7_fill_53178_5 n_v post x1 x2 x3 v_v) : W p l e rm_J7_fill_53178 s m args below meth c H locs 0 0 (MQ below (q_J7_fill_53178 D cA A a_v n_v post) args s 0 0 A) (F0 m 5 ls []) := by
  obtain ⟨I, n, hI, hstep⟩ := hw
  have key : ∀ (n : Nat) (H : Heap) (locs : List Loc) (ls : Array Slot) (x2 : Int32) (v_v : (Nat → Int32)), I n x2 v_v → lv_has ls 4 [(0, .ref a_v), (1, .int x1), (2, .int x2), (3, .int x3)] → va_P D vwCl (sh_AI cA a_v n_v v_v) H → va_D A (sh_AI cA a_v n_v v_v) → va_S A s.heap H locs → W p l e rm_J7_fill_53178 s m args below meth c H locs 0 0 (MQ below (q_J7_fill_53178 D cA A a_v n_v post) args s 0 0 A) (F0 m 5 ls []) := by
    intro n
    induction n using Nat.strongRecOn with
    | _ n ih =>
      intro H locs ls x2 v_v hI hl hP hD hS
      exact b_J7_fill_53178_5 C hA hK (fun H locs ls x2 v_v hl hP hD hS hw => by obtain ⟨n', hn, hI⟩ := hw; exact ih n' hn H locs ls x2 v_v hI hl hP hD hS) hl hP hD hS (hstep n x2 v_v hI)
  exact key n H locs ls x2 v_v hI hl hP hD hS
set_option maxHeartbeats 4000000 in
set_option maxRecDepth 100000 in
theorem k_J7_fill_53178_0 {p : Program} {l : Launch} {e : Env} {s : State} {m : MethodId} {args : Array Value} {below : List Frame} {meth : Method} {c : Code} {D : va_G} {cA : Nat → ClassId} {A : Nat → Prop} {a_v : Nat} {n_v : Nat} (C : cxm RJ7 cJ7_fill_53178 4 none wsJ7_fill_53178 p s m args meth c) (hA : ∀ q, s.heap.size ≤ q → A q) (hK : va_K D vwCl (tyL cA) s) {post : (Nat → Int32) → Prop} {x1 : Int32} {v_v : (Nat → Int32)} {H : Heap} {locs : List Loc} {ls : Array Slot} (hl : lv_has ls 4 [(0, .ref a_v), (1, .int x1)]) (hP : va_P D vwCl (sh_AI cA a_v n_v v_v) H) (hD : va_D A (sh_AI cA a_v n_v v_v)) (hS : va_S A s.heap H locs) (hw : wp_J7_fill_53178_0 n_v post x1 v_v) : W p l e rm_J7_fill_53178 s m args below meth c H locs 0 0 (MQ below (q_J7_fill_53178 D cA A a_v n_v post) args s 0 0 A) (F0 m 0 ls []) := by
  obtain ⟨hx, hb, hr, hts, hown, hlocks, hml⟩ := id C
  unfold wp_J7_fill_53178_0 at hw
  refine lv_iconst (v := 0) hx hb dJ7_fill_53178_0 (by decide) ?_
  refine lv_istore_n (lv' := [(2, .int 0), (0, .ref a_v), (1, .int x1)]) hx hb dJ7_fill_53178_1 rfl hl (by decide) rfl (fun ls hl => ?_)
  refine lv_aload_n hx hb dJ7_fill_53178_2 rfl (lv_at hl 1 rfl) ?_
  refine va_alen (v := Int32.ofNat n_v) hx hb hK hP 0 0 rfl rfl rfl dJ7_fill_53178_3 ?_
  refine lv_istore_n (lv' := [(3, .int (Int32.ofNat n_v)), (2, .int 0), (0, .ref a_v), (1, .int x1)]) hx hb dJ7_fill_53178_4 rfl hl (by decide) rfl (fun ls hl => ?_)
  exact k_J7_fill_53178_5 C hA hK (lv_sub hl [2, 3, 1, 0] rfl) hP hD hS hw
set_option maxHeartbeats 4000000 in
set_option maxRecDepth 100000 in
theorem c_J7_fill_53178 (l : Launch) (D : va_G) (cA : Nat → ClassId) (a_v : Nat) (n_v : Nat) (sz : Nat) (v_v : (Nat → Int32)) (x1 : Int32) (post : (Nat → Int32) → Prop) (hw : wp_J7_fill_53178 n_v v_v x1 post) : Met l yJ7_fill_53178 wsJ7_fill_53178 rm_J7_fill_53178 (cPre D cA sz [.ref a_v, .int x1] (sh_AI cA a_v n_v v_v)) (q_J7_fill_53178 D cA (va_A (sh_AI cA a_v n_v v_v) sz) a_v n_v post) 0 0 (va_A (sh_AI cA a_v n_v v_v) sz) := by
  refine Met.ofW (cc := cJ7_fill_53178) (maxL := 4) (ret := none) (by decide) rfl ?_
  intro p e s m args below meth c s₁ B hml hv
  obtain ⟨rfl, hsz, hP, hK, hD0⟩ := hv
  have hown : s.vm.findClass RJ7 = some m.cls := findClass_of_methodNamed B.named
  subst hsz
  have hD := hD0.self (sz := s.heap.size)
  have hl := lv_entry ([.ref a_v, .int x1]) (n := 4) (Nat.le_of_ble_eq_true rfl)
  rw [lg_entry_eq]
  exact k_J7_fill_53178_0 ⟨B.exec, B.bytes, B.returns, atoms_spec (ws := wsJ7_fill_53178) B.pre, hown, B.notSynchronized, hml⟩ (fun q h => Or.inr h) hK hl hP hD va_S.rf hw
/-! J7_fill_d0a16: fill([JJ)V -/
abbrev rm_J7_fill_d0a16 : Room := { frames := 0, cells := 0, slots := 0, locals := 0 }
abbrev q_J7_fill_d0a16 (D : va_G) (cA : Nat → ClassId) (A : Nat → Prop) (a_v : Nat) (n_v : Nat) (post : (Nat → Int64) → Prop) : Array Value → State → Outcome → State → Prop := va_Qv (fun (u : (Nat → Int64)) => post u) (cOut D cA A (fun (u : (Nat → Int64)) => sh_AJ cA a_v n_v u)) A
set_option maxHeartbeats 4000000 in
set_option maxRecDepth 100000 in
theorem b_J7_fill_d0a16_6 {p : Program} {l : Launch} {e : Env} {s : State} {m : MethodId} {args : Array Value} {below : List Frame} {meth : Method} {c : Code} {D : va_G} {cA : Nat → ClassId} {A : Nat → Prop} {a_v : Nat} {n_v : Nat} (C : cxm RJ7 cJ7_fill_d0a16 5 none wsJ7_fill_d0a16 p s m args meth c) (hA : ∀ q, s.heap.size ≤ q → A q) (hK : va_K D vwCl (tyL cA) s) {post : (Nat → Int64) → Prop} {x1 : Int64} {x3 : Int32} {x4 : Int32} {v_v : (Nat → Int64)} {K6 : Int32 → (Nat → Int64) → Prop} (hk6 : ∀ (H : Heap) (locs : List Loc) (ls : Array Slot) (x3 : Int32) (v_v : (Nat → Int64)), lv_has ls 5 [(0, .ref a_v), (1, .long x1), (3, .int x3), (4, .int x4)] → va_P D vwCl (sh_AJ cA a_v n_v v_v) H → va_D A (sh_AJ cA a_v n_v v_v) → va_S A s.heap H locs → K6 x3 v_v → W p l e rm_J7_fill_d0a16 s m args below meth c H locs 0 0 (MQ below (q_J7_fill_d0a16 D cA A a_v n_v post) args s 0 0 A) (F0 m 6 ls [])) {H : Heap} {locs : List Loc} {ls : Array Slot} (hl : lv_has ls 5 [(0, .ref a_v), (1, .long x1), (3, .int x3), (4, .int x4)]) (hP : va_P D vwCl (sh_AJ cA a_v n_v v_v) H) (hD : va_D A (sh_AJ cA a_v n_v v_v)) (hS : va_S A s.heap H locs) (hw : bd_J7_fill_d0a16_6 n_v post K6 x1 x3 x4 v_v) : W p l e rm_J7_fill_d0a16 s m args below meth c H locs 0 0 (MQ below (q_J7_fill_d0a16 D cA A a_v n_v post) args s 0 0 A) (F0 m 6 ls []) := by
  obtain ⟨hx, hb, hr, hts, hown, hlocks, hml⟩ := id C
  unfold bd_J7_fill_d0a16_6 at hw
  refine lv_iload_n hx hb dJ7_fill_d0a16_6 rfl (lv_at hl 2 rfl) ?_
  refine lv_iload hx hb dJ7_fill_d0a16_7 (lv_at hl 3 rfl) ?_
  refine lv_icmp_ge (tgt := 22) hx hb dJ7_fill_d0a16_9 (by decide) (fun hc => ?_) (fun hc => ?_)
  · have hw := hw.1 hc
    exact W.vret hx hb hr (fun t ht hW => ⟨⟨(v_v), rfl, hw, by rw [ht]; exact hP, va_K.moved hW.alike hK, hD⟩, hS.F ht⟩) hS.2.2 dJ7_fill_d0a16_22
  · have hw := hw.2 hc
    refine lv_aload_n hx hb dJ7_fill_d0a16_12 rfl (lv_at hl 0 rfl) ?_
    refine lv_iload_n hx hb dJ7_fill_d0a16_13 rfl (lv_at hl 2 rfl) ?_
    refine lv_lload_n hx hb dJ7_fill_d0a16_14 rfl (lv_at hl 1 rfl) ?_
    obtain ⟨hi1, hw⟩ := hw
    refine va_last hx hb hK hP hD hS 0 1 rfl rfl hi1 dJ7_fill_d0a16_15 (fun H locs hP hD hS => ?_)
    have hP : va_P D vwCl (sh_AJ cA a_v n_v (vp_updL v_v x3.toNatClampNeg x1)) H := hP
    have hD : va_D A (sh_AJ cA a_v n_v (vp_updL v_v x3.toNatClampNeg x1)) := hD
    refine lv_iinc (v := (x3 + 1)) (lv' := [(3, .int (x3 + 1)), (0, .ref a_v), (1, .long x1), (4, .int x4)]) hx hb dJ7_fill_d0a16_16 hl (k := 2) rfl rfl (by decide) rfl (fun ls hl => ?_)
    refine lv_goto (tgt := 6) hx hb dJ7_fill_d0a16_19 (by decide) ?_
    exact hk6 _ _ _ (x3 + 1) (vp_updL v_v x3.toNatClampNeg x1) (lv_sub hl [1, 2, 0, 3] rfl) hP hD hS hw
set_option maxHeartbeats 4000000 in
set_option maxRecDepth 100000 in
theorem k_J7_fill_d0a16_6 {p : Program} {l : Launch} {e : Env} {s : State} {m : MethodId} {args : Array Value} {below : List Frame} {meth : Method} {c : Code} {D : va_G} {cA : Nat → ClassId} {A : Nat → Prop} {a_v : Nat} {n_v : Nat} (C : cxm RJ7 cJ7_fill_d0a16 5 none wsJ7_fill_d0a16 p s m args meth c) (hA : ∀ q, s.heap.size ≤ q → A q) (hK : va_K D vwCl (tyL cA) s) {post : (Nat → Int64) → Prop} {x1 : Int64} {x3 : Int32} {x4 : Int32} {v_v : (Nat → Int64)} {H : Heap} {locs : List Loc} {ls : Array Slot} (hl : lv_has ls 5 [(0, .ref a_v), (1, .long x1), (3, .int x3), (4, .int x4)]) (hP : va_P D vwCl (sh_AJ cA a_v n_v v_v) H) (hD : va_D A (sh_AJ cA a_v n_v v_v)) (hS : va_S A s.heap H locs) (hw : wp_J7_fill_d0a16_6 n_v post x1 x3 x4 v_v) : W p l e rm_J7_fill_d0a16 s m args below meth c H locs 0 0 (MQ below (q_J7_fill_d0a16 D cA A a_v n_v post) args s 0 0 A) (F0 m 6 ls []) := by
  obtain ⟨I, n, hI, hstep⟩ := hw
  have key : ∀ (n : Nat) (H : Heap) (locs : List Loc) (ls : Array Slot) (x3 : Int32) (v_v : (Nat → Int64)), I n x3 v_v → lv_has ls 5 [(0, .ref a_v), (1, .long x1), (3, .int x3), (4, .int x4)] → va_P D vwCl (sh_AJ cA a_v n_v v_v) H → va_D A (sh_AJ cA a_v n_v v_v) → va_S A s.heap H locs → W p l e rm_J7_fill_d0a16 s m args below meth c H locs 0 0 (MQ below (q_J7_fill_d0a16 D cA A a_v n_v post) args s 0 0 A) (F0 m 6 ls []) := by
    intro n
    induction n using Nat.strongRecOn with
    | _ n ih =>
      intro H locs ls x3 v_v hI hl hP hD hS
      exact b_J7_fill_d0a16_6 C hA hK (fun H locs ls x3 v_v hl hP hD hS hw => by obtain ⟨n', hn, hI⟩ := hw; exact ih n' hn H locs ls x3 v_v hI hl hP hD hS) hl hP hD hS (hstep n x3 v_v hI)
  exact key n H locs ls x3 v_v hI hl hP hD hS
set_option maxHeartbeats 4000000 in
set_option maxRecDepth 100000 in
theorem k_J7_fill_d0a16_0 {p : Program} {l : Launch} {e : Env} {s : State} {m : MethodId} {args : Array Value} {below : List Frame} {meth : Method} {c : Code} {D : va_G} {cA : Nat → ClassId} {A : Nat → Prop} {a_v : Nat} {n_v : Nat} (C : cxm RJ7 cJ7_fill_d0a16 5 none wsJ7_fill_d0a16 p s m args meth c) (hA : ∀ q, s.heap.size ≤ q → A q) (hK : va_K D vwCl (tyL cA) s) {post : (Nat → Int64) → Prop} {x1 : Int64} {v_v : (Nat → Int64)} {H : Heap} {locs : List Loc} {ls : Array Slot} (hl : lv_has ls 5 [(0, .ref a_v), (1, .long x1)]) (hP : va_P D vwCl (sh_AJ cA a_v n_v v_v) H) (hD : va_D A (sh_AJ cA a_v n_v v_v)) (hS : va_S A s.heap H locs) (hw : wp_J7_fill_d0a16_0 n_v post x1 v_v) : W p l e rm_J7_fill_d0a16 s m args below meth c H locs 0 0 (MQ below (q_J7_fill_d0a16 D cA A a_v n_v post) args s 0 0 A) (F0 m 0 ls []) := by
  obtain ⟨hx, hb, hr, hts, hown, hlocks, hml⟩ := id C
  unfold wp_J7_fill_d0a16_0 at hw
  refine lv_iconst (v := 0) hx hb dJ7_fill_d0a16_0 (by decide) ?_
  refine lv_istore_n (lv' := [(3, .int 0), (0, .ref a_v), (1, .long x1)]) hx hb dJ7_fill_d0a16_1 rfl hl (by decide) rfl (fun ls hl => ?_)
  refine lv_aload_n hx hb dJ7_fill_d0a16_2 rfl (lv_at hl 1 rfl) ?_
  refine va_alen (v := Int32.ofNat n_v) hx hb hK hP 0 1 rfl rfl rfl dJ7_fill_d0a16_3 ?_
  refine lv_istore (lv' := [(4, .int (Int32.ofNat n_v)), (3, .int 0), (0, .ref a_v), (1, .long x1)]) hx hb dJ7_fill_d0a16_4 hl (by decide) rfl (fun ls hl => ?_)
  exact k_J7_fill_d0a16_6 C hA hK (lv_sub hl [2, 3, 1, 0] rfl) hP hD hS hw
set_option maxHeartbeats 4000000 in
set_option maxRecDepth 100000 in
theorem c_J7_fill_d0a16 (l : Launch) (D : va_G) (cA : Nat → ClassId) (a_v : Nat) (n_v : Nat) (sz : Nat) (v_v : (Nat → Int64)) (x1 : Int64) (post : (Nat → Int64) → Prop) (hw : wp_J7_fill_d0a16 n_v v_v x1 post) : Met l yJ7_fill_d0a16 wsJ7_fill_d0a16 rm_J7_fill_d0a16 (cPre D cA sz [.ref a_v, .long x1] (sh_AJ cA a_v n_v v_v)) (q_J7_fill_d0a16 D cA (va_A (sh_AJ cA a_v n_v v_v) sz) a_v n_v post) 0 0 (va_A (sh_AJ cA a_v n_v v_v) sz) := by
  refine Met.ofW (cc := cJ7_fill_d0a16) (maxL := 5) (ret := none) (by decide) rfl ?_
  intro p e s m args below meth c s₁ B hml hv
  obtain ⟨rfl, hsz, hP, hK, hD0⟩ := hv
  have hown : s.vm.findClass RJ7 = some m.cls := findClass_of_methodNamed B.named
  subst hsz
  have hD := hD0.self (sz := s.heap.size)
  have hl := lv_entry ([.ref a_v, .long x1]) (n := 5) (Nat.le_of_ble_eq_true rfl)
  rw [lg_entry_eq]
  exact k_J7_fill_d0a16_0 ⟨B.exec, B.bytes, B.returns, atoms_spec (ws := wsJ7_fill_d0a16) B.pre, hown, B.notSynchronized, hml⟩ (fun q h => Or.inr h) hK hl hP hD va_S.rf hw
/-! J13_bitCount_95d88: bitCount(J)I -/
theorem fl_J13_bitCount_95d88_0 : ((.constantLong RJ13 314 (6148914691236517205)) : Cond) ∈ wsJ13_bitCount_95d88 := by decide +kernel
theorem fl_J13_bitCount_95d88_1 : ((.constantLong RJ13 316 (3689348814741910323)) : Cond) ∈ wsJ13_bitCount_95d88 := by decide +kernel
theorem fl_J13_bitCount_95d88_2 : ((.constantLong RJ13 318 (1085102592571150095)) : Cond) ∈ wsJ13_bitCount_95d88 := by decide +kernel
abbrev rm_J13_bitCount_95d88 : Room := { frames := 0, cells := 0, slots := 0, locals := 0 }
abbrev q_J13_bitCount_95d88 (D : va_G) (cA : Nat → ClassId) (A : Nat → Prop) (post : Int32 → Prop) : Array Value → State → Outcome → State → Prop := va_Qi (fun (r : Int32) (u : Unit) => post r) (cOut D cA A (fun (u : Unit) => ([] : va_W))) A
set_option maxHeartbeats 4000000 in
set_option maxRecDepth 100000 in
theorem k_J13_bitCount_95d88_0 {p : Program} {l : Launch} {e : Env} {s : State} {m : MethodId} {args : Array Value} {below : List Frame} {meth : Method} {c : Code} {D : va_G} {cA : Nat → ClassId} {A : Nat → Prop} (C : cxm RJ13 cJ13_bitCount_95d88 2 (some .int) wsJ13_bitCount_95d88 p s m args meth c) (hA : ∀ q, s.heap.size ≤ q → A q) (hK : va_K D vwCl (tyL cA) s) {post : Int32 → Prop} {x0 : Int64} {H : Heap} {locs : List Loc} {ls : Array Slot} (hl : lv_has ls 2 [(0, .long x0)]) (hP : va_P D vwCl (([] : va_W)) H) (hD : va_D A (([] : va_W))) (hS : va_S A s.heap H locs) (hw : wp_J13_bitCount_95d88_0 post x0) : W p l e rm_J13_bitCount_95d88 s m args below meth c H locs 0 0 (MQ below (q_J13_bitCount_95d88 D cA A post) args s 0 0 A) (F0 m 0 ls []) := by
  obtain ⟨hx, hb, hr, hts, hown, hlocks, hml⟩ := id C
  unfold wp_J13_bitCount_95d88_0 at hw
  refine lv_lload_n hx hb dJ13_bitCount_95d88_0 rfl (lv_at hl 0 rfl) ?_
  refine lv_lload_n hx hb dJ13_bitCount_95d88_1 rfl (lv_at hl 0 rfl) ?_
  refine lv_iconst (v := 1) hx hb dJ13_bitCount_95d88_2 (by decide) ?_
  refine lv_lushr hx hb dJ13_bitCount_95d88_3 rfl ?_
  refine lv_ldc2 (v := 6148914691236517205) hx hb hown (hts _ fl_J13_bitCount_95d88_0) dJ13_bitCount_95d88_4 ?_
  refine lv_land hx hb dJ13_bitCount_95d88_7 ?_
  refine lv_lsub hx hb dJ13_bitCount_95d88_8 ?_
  refine lv_topl (fun y1 ey1 => ?_)
  have hw := hw y1 ey1
  refine lv_lstore_n (lv' := [(0, .long y1)]) hx hb dJ13_bitCount_95d88_9 rfl hl (by decide) rfl (fun ls hl => ?_)
  refine lv_lload_n hx hb dJ13_bitCount_95d88_10 rfl (lv_at hl 0 rfl) ?_
  refine lv_ldc2 (v := 3689348814741910323) hx hb hown (hts _ fl_J13_bitCount_95d88_1) dJ13_bitCount_95d88_11 ?_
  refine lv_land hx hb dJ13_bitCount_95d88_14 ?_
  refine lv_lload_n hx hb dJ13_bitCount_95d88_15 rfl (lv_at hl 0 rfl) ?_
  refine lv_iconst (v := 2) hx hb dJ13_bitCount_95d88_16 (by decide) ?_
  refine lv_lushr hx hb dJ13_bitCount_95d88_17 rfl ?_
  refine lv_ldc2 (v := 3689348814741910323) hx hb hown (hts _ fl_J13_bitCount_95d88_1) dJ13_bitCount_95d88_18 ?_
  refine lv_land hx hb dJ13_bitCount_95d88_21 ?_
  refine lv_ladd hx hb dJ13_bitCount_95d88_22 ?_
  refine lv_topl (fun y2 ey2 => ?_)
  have hw := hw y2 ey2
  refine lv_lstore_n (lv' := [(0, .long y2)]) hx hb dJ13_bitCount_95d88_23 rfl hl (by decide) rfl (fun ls hl => ?_)
  refine lv_lload_n hx hb dJ13_bitCount_95d88_24 rfl (lv_at hl 0 rfl) ?_
  refine lv_lload_n hx hb dJ13_bitCount_95d88_25 rfl (lv_at hl 0 rfl) ?_
  refine lv_iconst (v := 4) hx hb dJ13_bitCount_95d88_26 (by decide) ?_
  refine lv_lushr hx hb dJ13_bitCount_95d88_27 rfl ?_
  refine lv_ladd hx hb dJ13_bitCount_95d88_28 ?_
  refine lv_ldc2 (v := 1085102592571150095) hx hb hown (hts _ fl_J13_bitCount_95d88_2) dJ13_bitCount_95d88_29 ?_
  refine lv_land hx hb dJ13_bitCount_95d88_32 ?_
  refine lv_topl (fun y3 ey3 => ?_)
  have hw := hw y3 ey3
  refine lv_lstore_n (lv' := [(0, .long y3)]) hx hb dJ13_bitCount_95d88_33 rfl hl (by decide) rfl (fun ls hl => ?_)
  refine lv_lload_n hx hb dJ13_bitCount_95d88_34 rfl (lv_at hl 0 rfl) ?_
  refine lv_lload_n hx hb dJ13_bitCount_95d88_35 rfl (lv_at hl 0 rfl) ?_
  refine lv_bipush (v := 8) hx hb dJ13_bitCount_95d88_36 (by decide) ?_
  refine lv_lushr hx hb dJ13_bitCount_95d88_38 rfl ?_
  refine lv_ladd hx hb dJ13_bitCount_95d88_39 ?_
  refine lv_topl (fun y4 ey4 => ?_)
  have hw := hw y4 ey4
  refine lv_lstore_n (lv' := [(0, .long y4)]) hx hb dJ13_bitCount_95d88_40 rfl hl (by decide) rfl (fun ls hl => ?_)
  refine lv_lload_n hx hb dJ13_bitCount_95d88_41 rfl (lv_at hl 0 rfl) ?_
  refine lv_lload_n hx hb dJ13_bitCount_95d88_42 rfl (lv_at hl 0 rfl) ?_
  refine lv_bipush (v := 16) hx hb dJ13_bitCount_95d88_43 (by decide) ?_
  refine lv_lushr hx hb dJ13_bitCount_95d88_45 rfl ?_
  refine lv_ladd hx hb dJ13_bitCount_95d88_46 ?_
  refine lv_topl (fun y5 ey5 => ?_)
  have hw := hw y5 ey5
  refine lv_lstore_n (lv' := [(0, .long y5)]) hx hb dJ13_bitCount_95d88_47 rfl hl (by decide) rfl (fun ls hl => ?_)
  refine lv_lload_n hx hb dJ13_bitCount_95d88_48 rfl (lv_at hl 0 rfl) ?_
  refine lv_lload_n hx hb dJ13_bitCount_95d88_49 rfl (lv_at hl 0 rfl) ?_
  refine lv_bipush (v := 32) hx hb dJ13_bitCount_95d88_50 (by decide) ?_
  refine lv_lushr hx hb dJ13_bitCount_95d88_52 rfl ?_
  refine lv_ladd hx hb dJ13_bitCount_95d88_53 ?_
  refine lv_topl (fun y6 ey6 => ?_)
  have hw := hw y6 ey6
  refine lv_lstore_n (lv' := [(0, .long y6)]) hx hb dJ13_bitCount_95d88_54 rfl hl (by decide) rfl (fun ls hl => ?_)
  refine lv_lload_n hx hb dJ13_bitCount_95d88_55 rfl (lv_at hl 0 rfl) ?_
  refine lv_l2i hx hb dJ13_bitCount_95d88_56 rfl ?_
  refine lv_bipush (v := 127) hx hb dJ13_bitCount_95d88_57 (by decide) ?_
  refine lv_iand hx hb dJ13_bitCount_95d88_59 ?_
  exact W.iret (v := (y6.toInt32 &&& 127)) hx hb hr (fun t ht hW => ⟨⟨(y6.toInt32 &&& 127), (), rfl, hw, by rw [ht]; exact hP, va_K.moved hW.alike hK, hD⟩, hS.F ht⟩) hS.2.2 dJ13_bitCount_95d88_60
set_option maxHeartbeats 4000000 in
set_option maxRecDepth 100000 in
theorem c_J13_bitCount_95d88 (l : Launch) (D : va_G) (cA : Nat → ClassId) (sz : Nat) (x0 : Int64) (post : Int32 → Prop) (hw : wp_J13_bitCount_95d88 x0 post) : Met l yJ13_bitCount_95d88 wsJ13_bitCount_95d88 rm_J13_bitCount_95d88 (cPre D cA sz [.long x0] (([] : va_W))) (q_J13_bitCount_95d88 D cA (va_A (([] : va_W)) sz) post) 0 0 (va_A (([] : va_W)) sz) := by
  refine Met.ofW (cc := cJ13_bitCount_95d88) (maxL := 2) (ret := (some .int)) (by decide) rfl ?_
  intro p e s m args below meth c s₁ B hml hv
  obtain ⟨rfl, hsz, hP, hK, hD0⟩ := hv
  have hown : s.vm.findClass RJ13 = some m.cls := findClass_of_methodNamed B.named
  subst hsz
  have hD := hD0.self (sz := s.heap.size)
  have hl := lv_entry ([.long x0]) (n := 2) (Nat.le_of_ble_eq_true rfl)
  rw [lg_entry_eq]
  exact k_J13_bitCount_95d88_0 ⟨B.exec, B.bytes, B.returns, atoms_spec (ws := wsJ13_bitCount_95d88) B.pre, hown, B.notSynchronized, hml⟩ (fun q h => Or.inr h) hK hl hP hD va_S.rf hw
/-! X2_cell: cell(II)I -/
abbrev rm_X2_cell : Room := { frames := 0, cells := 0, slots := 0, locals := 0 }
abbrev q_X2_cell (D : va_G) (cA : Nat → ClassId) (A : Nat → Prop) (post : Int32 → Prop) : Array Value → State → Outcome → State → Prop := va_Qi (fun (r : Int32) (u : Unit) => post r) (cOut D cA A (fun (u : Unit) => ([] : va_W))) A
set_option maxHeartbeats 4000000 in
set_option maxRecDepth 100000 in
theorem k_X2_cell_0 {p : Program} {l : Launch} {e : Env} {s : State} {m : MethodId} {args : Array Value} {below : List Frame} {meth : Method} {c : Code} {D : va_G} {cA : Nat → ClassId} {A : Nat → Prop} (C : cxm RX2 cX2_cell 2 (some .int) wsX2_cell p s m args meth c) (hA : ∀ q, s.heap.size ≤ q → A q) (hK : va_K D vwCl (tyL cA) s) {post : Int32 → Prop} {x0 : Int32} {x1 : Int32} {H : Heap} {locs : List Loc} {ls : Array Slot} (hl : lv_has ls 2 [(0, .int x0), (1, .int x1)]) (hP : va_P D vwCl (([] : va_W)) H) (hD : va_D A (([] : va_W))) (hS : va_S A s.heap H locs) (hw : wp_X2_cell_0 post x0 x1) : W p l e rm_X2_cell s m args below meth c H locs 0 0 (MQ below (q_X2_cell D cA A post) args s 0 0 A) (F0 m 0 ls []) := by
  obtain ⟨hx, hb, hr, hts, hown, hlocks, hml⟩ := id C
  unfold wp_X2_cell_0 at hw
  refine lv_iload_n hx hb dX2_cell_0 rfl (lv_at hl 0 rfl) ?_
  refine lv_bipush (v := 15) hx hb dX2_cell_1 (by decide) ?_
  refine lv_iand hx hb dX2_cell_3 ?_
  refine lv_iconst (v := 4) hx hb dX2_cell_4 (by decide) ?_
  refine lv_ishl hx hb dX2_cell_5 ?_
  refine lv_iload_n hx hb dX2_cell_6 rfl (lv_at hl 1 rfl) ?_
  refine lv_bipush (v := 15) hx hb dX2_cell_7 (by decide) ?_
  refine lv_iand hx hb dX2_cell_9 ?_
  refine lv_ior hx hb dX2_cell_10 ?_
  exact W.iret (v := (((x0 &&& 15) <<< (4 &&& 31)) ||| (x1 &&& 15))) hx hb hr (fun t ht hW => ⟨⟨(((x0 &&& 15) <<< (4 &&& 31)) ||| (x1 &&& 15)), (), rfl, hw, by rw [ht]; exact hP, va_K.moved hW.alike hK, hD⟩, hS.F ht⟩) hS.2.2 dX2_cell_11
set_option maxHeartbeats 4000000 in
set_option maxRecDepth 100000 in
theorem c_X2_cell (l : Launch) (D : va_G) (cA : Nat → ClassId) (sz : Nat) (x0 : Int32) (x1 : Int32) (post : Int32 → Prop) (hw : wp_X2_cell x0 x1 post) : Met l yX2_cell wsX2_cell rm_X2_cell (cPre D cA sz [.int x0, .int x1] (([] : va_W))) (q_X2_cell D cA (va_A (([] : va_W)) sz) post) 0 0 (va_A (([] : va_W)) sz) := by
  refine Met.ofW (cc := cX2_cell) (maxL := 2) (ret := (some .int)) (by decide) rfl ?_
  intro p e s m args below meth c s₁ B hml hv
  obtain ⟨rfl, hsz, hP, hK, hD0⟩ := hv
  have hown : s.vm.findClass RX2 = some m.cls := findClass_of_methodNamed B.named
  subst hsz
  have hD := hD0.self (sz := s.heap.size)
  have hl := lv_entry ([.int x0, .int x1]) (n := 2) (Nat.le_of_ble_eq_true rfl)
  rw [lg_entry_eq]
  exact k_X2_cell_0 ⟨B.exec, B.bytes, B.returns, atoms_spec (ws := wsX2_cell) B.pre, hown, B.notSynchronized, hml⟩ (fun q h => Or.inr h) hK hl hP hD va_S.rf hw
/-! X6_of: of(III)I -/
abbrev rm_X6_of : Room := { frames := 0, cells := 0, slots := 0, locals := 0 }
abbrev q_X6_of (D : va_G) (cA : Nat → ClassId) (A : Nat → Prop) (post : Int32 → Prop) : Array Value → State → Outcome → State → Prop := va_Qi (fun (r : Int32) (u : Unit) => post r) (cOut D cA A (fun (u : Unit) => ([] : va_W))) A
set_option maxHeartbeats 4000000 in
set_option maxRecDepth 100000 in
theorem k_X6_of_0 {p : Program} {l : Launch} {e : Env} {s : State} {m : MethodId} {args : Array Value} {below : List Frame} {meth : Method} {c : Code} {D : va_G} {cA : Nat → ClassId} {A : Nat → Prop} (C : cxm RX6 cX6_of 3 (some .int) wsX6_of p s m args meth c) (hA : ∀ q, s.heap.size ≤ q → A q) (hK : va_K D vwCl (tyL cA) s) {post : Int32 → Prop} {x0 : Int32} {x1 : Int32} {x2 : Int32} {H : Heap} {locs : List Loc} {ls : Array Slot} (hl : lv_has ls 3 [(0, .int x0), (1, .int x1), (2, .int x2)]) (hP : va_P D vwCl (([] : va_W)) H) (hD : va_D A (([] : va_W))) (hS : va_S A s.heap H locs) (hw : wp_X6_of_0 post x0 x1 x2) : W p l e rm_X6_of s m args below meth c H locs 0 0 (MQ below (q_X6_of D cA A post) args s 0 0 A) (F0 m 0 ls []) := by
  obtain ⟨hx, hb, hr, hts, hown, hlocks, hml⟩ := id C
  unfold wp_X6_of_0 at hw
  refine lv_iload_n hx hb dX6_of_0 rfl (lv_at hl 0 rfl) ?_
  refine lv_iload_n hx hb dX6_of_1 rfl (lv_at hl 1 rfl) ?_
  refine lv_bipush (v := 8) hx hb dX6_of_2 (by decide) ?_
  refine lv_ishl hx hb dX6_of_4 ?_
  refine lv_ior hx hb dX6_of_5 ?_
  refine lv_iload_n hx hb dX6_of_6 rfl (lv_at hl 2 rfl) ?_
  refine lv_bipush (v := 12) hx hb dX6_of_7 (by decide) ?_
  refine lv_ishl hx hb dX6_of_9 ?_
  refine lv_ior hx hb dX6_of_10 ?_
  exact W.iret (v := ((x0 ||| (x1 <<< (8 &&& 31))) ||| (x2 <<< (12 &&& 31)))) hx hb hr (fun t ht hW => ⟨⟨((x0 ||| (x1 <<< (8 &&& 31))) ||| (x2 <<< (12 &&& 31))), (), rfl, hw, by rw [ht]; exact hP, va_K.moved hW.alike hK, hD⟩, hS.F ht⟩) hS.2.2 dX6_of_11
set_option maxHeartbeats 4000000 in
set_option maxRecDepth 100000 in
theorem c_X6_of (l : Launch) (D : va_G) (cA : Nat → ClassId) (sz : Nat) (x0 : Int32) (x1 : Int32) (x2 : Int32) (post : Int32 → Prop) (hw : wp_X6_of x0 x1 x2 post) : Met l yX6_of wsX6_of rm_X6_of (cPre D cA sz [.int x0, .int x1, .int x2] (([] : va_W))) (q_X6_of D cA (va_A (([] : va_W)) sz) post) 0 0 (va_A (([] : va_W)) sz) := by
  refine Met.ofW (cc := cX6_of) (maxL := 3) (ret := (some .int)) (by decide) rfl ?_
  intro p e s m args below meth c s₁ B hml hv
  obtain ⟨rfl, hsz, hP, hK, hD0⟩ := hv
  have hown : s.vm.findClass RX6 = some m.cls := findClass_of_methodNamed B.named
  subst hsz
  have hD := hD0.self (sz := s.heap.size)
  have hl := lv_entry ([.int x0, .int x1, .int x2]) (n := 3) (Nat.le_of_ble_eq_true rfl)
  rw [lg_entry_eq]
  exact k_X6_of_0 ⟨B.exec, B.bytes, B.returns, atoms_spec (ws := wsX6_of) B.pre, hown, B.notSynchronized, hml⟩ (fun q h => Or.inr h) hK hl hP hD va_S.rf hw
/-! X6_source: source(I)I -/
abbrev rm_X6_source : Room := { frames := 0, cells := 0, slots := 0, locals := 0 }
abbrev q_X6_source (D : va_G) (cA : Nat → ClassId) (A : Nat → Prop) (post : Int32 → Prop) : Array Value → State → Outcome → State → Prop := va_Qi (fun (r : Int32) (u : Unit) => post r) (cOut D cA A (fun (u : Unit) => ([] : va_W))) A
set_option maxHeartbeats 4000000 in
set_option maxRecDepth 100000 in
theorem k_X6_source_0 {p : Program} {l : Launch} {e : Env} {s : State} {m : MethodId} {args : Array Value} {below : List Frame} {meth : Method} {c : Code} {D : va_G} {cA : Nat → ClassId} {A : Nat → Prop} (C : cxm RX6 cX6_source 1 (some .int) wsX6_source p s m args meth c) (hA : ∀ q, s.heap.size ≤ q → A q) (hK : va_K D vwCl (tyL cA) s) {post : Int32 → Prop} {x0 : Int32} {H : Heap} {locs : List Loc} {ls : Array Slot} (hl : lv_has ls 1 [(0, .int x0)]) (hP : va_P D vwCl (([] : va_W)) H) (hD : va_D A (([] : va_W))) (hS : va_S A s.heap H locs) (hw : wp_X6_source_0 post x0) : W p l e rm_X6_source s m args below meth c H locs 0 0 (MQ below (q_X6_source D cA A post) args s 0 0 A) (F0 m 0 ls []) := by
  obtain ⟨hx, hb, hr, hts, hown, hlocks, hml⟩ := id C
  unfold wp_X6_source_0 at hw
  refine lv_iload_n hx hb dX6_source_0 rfl (lv_at hl 0 rfl) ?_
  refine lv_sipush (v := 255) hx hb dX6_source_1 (by decide) ?_
  refine lv_iand hx hb dX6_source_4 ?_
  exact W.iret (v := (x0 &&& 255)) hx hb hr (fun t ht hW => ⟨⟨(x0 &&& 255), (), rfl, hw, by rw [ht]; exact hP, va_K.moved hW.alike hK, hD⟩, hS.F ht⟩) hS.2.2 dX6_source_5
set_option maxHeartbeats 4000000 in
set_option maxRecDepth 100000 in
theorem c_X6_source (l : Launch) (D : va_G) (cA : Nat → ClassId) (sz : Nat) (x0 : Int32) (post : Int32 → Prop) (hw : wp_X6_source x0 post) : Met l yX6_source wsX6_source rm_X6_source (cPre D cA sz [.int x0] (([] : va_W))) (q_X6_source D cA (va_A (([] : va_W)) sz) post) 0 0 (va_A (([] : va_W)) sz) := by
  refine Met.ofW (cc := cX6_source) (maxL := 1) (ret := (some .int)) (by decide) rfl ?_
  intro p e s m args below meth c s₁ B hml hv
  obtain ⟨rfl, hsz, hP, hK, hD0⟩ := hv
  have hown : s.vm.findClass RX6 = some m.cls := findClass_of_methodNamed B.named
  subst hsz
  have hD := hD0.self (sz := s.heap.size)
  have hl := lv_entry ([.int x0]) (n := 1) (Nat.le_of_ble_eq_true rfl)
  rw [lg_entry_eq]
  exact k_X6_source_0 ⟨B.exec, B.bytes, B.returns, atoms_spec (ws := wsX6_source) B.pre, hown, B.notSynchronized, hml⟩ (fun q h => Or.inr h) hK hl hP hD va_S.rf hw
/-! X6_message: message(I)I -/
abbrev rm_X6_message : Room := { frames := 0, cells := 0, slots := 0, locals := 0 }
abbrev q_X6_message (D : va_G) (cA : Nat → ClassId) (A : Nat → Prop) (post : Int32 → Prop) : Array Value → State → Outcome → State → Prop := va_Qi (fun (r : Int32) (u : Unit) => post r) (cOut D cA A (fun (u : Unit) => ([] : va_W))) A
set_option maxHeartbeats 4000000 in
set_option maxRecDepth 100000 in
theorem k_X6_message_0 {p : Program} {l : Launch} {e : Env} {s : State} {m : MethodId} {args : Array Value} {below : List Frame} {meth : Method} {c : Code} {D : va_G} {cA : Nat → ClassId} {A : Nat → Prop} (C : cxm RX6 cX6_message 1 (some .int) wsX6_message p s m args meth c) (hA : ∀ q, s.heap.size ≤ q → A q) (hK : va_K D vwCl (tyL cA) s) {post : Int32 → Prop} {x0 : Int32} {H : Heap} {locs : List Loc} {ls : Array Slot} (hl : lv_has ls 1 [(0, .int x0)]) (hP : va_P D vwCl (([] : va_W)) H) (hD : va_D A (([] : va_W))) (hS : va_S A s.heap H locs) (hw : wp_X6_message_0 post x0) : W p l e rm_X6_message s m args below meth c H locs 0 0 (MQ below (q_X6_message D cA A post) args s 0 0 A) (F0 m 0 ls []) := by
  obtain ⟨hx, hb, hr, hts, hown, hlocks, hml⟩ := id C
  unfold wp_X6_message_0 at hw
  refine lv_iload_n hx hb dX6_message_0 rfl (lv_at hl 0 rfl) ?_
  refine lv_bipush (v := 8) hx hb dX6_message_1 (by decide) ?_
  refine lv_iushr hx hb dX6_message_3 rfl ?_
  refine lv_bipush (v := 15) hx hb dX6_message_4 (by decide) ?_
  refine lv_iand hx hb dX6_message_6 ?_
  exact W.iret (v := (((x0.toUInt32 >>> ((8 : Int32).toUInt32 &&& Int32.toUInt32 31)).toInt32) &&& 15)) hx hb hr (fun t ht hW => ⟨⟨(((x0.toUInt32 >>> ((8 : Int32).toUInt32 &&& Int32.toUInt32 31)).toInt32) &&& 15), (), rfl, hw, by rw [ht]; exact hP, va_K.moved hW.alike hK, hD⟩, hS.F ht⟩) hS.2.2 dX6_message_7
set_option maxHeartbeats 4000000 in
set_option maxRecDepth 100000 in
theorem c_X6_message (l : Launch) (D : va_G) (cA : Nat → ClassId) (sz : Nat) (x0 : Int32) (post : Int32 → Prop) (hw : wp_X6_message x0 post) : Met l yX6_message wsX6_message rm_X6_message (cPre D cA sz [.int x0] (([] : va_W))) (q_X6_message D cA (va_A (([] : va_W)) sz) post) 0 0 (va_A (([] : va_W)) sz) := by
  refine Met.ofW (cc := cX6_message) (maxL := 1) (ret := (some .int)) (by decide) rfl ?_
  intro p e s m args below meth c s₁ B hml hv
  obtain ⟨rfl, hsz, hP, hK, hD0⟩ := hv
  have hown : s.vm.findClass RX6 = some m.cls := findClass_of_methodNamed B.named
  subst hsz
  have hD := hD0.self (sz := s.heap.size)
  have hl := lv_entry ([.int x0]) (n := 1) (Nat.le_of_ble_eq_true rfl)
  rw [lg_entry_eq]
  exact k_X6_message_0 ⟨B.exec, B.bytes, B.returns, atoms_spec (ws := wsX6_message) B.pre, hown, B.notSynchronized, hml⟩ (fun q h => Or.inr h) hK hl hP hD va_S.rf hw
/-! X6_doubled: doubled(I)I -/
abbrev rm_X6_doubled : Room := { frames := 0, cells := 0, slots := 0, locals := 0 }
abbrev q_X6_doubled (D : va_G) (cA : Nat → ClassId) (A : Nat → Prop) (post : Int32 → Prop) : Array Value → State → Outcome → State → Prop := va_Qi (fun (r : Int32) (u : Unit) => post r) (cOut D cA A (fun (u : Unit) => ([] : va_W))) A
set_option maxHeartbeats 4000000 in
set_option maxRecDepth 100000 in
theorem k_X6_doubled_0 {p : Program} {l : Launch} {e : Env} {s : State} {m : MethodId} {args : Array Value} {below : List Frame} {meth : Method} {c : Code} {D : va_G} {cA : Nat → ClassId} {A : Nat → Prop} (C : cxm RX6 cX6_doubled 1 (some .int) wsX6_doubled p s m args meth c) (hA : ∀ q, s.heap.size ≤ q → A q) (hK : va_K D vwCl (tyL cA) s) {post : Int32 → Prop} {x0 : Int32} {H : Heap} {locs : List Loc} {ls : Array Slot} (hl : lv_has ls 1 [(0, .int x0)]) (hP : va_P D vwCl (([] : va_W)) H) (hD : va_D A (([] : va_W))) (hS : va_S A s.heap H locs) (hw : wp_X6_doubled_0 post x0) : W p l e rm_X6_doubled s m args below meth c H locs 0 0 (MQ below (q_X6_doubled D cA A post) args s 0 0 A) (F0 m 0 ls []) := by
  obtain ⟨hx, hb, hr, hts, hown, hlocks, hml⟩ := id C
  unfold wp_X6_doubled_0 at hw
  refine lv_iload_n hx hb dX6_doubled_0 rfl (lv_at hl 0 rfl) ?_
  refine lv_bipush (v := 12) hx hb dX6_doubled_1 (by decide) ?_
  refine lv_iushr hx hb dX6_doubled_3 rfl ?_
  refine lv_iconst (v := 1) hx hb dX6_doubled_4 (by decide) ?_
  refine lv_iand hx hb dX6_doubled_5 ?_
  exact W.iret (v := (((x0.toUInt32 >>> ((12 : Int32).toUInt32 &&& Int32.toUInt32 31)).toInt32) &&& 1)) hx hb hr (fun t ht hW => ⟨⟨(((x0.toUInt32 >>> ((12 : Int32).toUInt32 &&& Int32.toUInt32 31)).toInt32) &&& 1), (), rfl, hw, by rw [ht]; exact hP, va_K.moved hW.alike hK, hD⟩, hS.F ht⟩) hS.2.2 dX6_doubled_6
set_option maxHeartbeats 4000000 in
set_option maxRecDepth 100000 in
theorem c_X6_doubled (l : Launch) (D : va_G) (cA : Nat → ClassId) (sz : Nat) (x0 : Int32) (post : Int32 → Prop) (hw : wp_X6_doubled x0 post) : Met l yX6_doubled wsX6_doubled rm_X6_doubled (cPre D cA sz [.int x0] (([] : va_W))) (q_X6_doubled D cA (va_A (([] : va_W)) sz) post) 0 0 (va_A (([] : va_W)) sz) := by
  refine Met.ofW (cc := cX6_doubled) (maxL := 1) (ret := (some .int)) (by decide) rfl ?_
  intro p e s m args below meth c s₁ B hml hv
  obtain ⟨rfl, hsz, hP, hK, hD0⟩ := hv
  have hown : s.vm.findClass RX6 = some m.cls := findClass_of_methodNamed B.named
  subst hsz
  have hD := hD0.self (sz := s.heap.size)
  have hl := lv_entry ([.int x0]) (n := 1) (Nat.le_of_ble_eq_true rfl)
  rw [lg_entry_eq]
  exact k_X6_doubled_0 ⟨B.exec, B.bytes, B.returns, atoms_spec (ws := wsX6_doubled) B.pre, hown, B.notSynchronized, hml⟩ (fun q h => Or.inr h) hK hl hP hD va_S.rf hw
/-! X7_isWithin: isWithin(III)Z -/
abbrev rm_X7_isWithin : Room := { frames := 0, cells := 0, slots := 0, locals := 0 }
abbrev q_X7_isWithin (D : va_G) (cA : Nat → ClassId) (A : Nat → Prop) (post : Int32 → Prop) : Array Value → State → Outcome → State → Prop := va_Qi (fun (r : Int32) (u : Unit) => post r) (cOut D cA A (fun (u : Unit) => ([] : va_W))) A
set_option maxHeartbeats 4000000 in
set_option maxRecDepth 100000 in
theorem k_X7_isWithin_14 {p : Program} {l : Launch} {e : Env} {s : State} {m : MethodId} {args : Array Value} {below : List Frame} {meth : Method} {c : Code} {D : va_G} {cA : Nat → ClassId} {A : Nat → Prop} (C : cxm RX7 cX7_isWithin 3 (some .boolean) wsX7_isWithin p s m args meth c) (hA : ∀ q, s.heap.size ≤ q → A q) (hK : va_K D vwCl (tyL cA) s) {post : Int32 → Prop} {H : Heap} {locs : List Loc} {ls : Array Slot} (hl : lv_has ls 3 []) (hP : va_P D vwCl (([] : va_W)) H) (hD : va_D A (([] : va_W))) (hS : va_S A s.heap H locs) (hw : wp_X7_isWithin_14 post) : W p l e rm_X7_isWithin s m args below meth c H locs 0 0 (MQ below (q_X7_isWithin D cA A post) args s 0 0 A) (F0 m 14 ls []) := by
  obtain ⟨hx, hb, hr, hts, hown, hlocks, hml⟩ := id C
  unfold wp_X7_isWithin_14 at hw
  refine lv_iconst (v := 0) hx hb dX7_isWithin_14 (by decide) ?_
  exact W.zret (v := 0) hx hb hr rfl (fun t ht hW => ⟨⟨0, (), rfl, hw, by rw [ht]; exact hP, va_K.moved hW.alike hK, hD⟩, hS.F ht⟩) hS.2.2 dX7_isWithin_15
set_option maxHeartbeats 4000000 in
set_option maxRecDepth 100000 in
theorem k_X7_isWithin_0 {p : Program} {l : Launch} {e : Env} {s : State} {m : MethodId} {args : Array Value} {below : List Frame} {meth : Method} {c : Code} {D : va_G} {cA : Nat → ClassId} {A : Nat → Prop} (C : cxm RX7 cX7_isWithin 3 (some .boolean) wsX7_isWithin p s m args meth c) (hA : ∀ q, s.heap.size ≤ q → A q) (hK : va_K D vwCl (tyL cA) s) {post : Int32 → Prop} {x0 : Int32} {x1 : Int32} {x2 : Int32} {H : Heap} {locs : List Loc} {ls : Array Slot} (hl : lv_has ls 3 [(0, .int x0), (1, .int x1), (2, .int x2)]) (hP : va_P D vwCl (([] : va_W)) H) (hD : va_D A (([] : va_W))) (hS : va_S A s.heap H locs) (hw : wp_X7_isWithin_0 post x0 x1 x2) : W p l e rm_X7_isWithin s m args below meth c H locs 0 0 (MQ below (q_X7_isWithin D cA A post) args s 0 0 A) (F0 m 0 ls []) := by
  obtain ⟨hx, hb, hr, hts, hown, hlocks, hml⟩ := id C
  unfold wp_X7_isWithin_0 at hw
  refine lv_iload_n hx hb dX7_isWithin_0 rfl (lv_at hl 0 rfl) ?_
  refine lv_iload_n hx hb dX7_isWithin_1 rfl (lv_at hl 1 rfl) ?_
  refine lv_icmp_lt (tgt := 14) hx hb dX7_isWithin_2 (by decide) (fun hc => ?_) (fun hc => ?_)
  · have hw := hw.1 hc
    exact k_X7_isWithin_14 C hA hK (lv_sub hl [] rfl) hP hD hS hw
  · have hw := hw.2 hc
    refine lv_iload_n hx hb dX7_isWithin_5 rfl (lv_at hl 0 rfl) ?_
    refine lv_iload_n hx hb dX7_isWithin_6 rfl (lv_at hl 2 rfl) ?_
    refine lv_icmp_gt (tgt := 14) hx hb dX7_isWithin_7 (by decide) (fun hc => ?_) (fun hc => ?_)
    · have hw := hw.1 hc
      exact k_X7_isWithin_14 C hA hK (lv_sub hl [] rfl) hP hD hS hw
    · have hw := hw.2 hc
      refine lv_iconst (v := 1) hx hb dX7_isWithin_10 (by decide) ?_
      refine lv_goto (tgt := 15) hx hb dX7_isWithin_11 (by decide) ?_
      exact W.zret (v := 1) hx hb hr rfl (fun t ht hW => ⟨⟨1, (), rfl, hw, by rw [ht]; exact hP, va_K.moved hW.alike hK, hD⟩, hS.F ht⟩) hS.2.2 dX7_isWithin_15
set_option maxHeartbeats 4000000 in
set_option maxRecDepth 100000 in
theorem c_X7_isWithin (l : Launch) (D : va_G) (cA : Nat → ClassId) (sz : Nat) (x0 : Int32) (x1 : Int32) (x2 : Int32) (post : Int32 → Prop) (hw : wp_X7_isWithin x0 x1 x2 post) : Met l yX7_isWithin wsX7_isWithin rm_X7_isWithin (cPre D cA sz [.int x0, .int x1, .int x2] (([] : va_W))) (q_X7_isWithin D cA (va_A (([] : va_W)) sz) post) 0 0 (va_A (([] : va_W)) sz) := by
  refine Met.ofW (cc := cX7_isWithin) (maxL := 3) (ret := (some .boolean)) (by decide) rfl ?_
  intro p e s m args below meth c s₁ B hml hv
  obtain ⟨rfl, hsz, hP, hK, hD0⟩ := hv
  have hown : s.vm.findClass RX7 = some m.cls := findClass_of_methodNamed B.named
  subst hsz
  have hD := hD0.self (sz := s.heap.size)
  have hl := lv_entry ([.int x0, .int x1, .int x2]) (n := 3) (Nat.le_of_ble_eq_true rfl)
  rw [lg_entry_eq]
  exact k_X7_isWithin_0 ⟨B.exec, B.bytes, B.returns, atoms_spec (ws := wsX7_isWithin) B.pre, hown, B.notSynchronized, hml⟩ (fun q h => Or.inr h) hK hl hP hD va_S.rf hw
/-! X7_isValue: isValue(I)Z -/
abbrev rm_X7_isValue : Room := { frames := 0, cells := 0, slots := 0, locals := 0 }
abbrev q_X7_isValue (D : va_G) (cA : Nat → ClassId) (A : Nat → Prop) (post : Int32 → Prop) : Array Value → State → Outcome → State → Prop := va_Qi (fun (r : Int32) (u : Unit) => post r) (cOut D cA A (fun (u : Unit) => ([] : va_W))) A
set_option maxHeartbeats 4000000 in
set_option maxRecDepth 100000 in
theorem k_X7_isValue_14 {p : Program} {l : Launch} {e : Env} {s : State} {m : MethodId} {args : Array Value} {below : List Frame} {meth : Method} {c : Code} {D : va_G} {cA : Nat → ClassId} {A : Nat → Prop} (C : cxm RX7 cX7_isValue 1 (some .boolean) wsX7_isValue p s m args meth c) (hA : ∀ q, s.heap.size ≤ q → A q) (hK : va_K D vwCl (tyL cA) s) {post : Int32 → Prop} {H : Heap} {locs : List Loc} {ls : Array Slot} (hl : lv_has ls 1 []) (hP : va_P D vwCl (([] : va_W)) H) (hD : va_D A (([] : va_W))) (hS : va_S A s.heap H locs) (hw : wp_X7_isValue_14 post) : W p l e rm_X7_isValue s m args below meth c H locs 0 0 (MQ below (q_X7_isValue D cA A post) args s 0 0 A) (F0 m 14 ls []) := by
  obtain ⟨hx, hb, hr, hts, hown, hlocks, hml⟩ := id C
  unfold wp_X7_isValue_14 at hw
  refine lv_iconst (v := 0) hx hb dX7_isValue_14 (by decide) ?_
  exact W.zret (v := 0) hx hb hr rfl (fun t ht hW => ⟨⟨0, (), rfl, hw, by rw [ht]; exact hP, va_K.moved hW.alike hK, hD⟩, hS.F ht⟩) hS.2.2 dX7_isValue_15
set_option maxHeartbeats 4000000 in
set_option maxRecDepth 100000 in
theorem k_X7_isValue_0 {p : Program} {l : Launch} {e : Env} {s : State} {m : MethodId} {args : Array Value} {below : List Frame} {meth : Method} {c : Code} {D : va_G} {cA : Nat → ClassId} {A : Nat → Prop} (C : cxm RX7 cX7_isValue 1 (some .boolean) wsX7_isValue p s m args meth c) (hA : ∀ q, s.heap.size ≤ q → A q) (hK : va_K D vwCl (tyL cA) s) {post : Int32 → Prop} {x0 : Int32} {H : Heap} {locs : List Loc} {ls : Array Slot} (hl : lv_has ls 1 [(0, .int x0)]) (hP : va_P D vwCl (([] : va_W)) H) (hD : va_D A (([] : va_W))) (hS : va_S A s.heap H locs) (hw : wp_X7_isValue_0 post x0) : W p l e rm_X7_isValue s m args below meth c H locs 0 0 (MQ below (q_X7_isValue D cA A post) args s 0 0 A) (F0 m 0 ls []) := by
  obtain ⟨hx, hb, hr, hts, hown, hlocks, hml⟩ := id C
  unfold wp_X7_isValue_0 at hw
  refine lv_iload_n hx hb dX7_isValue_0 rfl (lv_at hl 0 rfl) ?_
  refine lv_if_lt (tgt := 14) hx hb dX7_isValue_1 (by decide) (fun hc => ?_) (fun hc => ?_)
  · have hw := hw.1 hc
    exact k_X7_isValue_14 C hA hK (lv_sub hl [] rfl) hP hD hS hw
  · have hw := hw.2 hc
    refine lv_iload_n hx hb dX7_isValue_4 rfl (lv_at hl 0 rfl) ?_
    refine lv_bipush (v := 15) hx hb dX7_isValue_5 (by decide) ?_
    refine lv_icmp_gt (tgt := 14) hx hb dX7_isValue_7 (by decide) (fun hc => ?_) (fun hc => ?_)
    · have hw := hw.1 hc
      exact k_X7_isValue_14 C hA hK (lv_sub hl [] rfl) hP hD hS hw
    · have hw := hw.2 hc
      refine lv_iconst (v := 1) hx hb dX7_isValue_10 (by decide) ?_
      refine lv_goto (tgt := 15) hx hb dX7_isValue_11 (by decide) ?_
      exact W.zret (v := 1) hx hb hr rfl (fun t ht hW => ⟨⟨1, (), rfl, hw, by rw [ht]; exact hP, va_K.moved hW.alike hK, hD⟩, hS.F ht⟩) hS.2.2 dX7_isValue_15
set_option maxHeartbeats 4000000 in
set_option maxRecDepth 100000 in
theorem c_X7_isValue (l : Launch) (D : va_G) (cA : Nat → ClassId) (sz : Nat) (x0 : Int32) (post : Int32 → Prop) (hw : wp_X7_isValue x0 post) : Met l yX7_isValue wsX7_isValue rm_X7_isValue (cPre D cA sz [.int x0] (([] : va_W))) (q_X7_isValue D cA (va_A (([] : va_W)) sz) post) 0 0 (va_A (([] : va_W)) sz) := by
  refine Met.ofW (cc := cX7_isValue) (maxL := 1) (ret := (some .boolean)) (by decide) rfl ?_
  intro p e s m args below meth c s₁ B hml hv
  obtain ⟨rfl, hsz, hP, hK, hD0⟩ := hv
  have hown : s.vm.findClass RX7 = some m.cls := findClass_of_methodNamed B.named
  subst hsz
  have hD := hD0.self (sz := s.heap.size)
  have hl := lv_entry ([.int x0]) (n := 1) (Nat.le_of_ble_eq_true rfl)
  rw [lg_entry_eq]
  exact k_X7_isValue_0 ⟨B.exec, B.bytes, B.returns, atoms_spec (ws := wsX7_isValue) B.pre, hown, B.notSynchronized, hml⟩ (fun q h => Or.inr h) hK hl hP hD va_S.rf hw
/-! X8_in: in(III)Z -/
abbrev rm_X8_in : Room := { frames := 0, cells := 0, slots := 0, locals := 0 }
abbrev q_X8_in (D : va_G) (cA : Nat → ClassId) (A : Nat → Prop) (post : Int32 → Prop) : Array Value → State → Outcome → State → Prop := va_Qi (fun (r : Int32) (u : Unit) => post r) (cOut D cA A (fun (u : Unit) => ([] : va_W))) A
set_option maxHeartbeats 4000000 in
set_option maxRecDepth 100000 in
theorem k_X8_in_14 {p : Program} {l : Launch} {e : Env} {s : State} {m : MethodId} {args : Array Value} {below : List Frame} {meth : Method} {c : Code} {D : va_G} {cA : Nat → ClassId} {A : Nat → Prop} (C : cxm RX8 cX8_in 3 (some .boolean) wsX8_in p s m args meth c) (hA : ∀ q, s.heap.size ≤ q → A q) (hK : va_K D vwCl (tyL cA) s) {post : Int32 → Prop} {H : Heap} {locs : List Loc} {ls : Array Slot} (hl : lv_has ls 3 []) (hP : va_P D vwCl (([] : va_W)) H) (hD : va_D A (([] : va_W))) (hS : va_S A s.heap H locs) (hw : wp_X8_in_14 post) : W p l e rm_X8_in s m args below meth c H locs 0 0 (MQ below (q_X8_in D cA A post) args s 0 0 A) (F0 m 14 ls []) := by
  obtain ⟨hx, hb, hr, hts, hown, hlocks, hml⟩ := id C
  unfold wp_X8_in_14 at hw
  refine lv_iconst (v := 0) hx hb dX8_in_14 (by decide) ?_
  exact W.zret (v := 0) hx hb hr rfl (fun t ht hW => ⟨⟨0, (), rfl, hw, by rw [ht]; exact hP, va_K.moved hW.alike hK, hD⟩, hS.F ht⟩) hS.2.2 dX8_in_15
set_option maxHeartbeats 4000000 in
set_option maxRecDepth 100000 in
theorem k_X8_in_0 {p : Program} {l : Launch} {e : Env} {s : State} {m : MethodId} {args : Array Value} {below : List Frame} {meth : Method} {c : Code} {D : va_G} {cA : Nat → ClassId} {A : Nat → Prop} (C : cxm RX8 cX8_in 3 (some .boolean) wsX8_in p s m args meth c) (hA : ∀ q, s.heap.size ≤ q → A q) (hK : va_K D vwCl (tyL cA) s) {post : Int32 → Prop} {x0 : Int32} {x1 : Int32} {x2 : Int32} {H : Heap} {locs : List Loc} {ls : Array Slot} (hl : lv_has ls 3 [(0, .int x0), (1, .int x1), (2, .int x2)]) (hP : va_P D vwCl (([] : va_W)) H) (hD : va_D A (([] : va_W))) (hS : va_S A s.heap H locs) (hw : wp_X8_in_0 post x0 x1 x2) : W p l e rm_X8_in s m args below meth c H locs 0 0 (MQ below (q_X8_in D cA A post) args s 0 0 A) (F0 m 0 ls []) := by
  obtain ⟨hx, hb, hr, hts, hown, hlocks, hml⟩ := id C
  unfold wp_X8_in_0 at hw
  refine lv_iload_n hx hb dX8_in_0 rfl (lv_at hl 0 rfl) ?_
  refine lv_iload_n hx hb dX8_in_1 rfl (lv_at hl 1 rfl) ?_
  refine lv_icmp_lt (tgt := 14) hx hb dX8_in_2 (by decide) (fun hc => ?_) (fun hc => ?_)
  · have hw := hw.1 hc
    exact k_X8_in_14 C hA hK (lv_sub hl [] rfl) hP hD hS hw
  · have hw := hw.2 hc
    refine lv_iload_n hx hb dX8_in_5 rfl (lv_at hl 0 rfl) ?_
    refine lv_iload_n hx hb dX8_in_6 rfl (lv_at hl 2 rfl) ?_
    refine lv_icmp_gt (tgt := 14) hx hb dX8_in_7 (by decide) (fun hc => ?_) (fun hc => ?_)
    · have hw := hw.1 hc
      exact k_X8_in_14 C hA hK (lv_sub hl [] rfl) hP hD hS hw
    · have hw := hw.2 hc
      refine lv_iconst (v := 1) hx hb dX8_in_10 (by decide) ?_
      refine lv_goto (tgt := 15) hx hb dX8_in_11 (by decide) ?_
      exact W.zret (v := 1) hx hb hr rfl (fun t ht hW => ⟨⟨1, (), rfl, hw, by rw [ht]; exact hP, va_K.moved hW.alike hK, hD⟩, hS.F ht⟩) hS.2.2 dX8_in_15
set_option maxHeartbeats 4000000 in
set_option maxRecDepth 100000 in
theorem c_X8_in (l : Launch) (D : va_G) (cA : Nat → ClassId) (sz : Nat) (x0 : Int32) (x1 : Int32) (x2 : Int32) (post : Int32 → Prop) (hw : wp_X8_in x0 x1 x2 post) : Met l yX8_in wsX8_in rm_X8_in (cPre D cA sz [.int x0, .int x1, .int x2] (([] : va_W))) (q_X8_in D cA (va_A (([] : va_W)) sz) post) 0 0 (va_A (([] : va_W)) sz) := by
  refine Met.ofW (cc := cX8_in) (maxL := 3) (ret := (some .boolean)) (by decide) rfl ?_
  intro p e s m args below meth c s₁ B hml hv
  obtain ⟨rfl, hsz, hP, hK, hD0⟩ := hv
  have hown : s.vm.findClass RX8 = some m.cls := findClass_of_methodNamed B.named
  subst hsz
  have hD := hD0.self (sz := s.heap.size)
  have hl := lv_entry ([.int x0, .int x1, .int x2]) (n := 3) (Nat.le_of_ble_eq_true rfl)
  rw [lg_entry_eq]
  exact k_X8_in_0 ⟨B.exec, B.bytes, B.returns, atoms_spec (ws := wsX8_in) B.pre, hown, B.notSynchronized, hml⟩ (fun q h => Or.inr h) hK hl hP hD va_S.rf hw
/-! X8_greatestOf: greatestOf(I)I -/
abbrev rm_X8_greatestOf : Room := { frames := 0, cells := 0, slots := 0, locals := 0 }
abbrev q_X8_greatestOf (D : va_G) (cA : Nat → ClassId) (A : Nat → Prop) (post : Int32 → Prop) : Array Value → State → Outcome → State → Prop := va_Qi (fun (r : Int32) (u : Unit) => post r) (cOut D cA A (fun (u : Unit) => ([] : va_W))) A
set_option maxHeartbeats 4000000 in
set_option maxRecDepth 100000 in
theorem k_X8_greatestOf_0 {p : Program} {l : Launch} {e : Env} {s : State} {m : MethodId} {args : Array Value} {below : List Frame} {meth : Method} {c : Code} {D : va_G} {cA : Nat → ClassId} {A : Nat → Prop} (C : cxm RX8 cX8_greatestOf 1 (some .int) wsX8_greatestOf p s m args meth c) (hA : ∀ q, s.heap.size ≤ q → A q) (hK : va_K D vwCl (tyL cA) s) {post : Int32 → Prop} {x0 : Int32} {H : Heap} {locs : List Loc} {ls : Array Slot} (hl : lv_has ls 1 [(0, .int x0)]) (hP : va_P D vwCl (([] : va_W)) H) (hD : va_D A (([] : va_W))) (hS : va_S A s.heap H locs) (hw : wp_X8_greatestOf_0 post x0) : W p l e rm_X8_greatestOf s m args below meth c H locs 0 0 (MQ below (q_X8_greatestOf D cA A post) args s 0 0 A) (F0 m 0 ls []) := by
  obtain ⟨hx, hb, hr, hts, hown, hlocks, hml⟩ := id C
  unfold wp_X8_greatestOf_0 at hw
  refine lv_iload_n hx hb dX8_greatestOf_0 rfl (lv_at hl 0 rfl) ?_
  by_cases hc0 : x0 = 0
  · have hw := hw.1 hc0
    refine lv_tableIn (off := 39) (tgt := 40) hx hb dX8_greatestOf_1 (by rw [hc0]; decide) (by rw [hc0]; decide) (by rw [hc0]; rfl) (by decide) ?_
    refine lv_bipush (v := 9) hx hb dX8_greatestOf_40 (by decide) ?_
    exact W.iret (v := 9) hx hb hr (fun t ht hW => ⟨⟨9, (), rfl, hw, by rw [ht]; exact hP, va_K.moved hW.alike hK, hD⟩, hS.F ht⟩) hS.2.2 dX8_greatestOf_42
  have hw := hw.2 hc0
  by_cases hc1 : x0 = 1
  · have hw := hw.1 hc1
    refine lv_tableIn (off := 42) (tgt := 43) hx hb dX8_greatestOf_1 (by rw [hc1]; decide) (by rw [hc1]; decide) (by rw [hc1]; rfl) (by decide) ?_
    refine lv_iconst (v := 4) hx hb dX8_greatestOf_43 (by decide) ?_
    exact W.iret (v := 4) hx hb hr (fun t ht hW => ⟨⟨4, (), rfl, hw, by rw [ht]; exact hP, va_K.moved hW.alike hK, hD⟩, hS.F ht⟩) hS.2.2 dX8_greatestOf_44
  have hw := hw.2 hc1
  by_cases hc2 : x0 = 2
  · have hw := hw.1 hc2
    refine lv_tableIn (off := 44) (tgt := 45) hx hb dX8_greatestOf_1 (by rw [hc2]; decide) (by rw [hc2]; decide) (by rw [hc2]; rfl) (by decide) ?_
    refine lv_iconst (v := 1) hx hb dX8_greatestOf_45 (by decide) ?_
    exact W.iret (v := 1) hx hb hr (fun t ht hW => ⟨⟨1, (), rfl, hw, by rw [ht]; exact hP, va_K.moved hW.alike hK, hD⟩, hS.F ht⟩) hS.2.2 dX8_greatestOf_46
  have hw := hw.2 hc2
  by_cases hc3 : x0 = 3
  · have hw := hw.1 hc3
    refine lv_tableIn (off := 46) (tgt := 47) hx hb dX8_greatestOf_1 (by rw [hc3]; decide) (by rw [hc3]; decide) (by rw [hc3]; rfl) (by decide) ?_
    refine lv_bipush (v := 16) hx hb dX8_greatestOf_47 (by decide) ?_
    exact W.iret (v := 16) hx hb hr (fun t ht hW => ⟨⟨16, (), rfl, hw, by rw [ht]; exact hP, va_K.moved hW.alike hK, hD⟩, hS.F ht⟩) hS.2.2 dX8_greatestOf_49
  have hw := hw.2 hc3
  by_cases hc4 : x0 = 4
  · have hw := hw.1 hc4
    refine lv_tableIn (off := 49) (tgt := 50) hx hb dX8_greatestOf_1 (by rw [hc4]; decide) (by rw [hc4]; decide) (by rw [hc4]; rfl) (by decide) ?_
    refine lv_iconst (v := 1) hx hb dX8_greatestOf_50 (by decide) ?_
    exact W.iret (v := 1) hx hb hr (fun t ht hW => ⟨⟨1, (), rfl, hw, by rw [ht]; exact hP, va_K.moved hW.alike hK, hD⟩, hS.F ht⟩) hS.2.2 dX8_greatestOf_51
  have hw := hw.2 hc4
  by_cases hc5 : x0 = 5
  · have hw := hw.1 hc5
    refine lv_tableIn (off := 51) (tgt := 52) hx hb dX8_greatestOf_1 (by rw [hc5]; decide) (by rw [hc5]; decide) (by rw [hc5]; rfl) (by decide) ?_
    refine lv_iconst (v := 2) hx hb dX8_greatestOf_52 (by decide) ?_
    exact W.iret (v := 2) hx hb hr (fun t ht hW => ⟨⟨2, (), rfl, hw, by rw [ht]; exact hP, va_K.moved hW.alike hK, hD⟩, hS.F ht⟩) hS.2.2 dX8_greatestOf_53
  have hw := hw.2 hc5
  refine lv_tableOut (tgt := 54) hx hb dX8_greatestOf_1 (by have e0 := lv_neT hc0 (show (0 : Int32).toInt = 0 by decide); have e1 := lv_neT hc1 (show (1 : Int32).toInt = 1 by decide); have e2 := lv_neT hc2 (show (2 : Int32).toInt = 2 by decide); have e3 := lv_neT hc3 (show (3 : Int32).toInt = 3 by decide); have e4 := lv_neT hc4 (show (4 : Int32).toInt = 4 by decide); have e5 := lv_neT hc5 (show (5 : Int32).toInt = 5 by decide); omega) (by decide) ?_
  refine lv_iconst (v := (-1)) hx hb dX8_greatestOf_54 (by decide) ?_
  exact W.iret (v := (-1)) hx hb hr (fun t ht hW => ⟨⟨(-1), (), rfl, hw, by rw [ht]; exact hP, va_K.moved hW.alike hK, hD⟩, hS.F ht⟩) hS.2.2 dX8_greatestOf_55
set_option maxHeartbeats 4000000 in
set_option maxRecDepth 100000 in
theorem c_X8_greatestOf (l : Launch) (D : va_G) (cA : Nat → ClassId) (sz : Nat) (x0 : Int32) (post : Int32 → Prop) (hw : wp_X8_greatestOf x0 post) : Met l yX8_greatestOf wsX8_greatestOf rm_X8_greatestOf (cPre D cA sz [.int x0] (([] : va_W))) (q_X8_greatestOf D cA (va_A (([] : va_W)) sz) post) 0 0 (va_A (([] : va_W)) sz) := by
  refine Met.ofW (cc := cX8_greatestOf) (maxL := 1) (ret := (some .int)) (by decide) rfl ?_
  intro p e s m args below meth c s₁ B hml hv
  obtain ⟨rfl, hsz, hP, hK, hD0⟩ := hv
  have hown : s.vm.findClass RX8 = some m.cls := findClass_of_methodNamed B.named
  subst hsz
  have hD := hD0.self (sz := s.heap.size)
  have hl := lv_entry ([.int x0]) (n := 1) (Nat.le_of_ble_eq_true rfl)
  rw [lg_entry_eq]
  exact k_X8_greatestOf_0 ⟨B.exec, B.bytes, B.returns, atoms_spec (ws := wsX8_greatestOf) B.pre, hown, B.notSynchronized, hml⟩ (fun q h => Or.inr h) hK hl hP hD va_S.rf hw
/-! X8_rowOf: rowOf(I)I -/
abbrev rm_X8_rowOf : Room := { frames := 0, cells := 0, slots := 0, locals := 0 }
abbrev q_X8_rowOf (D : va_G) (cA : Nat → ClassId) (A : Nat → Prop) (post : Int32 → Prop) : Array Value → State → Outcome → State → Prop := va_Qi (fun (r : Int32) (u : Unit) => post r) (cOut D cA A (fun (u : Unit) => ([] : va_W))) A
set_option maxHeartbeats 4000000 in
set_option maxRecDepth 100000 in
theorem k_X8_rowOf_0 {p : Program} {l : Launch} {e : Env} {s : State} {m : MethodId} {args : Array Value} {below : List Frame} {meth : Method} {c : Code} {D : va_G} {cA : Nat → ClassId} {A : Nat → Prop} (C : cxm RX8 cX8_rowOf 1 (some .int) wsX8_rowOf p s m args meth c) (hA : ∀ q, s.heap.size ≤ q → A q) (hK : va_K D vwCl (tyL cA) s) {post : Int32 → Prop} {x0 : Int32} {H : Heap} {locs : List Loc} {ls : Array Slot} (hl : lv_has ls 1 [(0, .int x0)]) (hP : va_P D vwCl (([] : va_W)) H) (hD : va_D A (([] : va_W))) (hS : va_S A s.heap H locs) (hw : wp_X8_rowOf_0 post x0) : W p l e rm_X8_rowOf s m args below meth c H locs 0 0 (MQ below (q_X8_rowOf D cA A post) args s 0 0 A) (F0 m 0 ls []) := by
  obtain ⟨hx, hb, hr, hts, hown, hlocks, hml⟩ := id C
  unfold wp_X8_rowOf_0 at hw
  refine lv_bipush (v := 12) hx hb dX8_rowOf_0 (by decide) ?_
  refine lv_bipush (v := 17) hx hb dX8_rowOf_2 (by decide) ?_
  refine lv_iload_n hx hb dX8_rowOf_4 rfl (lv_at hl 0 rfl) ?_
  refine lv_imul hx hb dX8_rowOf_5 ?_
  refine lv_iadd hx hb dX8_rowOf_6 ?_
  exact W.iret (v := (12 + (17 * x0))) hx hb hr (fun t ht hW => ⟨⟨(12 + (17 * x0)), (), rfl, hw, by rw [ht]; exact hP, va_K.moved hW.alike hK, hD⟩, hS.F ht⟩) hS.2.2 dX8_rowOf_7
set_option maxHeartbeats 4000000 in
set_option maxRecDepth 100000 in
theorem c_X8_rowOf (l : Launch) (D : va_G) (cA : Nat → ClassId) (sz : Nat) (x0 : Int32) (post : Int32 → Prop) (hw : wp_X8_rowOf x0 post) : Met l yX8_rowOf wsX8_rowOf rm_X8_rowOf (cPre D cA sz [.int x0] (([] : va_W))) (q_X8_rowOf D cA (va_A (([] : va_W)) sz) post) 0 0 (va_A (([] : va_W)) sz) := by
  refine Met.ofW (cc := cX8_rowOf) (maxL := 1) (ret := (some .int)) (by decide) rfl ?_
  intro p e s m args below meth c s₁ B hml hv
  obtain ⟨rfl, hsz, hP, hK, hD0⟩ := hv
  have hown : s.vm.findClass RX8 = some m.cls := findClass_of_methodNamed B.named
  subst hsz
  have hD := hD0.self (sz := s.heap.size)
  have hl := lv_entry ([.int x0]) (n := 1) (Nat.le_of_ble_eq_true rfl)
  rw [lg_entry_eq]
  exact k_X8_rowOf_0 ⟨B.exec, B.bytes, B.returns, atoms_spec (ws := wsX8_rowOf) B.pre, hown, B.notSynchronized, hml⟩ (fun q h => Or.inr h) hK hl hP hD va_S.rf hw
/-! X8_hash: hash([B)I -/
abbrev rm_X8_hash : Room := { frames := 0, cells := 0, slots := 0, locals := 0 }
abbrev q_X8_hash (D : va_G) (cA : Nat → ClassId) (A : Nat → Prop) (a_v : Nat) (v_v : (Nat → Int32)) (post : Int32 → Prop) : Array Value → State → Outcome → State → Prop := va_Qi (fun (r : Int32) (u : Unit) => post r) (cOut D cA A (fun (u : Unit) => sh_AB cA a_v 148 v_v)) A
set_option maxHeartbeats 4000000 in
set_option maxRecDepth 100000 in
theorem b_X8_hash_5 {p : Program} {l : Launch} {e : Env} {s : State} {m : MethodId} {args : Array Value} {below : List Frame} {meth : Method} {c : Code} {D : va_G} {cA : Nat → ClassId} {A : Nat → Prop} {a_v : Nat} (C : cxm RX8 cX8_hash 3 (some .int) wsX8_hash p s m args meth c) (hA : ∀ q, s.heap.size ≤ q → A q) (hK : va_K D vwCl (tyL cA) s) {v_v : (Nat → Int32)} {post : Int32 → Prop} {x1 : Int32} {x2 : Int32} {K5 : Int32 → Int32 → Prop} (hk5 : ∀ (H : Heap) (locs : List Loc) (ls : Array Slot) (x1 : Int32) (x2 : Int32), lv_has ls 3 [(0, .ref a_v), (1, .int x1), (2, .int x2)] → va_P D vwCl (sh_AB cA a_v 148 v_v) H → va_D A (sh_AB cA a_v 148 v_v) → va_S A s.heap H locs → K5 x1 x2 → W p l e rm_X8_hash s m args below meth c H locs 0 0 (MQ below (q_X8_hash D cA A a_v v_v post) args s 0 0 A) (F0 m 5 ls [])) {H : Heap} {locs : List Loc} {ls : Array Slot} (hl : lv_has ls 3 [(0, .ref a_v), (1, .int x1), (2, .int x2)]) (hP : va_P D vwCl (sh_AB cA a_v 148 v_v) H) (hD : va_D A (sh_AB cA a_v 148 v_v)) (hS : va_S A s.heap H locs) (hw : bd_X8_hash_5 v_v post K5 x1 x2) : W p l e rm_X8_hash s m args below meth c H locs 0 0 (MQ below (q_X8_hash D cA A a_v v_v post) args s 0 0 A) (F0 m 5 ls []) := by
  obtain ⟨hx, hb, hr, hts, hown, hlocks, hml⟩ := id C
  unfold bd_X8_hash_5 at hw
  refine lv_iload_n hx hb dX8_hash_5 rfl (lv_at hl 2 rfl) ?_
  refine lv_sipush (v := 148) hx hb dX8_hash_6 (by decide) ?_
  refine lv_icmp_ge (tgt := 27) hx hb dX8_hash_9 (by decide) (fun hc => ?_) (fun hc => ?_)
  · have hw := hw.1 hc
    refine lv_iload_n hx hb dX8_hash_27 rfl (lv_at hl 1 rfl) ?_
    refine lv_iload_n hx hb dX8_hash_28 rfl (lv_at hl 1 rfl) ?_
    refine lv_bipush (v := 15) hx hb dX8_hash_29 (by decide) ?_
    refine lv_iushr hx hb dX8_hash_31 rfl ?_
    refine lv_ixor hx hb dX8_hash_32 ?_
    refine lv_sipush (v := 2047) hx hb dX8_hash_33 (by decide) ?_
    refine lv_iand hx hb dX8_hash_36 ?_
    exact W.iret (v := ((x1 ^^^ ((x1.toUInt32 >>> ((15 : Int32).toUInt32 &&& Int32.toUInt32 31)).toInt32)) &&& 2047)) hx hb hr (fun t ht hW => ⟨⟨((x1 ^^^ ((x1.toUInt32 >>> ((15 : Int32).toUInt32 &&& Int32.toUInt32 31)).toInt32)) &&& 2047), (), rfl, hw, by rw [ht]; exact hP, va_K.moved hW.alike hK, hD⟩, hS.F ht⟩) hS.2.2 dX8_hash_37
  · have hw := hw.2 hc
    refine lv_bipush (v := 31) hx hb dX8_hash_12 (by decide) ?_
    refine lv_iload_n hx hb dX8_hash_14 rfl (lv_at hl 1 rfl) ?_
    refine lv_imul hx hb dX8_hash_15 ?_
    refine lv_aload_n hx hb dX8_hash_16 rfl (lv_at hl 0 rfl) ?_
    refine lv_iload_n hx hb dX8_hash_17 rfl (lv_at hl 2 rfl) ?_
    obtain ⟨hi1, hw⟩ := hw
    refine va_bald hx hb hK hP 0 2 rfl rfl hi1 dX8_hash_18 ?_
    refine lv_iadd hx hb dX8_hash_19 ?_
    refine lv_topi (fun y2 ey2 => ?_)
    have hw := hw y2 ey2
    refine lv_istore_n (lv' := [(1, .int y2), (0, .ref a_v), (2, .int x2)]) hx hb dX8_hash_20 rfl hl (by decide) rfl (fun ls hl => ?_)
    refine lv_iinc (v := (x2 + 1)) (lv' := [(2, .int (x2 + 1)), (1, .int y2), (0, .ref a_v)]) hx hb dX8_hash_21 hl (k := 2) rfl rfl (by decide) rfl (fun ls hl => ?_)
    refine lv_goto (tgt := 5) hx hb dX8_hash_24 (by decide) ?_
    exact hk5 _ _ _ y2 (x2 + 1) (lv_sub hl [2, 1, 0] rfl) hP hD hS hw
set_option maxHeartbeats 4000000 in
set_option maxRecDepth 100000 in
theorem k_X8_hash_5 {p : Program} {l : Launch} {e : Env} {s : State} {m : MethodId} {args : Array Value} {below : List Frame} {meth : Method} {c : Code} {D : va_G} {cA : Nat → ClassId} {A : Nat → Prop} {a_v : Nat} (C : cxm RX8 cX8_hash 3 (some .int) wsX8_hash p s m args meth c) (hA : ∀ q, s.heap.size ≤ q → A q) (hK : va_K D vwCl (tyL cA) s) {v_v : (Nat → Int32)} {post : Int32 → Prop} {x1 : Int32} {x2 : Int32} {H : Heap} {locs : List Loc} {ls : Array Slot} (hl : lv_has ls 3 [(0, .ref a_v), (1, .int x1), (2, .int x2)]) (hP : va_P D vwCl (sh_AB cA a_v 148 v_v) H) (hD : va_D A (sh_AB cA a_v 148 v_v)) (hS : va_S A s.heap H locs) (hw : wp_X8_hash_5 v_v post x1 x2) : W p l e rm_X8_hash s m args below meth c H locs 0 0 (MQ below (q_X8_hash D cA A a_v v_v post) args s 0 0 A) (F0 m 5 ls []) := by
  obtain ⟨I, n, hI, hstep⟩ := hw
  have key : ∀ (n : Nat) (H : Heap) (locs : List Loc) (ls : Array Slot) (x1 : Int32) (x2 : Int32), I n x1 x2 → lv_has ls 3 [(0, .ref a_v), (1, .int x1), (2, .int x2)] → va_P D vwCl (sh_AB cA a_v 148 v_v) H → va_D A (sh_AB cA a_v 148 v_v) → va_S A s.heap H locs → W p l e rm_X8_hash s m args below meth c H locs 0 0 (MQ below (q_X8_hash D cA A a_v v_v post) args s 0 0 A) (F0 m 5 ls []) := by
    intro n
    induction n using Nat.strongRecOn with
    | _ n ih =>
      intro H locs ls x1 x2 hI hl hP hD hS
      exact b_X8_hash_5 C hA hK (fun H locs ls x1 x2 hl hP hD hS hw => by obtain ⟨n', hn, hI⟩ := hw; exact ih n' hn H locs ls x1 x2 hI hl hP hD hS) hl hP hD hS (hstep n x1 x2 hI)
  exact key n H locs ls x1 x2 hI hl hP hD hS
set_option maxHeartbeats 4000000 in
set_option maxRecDepth 100000 in
theorem k_X8_hash_0 {p : Program} {l : Launch} {e : Env} {s : State} {m : MethodId} {args : Array Value} {below : List Frame} {meth : Method} {c : Code} {D : va_G} {cA : Nat → ClassId} {A : Nat → Prop} {a_v : Nat} (C : cxm RX8 cX8_hash 3 (some .int) wsX8_hash p s m args meth c) (hA : ∀ q, s.heap.size ≤ q → A q) (hK : va_K D vwCl (tyL cA) s) {v_v : (Nat → Int32)} {post : Int32 → Prop} {H : Heap} {locs : List Loc} {ls : Array Slot} (hl : lv_has ls 3 [(0, .ref a_v)]) (hP : va_P D vwCl (sh_AB cA a_v 148 v_v) H) (hD : va_D A (sh_AB cA a_v 148 v_v)) (hS : va_S A s.heap H locs) (hw : wp_X8_hash_0 v_v post) : W p l e rm_X8_hash s m args below meth c H locs 0 0 (MQ below (q_X8_hash D cA A a_v v_v post) args s 0 0 A) (F0 m 0 ls []) := by
  obtain ⟨hx, hb, hr, hts, hown, hlocks, hml⟩ := id C
  unfold wp_X8_hash_0 at hw
  refine lv_bipush (v := 17) hx hb dX8_hash_0 (by decide) ?_
  refine lv_istore_n (lv' := [(1, .int 17), (0, .ref a_v)]) hx hb dX8_hash_2 rfl hl (by decide) rfl (fun ls hl => ?_)
  refine lv_iconst (v := 0) hx hb dX8_hash_3 (by decide) ?_
  refine lv_istore_n (lv' := [(2, .int 0), (1, .int 17), (0, .ref a_v)]) hx hb dX8_hash_4 rfl hl (by decide) rfl (fun ls hl => ?_)
  exact k_X8_hash_5 C hA hK (lv_sub hl [2, 1, 0] rfl) hP hD hS hw
set_option maxHeartbeats 4000000 in
set_option maxRecDepth 100000 in
theorem c_X8_hash (l : Launch) (D : va_G) (cA : Nat → ClassId) (a_v : Nat) (sz : Nat) (v_v : (Nat → Int32)) (post : Int32 → Prop) (hw : wp_X8_hash v_v post) : Met l yX8_hash wsX8_hash rm_X8_hash (cPre D cA sz [.ref a_v] (sh_AB cA a_v 148 v_v)) (q_X8_hash D cA (va_A (sh_AB cA a_v 148 v_v) sz) a_v v_v post) 0 0 (va_A (sh_AB cA a_v 148 v_v) sz) := by
  refine Met.ofW (cc := cX8_hash) (maxL := 3) (ret := (some .int)) (by decide) rfl ?_
  intro p e s m args below meth c s₁ B hml hv
  obtain ⟨rfl, hsz, hP, hK, hD0⟩ := hv
  have hown : s.vm.findClass RX8 = some m.cls := findClass_of_methodNamed B.named
  subst hsz
  have hD := hD0.self (sz := s.heap.size)
  have hl := lv_entry ([.ref a_v]) (n := 3) (Nat.le_of_ble_eq_true rfl)
  rw [lg_entry_eq]
  exact k_X8_hash_0 ⟨B.exec, B.bytes, B.returns, atoms_spec (ws := wsX8_hash) B.pre, hown, B.notSynchronized, hml⟩ (fun q h => Or.inr h) hK hl hP hD va_S.rf hw
