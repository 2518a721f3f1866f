/-! X4_begin: begin(LOrderTests$Graph;I)V -/
theorem fi_X4_begin_X4 : ∀ w ∈ wsX40, w ∈ wsX4_begin := by decide +kernel
theorem fl_X4_begin_1 : ((.fieldLink RX4 15 "OrderTests$State" "head" "J") : Cond) ∈ wsX4_begin := by decide +kernel
theorem fi_X4_begin_X1 : ∀ w ∈ wsX10, w ∈ wsX4_begin := by decide +kernel
theorem fl_X4_begin_3 : ((.fieldLink RX4 19 "OrderTests$Graph" "vertices" "I") : Cond) ∈ wsX4_begin := by decide +kernel
theorem fl_X4_begin_4 : ((.fieldLink RX4 29 "OrderTests$State" "lengths" "J") : Cond) ∈ wsX4_begin := by decide +kernel
theorem fl_X4_begin_5 : ((.fieldLink RX4 11 "OrderTests$State" "rows" "[J") : Cond) ∈ wsX4_begin := by decide +kernel
theorem fl_X4_begin_6 : ((.fieldLink RX4 25 "OrderTests$Graph" "begins" "[I") : Cond) ∈ wsX4_begin := by decide +kernel
abbrev rm_X4_begin : Room := { frames := 1, cells := 0, slots := 0, locals := 24 }
abbrev q_X4_begin (D : va_G) (cA : Nat → ClassId) (A : Nat → Prop) (a_t : Nat → Nat) (a_g : Nat → Nat) (g_vertices : Int32) (g_arcs : Int32) (g_firsts : Int32) (g_begins : (Nat → Int32)) (g_arcFrom : (Nat → Int32)) (g_arcTo : (Nat → Int32)) (g_weights : (Nat → Int32)) (g_firstTo : (Nat → Int32)) (g_firstValue : (Nat → Int32)) (post : Int64 → Int64 → (Nat → Int64) → Prop) : Array Value → State → Outcome → State → Prop := va_Qv (fun (u : Int64 × Int64 × (Nat → Int64)) => post u.1 u.2.1 u.2.2) (cOut D cA A (fun (u : Int64 × Int64 × (Nat → Int64)) => sh_X4 cA a_t u.1 u.2.1 u.2.2 ++ sh_X1 cA a_g g_vertices g_arcs g_firsts g_begins g_arcFrom g_arcTo g_weights g_firstTo g_firstValue)) A
set_option maxHeartbeats 4000000 in
set_option maxRecDepth 100000 in
theorem b_X4_begin_11 {p : Program} {l : Launch} {e : Env} {s : State} {m : MethodId} {args : Array Value} {below : List Frame} {meth : Method} {c : Code} {D : va_G} {cA : Nat → ClassId} {A : Nat → Prop} {a_t : Nat → Nat} {a_g : Nat → Nat} (C : cxm RX4 cX4_begin 4 none wsX4_begin p s m args meth c) (hA : ∀ q, s.heap.size ≤ q → A q) (hK : va_K D vwCl (tyL cA) s) {g_vertices : Int32} {g_arcs : Int32} {g_firsts : Int32} {g_begins : (Nat → Int32)} {g_arcFrom : (Nat → Int32)} {g_arcTo : (Nat → Int32)} {g_weights : (Nat → Int32)} {g_firstTo : (Nat → Int32)} {g_firstValue : (Nat → Int32)} {post : Int64 → Int64 → (Nat → Int64) → Prop} {x3 : Int32} {t_head : Int64} {t_lengths : Int64} {t_rows : (Nat → Int64)} {K11 : Int32 → Int64 → Prop} (hk11 : ∀ (H : Heap) (locs : List Loc) (ls : Array Slot) (x3 : Int32) (t_head : Int64), lv_has ls 4 [(0, .ref (a_t 0)), (1, .ref (a_g 0)), (3, .int x3)] → va_P D vwCl (sh_X4 cA a_t t_head t_lengths t_rows ++ sh_X1 cA a_g g_vertices g_arcs g_firsts g_begins g_arcFrom g_arcTo g_weights g_firstTo g_firstValue) H → va_D A (sh_X4 cA a_t t_head t_lengths t_rows ++ sh_X1 cA a_g g_vertices g_arcs g_firsts g_begins g_arcFrom g_arcTo g_weights g_firstTo g_firstValue) → va_S A s.heap H locs → K11 x3 t_head → W p l e rm_X4_begin s m args below meth c H locs 0 0 (MQ below (q_X4_begin D cA A a_t a_g g_vertices g_arcs g_firsts g_begins g_arcFrom g_arcTo g_weights g_firstTo g_firstValue post) args s 0 0 A) (F0 m 11 ls [])) {H : Heap} {locs : List Loc} {ls : Array Slot} (hl : lv_has ls 4 [(0, .ref (a_t 0)), (1, .ref (a_g 0)), (3, .int x3)]) (hP : va_P D vwCl (sh_X4 cA a_t t_head t_lengths t_rows ++ sh_X1 cA a_g g_vertices g_arcs g_firsts g_begins g_arcFrom g_arcTo g_weights g_firstTo g_firstValue) H) (hD : va_D A (sh_X4 cA a_t t_head t_lengths t_rows ++ sh_X1 cA a_g g_vertices g_arcs g_firsts g_begins g_arcFrom g_arcTo g_weights g_firstTo g_firstValue)) (hS : va_S A s.heap H locs) (hw : bd_X4_begin_11 g_vertices g_begins post K11 x3 t_head t_lengths t_rows) : W p l e rm_X4_begin s m args below meth c H locs 0 0 (MQ below (q_X4_begin D cA A a_t a_g g_vertices g_arcs g_firsts g_begins g_arcFrom g_arcTo g_weights g_firstTo g_firstValue post) args s 0 0 A) (F0 m 11 ls []) := by
  obtain ⟨hx, hb, hr, hts, hown, hlocks, hml⟩ := id C
  unfold bd_X4_begin_11 at hw
  refine lv_iload_n hx hb dX4_begin_11 rfl (lv_at hl 2 rfl) ?_
  refine lv_aload_n hx hb dX4_begin_12 rfl (lv_at hl 1 rfl) ?_
  refine va_get (D := D) (ci := 1) (v := .int g_vertices) (C := RX1) (T := TX1) (N := 9) hx hb hts fi_X4_begin_X1 hown hK hP 2 rfl rfl 0 (by decide) (hts _ fl_X4_begin_3) (fun _ h9 => h9) rfl dX4_begin_13 ?_
  refine lv_icmp_ge (tgt := 45) hx hb dX4_begin_16 (by decide) (fun hc => ?_) (fun hc => ?_)
  · have hw := hw.1 hc
    refine lv_aload_n hx hb dX4_begin_45 rfl (lv_at hl 0 rfl) ?_
    refine lv_lconst (v := 0) hx hb dX4_begin_46 (by decide) ?_
    refine va_put (D := D) (ci := 4) (v := .long 0) (ty := .long) (C := RX4) (T := TX4) (N := 3) hx hb hts fi_X4_begin_X4 tyX4 tyX4_ok nmX4 hown hK hP hD hS 0 rfl rfl 1 (by decide) (hts _ fl_X4_begin_4) (fun _ h9 => h9) rfl (by decide +kernel) rfl rfl (Nat.le_of_ble_eq_true rfl) dX4_begin_47 (fun H locs hP hD hS => ?_)
    have hP : va_P D vwCl (sh_X4 cA a_t t_head (0 : Int64) t_rows ++ sh_X1 cA a_g g_vertices g_arcs g_firsts g_begins g_arcFrom g_arcTo g_weights g_firstTo g_firstValue) H := hP
    have hD : va_D A (sh_X4 cA a_t t_head (0 : Int64) t_rows ++ sh_X1 cA a_g g_vertices g_arcs g_firsts g_begins g_arcFrom g_arcTo g_weights g_firstTo g_firstValue) := hD
    refine lv_aload_n hx hb dX4_begin_50 rfl (lv_at hl 0 rfl) ?_
    refine va_get (D := D) (ci := 4) (v := .ref (a_t 1)) (C := RX4) (T := TX4) (N := 3) hx hb hts fi_X4_begin_X4 hown hK hP 0 rfl rfl 2 (by decide) (hts _ fl_X4_begin_5) (fun _ h9 => h9) rfl dX4_begin_51 ?_
    refine lv_lconst (v := 0) hx hb dX4_begin_54 (by decide) ?_
    refine cS_v (As := [.ref (a_t 1), .long 0]) (rest := []) (wr := [((a_t 0), .inr (4, [.long t_head, .long (0 : Int64), .ref (a_t 1)])), ((a_g 0), .inr (1, [.int g_vertices, .int g_arcs, .int g_firsts, .ref (a_g 1), .ref (a_g 2), .ref (a_g 3), .ref (a_g 4), .ref (a_g 5), .ref (a_g 6)])), ((a_g 1), .inl (cA 0, 5, .inl g_begins)), ((a_g 2), .inl (cA 0, 8, .inl g_arcFrom)), ((a_g 3), .inl (cA 0, 8, .inl g_arcTo)), ((a_g 4), .inl (cA 0, 8, .inl g_weights)), ((a_g 5), .inl (cA 0, 4, .inl g_firstTo)), ((a_g 6), .inl (cA 0, 4, .inl g_firstValue))]) (w2 := (fun (u : (Nat → Int64)) => sh_X4 cA a_t t_head (0 : Int64) u ++ sh_X1 cA a_g g_vertices g_arcs g_firsts g_begins g_arcFrom g_arcTo g_weights g_firstTo g_firstValue)) ⟨hx, hb, hml, hown, hts⟩ (c_J7_fill_d0a16 l D cA (a_t 1) 8 H.size t_rows 0 _ hw) (va_cwS 2 hts gX4_begin_J7_fill_d0a16 rfl rfl rfl (by decide +kernel) ⟨(Nat.le_of_ble_eq_true rfl), (Nat.le_of_ble_eq_true rfl)⟩) hK hP hD hS hA [1] [0, 2, 3, 4, 5, 6, 7, 8] [0, 8, 1, 2, 3, 4, 5, 6, 7] rfl rfl rfl rfl (by decide) rfl (fun _ => rfl) rfl hl.1 rfl (Nat.le_of_ble_eq_true rfl) dX4_begin_55 ⟨Nat.le_refl _, Nat.le_refl _⟩ (fun u H locs hw hP hD hS => ?_)
    obtain ⟨t_rows_1, rfl⟩ : ∃ z, z = u := ⟨_, rfl⟩
    try dsimp only at hw
    have hP : va_P D vwCl (sh_X4 cA a_t t_head (0 : Int64) t_rows_1 ++ sh_X1 cA a_g g_vertices g_arcs g_firsts g_begins g_arcFrom g_arcTo g_weights g_firstTo g_firstValue) H := hP
    have hD : va_D A (sh_X4 cA a_t t_head (0 : Int64) t_rows_1 ++ sh_X1 cA a_g g_vertices g_arcs g_firsts g_begins g_arcFrom g_arcTo g_weights g_firstTo g_firstValue) := hD
    exact W.vret hx hb hr (fun t ht hW => ⟨⟨(t_head, (0 : Int64), t_rows_1), rfl, hw, by rw [ht]; exact hP, va_K.moved hW.alike hK, hD⟩, hS.F ht⟩) hS.2.2 dX4_begin_58
  · have hw := hw.2 hc
    refine lv_aload_n hx hb dX4_begin_19 rfl (lv_at hl 0 rfl) ?_
    refine lv_dup hx hb dX4_begin_20 rfl ?_
    refine va_get (D := D) (ci := 4) (v := .long t_head) (C := RX4) (T := TX4) (N := 3) hx hb hts fi_X4_begin_X4 hown hK hP 0 rfl rfl 0 (by decide) (hts _ fl_X4_begin_1) (fun _ h9 => h9) rfl dX4_begin_21 ?_
    refine lv_aload_n hx hb dX4_begin_24 rfl (lv_at hl 1 rfl) ?_
    refine va_get (D := D) (ci := 1) (v := .ref (a_g 1)) (C := RX1) (T := TX1) (N := 9) hx hb hts fi_X4_begin_X1 hown hK hP 2 rfl rfl 3 (by decide) (hts _ fl_X4_begin_6) (fun _ h9 => h9) rfl dX4_begin_25 ?_
    refine lv_iload_n hx hb dX4_begin_28 rfl (lv_at hl 2 rfl) ?_
    obtain ⟨hi2, hw⟩ := hw
    refine va_iald hx hb hK hP 3 0 rfl rfl hi2 dX4_begin_29 ?_
    refine lv_i2l hx hb dX4_begin_30 rfl ?_
    refine lv_iconst (v := 4) hx hb dX4_begin_31 (by decide) ?_
    refine lv_iload_n hx hb dX4_begin_32 rfl (lv_at hl 2 rfl) ?_
    refine lv_imul hx hb dX4_begin_33 ?_
    refine lv_lshl hx hb dX4_begin_34 rfl ?_
    refine lv_lor hx hb dX4_begin_35 ?_
    refine va_put (D := D) (ci := 4) (v := .long (t_head ||| ((g_begins x3.toNatClampNeg).toInt64 <<< ((4 * x3).toInt64 &&& 63)))) (ty := .long) (C := RX4) (T := TX4) (N := 3) hx hb hts fi_X4_begin_X4 tyX4 tyX4_ok nmX4 hown hK hP hD hS 0 rfl rfl 0 (by decide) (hts _ fl_X4_begin_1) (fun _ h9 => h9) rfl (by decide +kernel) rfl rfl (Nat.le_of_ble_eq_true rfl) dX4_begin_36 (fun H locs hP hD hS => ?_)
    have hP : va_P D vwCl (sh_X4 cA a_t (t_head ||| ((g_begins x3.toNatClampNeg).toInt64 <<< ((4 * x3).toInt64 &&& 63))) t_lengths t_rows ++ sh_X1 cA a_g g_vertices g_arcs g_firsts g_begins g_arcFrom g_arcTo g_weights g_firstTo g_firstValue) H := hP
    have hD : va_D A (sh_X4 cA a_t (t_head ||| ((g_begins x3.toNatClampNeg).toInt64 <<< ((4 * x3).toInt64 &&& 63))) t_lengths t_rows ++ sh_X1 cA a_g g_vertices g_arcs g_firsts g_begins g_arcFrom g_arcTo g_weights g_firstTo g_firstValue) := hD
    refine lv_iinc (v := (x3 + 1)) (lv' := [(3, .int (x3 + 1)), (0, .ref (a_t 0)), (1, .ref (a_g 0))]) hx hb dX4_begin_39 hl (k := 2) rfl rfl (by decide) rfl (fun ls hl => ?_)
    refine lv_goto (tgt := 11) hx hb dX4_begin_42 (by decide) ?_
    exact hk11 _ _ _ (x3 + 1) (t_head ||| ((g_begins x3.toNatClampNeg).toInt64 <<< ((4 * x3).toInt64 &&& 63))) (lv_sub hl [1, 2, 0] rfl) hP hD hS hw
set_option maxHeartbeats 4000000 in
set_option maxRecDepth 100000 in
theorem k_X4_begin_11 {p : Program} {l : Launch} {e : Env} {s : State} {m : MethodId} {args : Array Value} {below : List Frame} {meth : Method} {c : Code} {D : va_G} {cA : Nat → ClassId} {A : Nat → Prop} {a_t : Nat → Nat} {a_g : Nat → Nat} (C : cxm RX4 cX4_begin 4 none wsX4_begin p s m args meth c) (hA : ∀ q, s.heap.size ≤ q → A q) (hK : va_K D vwCl (tyL cA) s) {g_vertices : Int32} {g_arcs : Int32} {g_firsts : Int32} {g_begins : (Nat → Int32)} {g_arcFrom : (Nat → Int32)} {g_arcTo : (Nat → Int32)} {g_weights : (Nat → Int32)} {g_firstTo : (Nat → Int32)} {g_firstValue : (Nat → Int32)} {post : Int64 → Int64 → (Nat → Int64) → Prop} {x3 : Int32} {t_head : Int64} {t_lengths : Int64} {t_rows : (Nat → Int64)} {H : Heap} {locs : List Loc} {ls : Array Slot} (hl : lv_has ls 4 [(0, .ref (a_t 0)), (1, .ref (a_g 0)), (3, .int x3)]) (hP : va_P D vwCl (sh_X4 cA a_t t_head t_lengths t_rows ++ sh_X1 cA a_g g_vertices g_arcs g_firsts g_begins g_arcFrom g_arcTo g_weights g_firstTo g_firstValue) H) (hD : va_D A (sh_X4 cA a_t t_head t_lengths t_rows ++ sh_X1 cA a_g g_vertices g_arcs g_firsts g_begins g_arcFrom g_arcTo g_weights g_firstTo g_firstValue)) (hS : va_S A s.heap H locs) (hw : wp_X4_begin_11 g_vertices g_begins post x3 t_head t_lengths t_rows) : W p l e rm_X4_begin s m args below meth c H locs 0 0 (MQ below (q_X4_begin D cA A a_t a_g g_vertices g_arcs g_firsts g_begins g_arcFrom g_arcTo g_weights g_firstTo g_firstValue post) args s 0 0 A) (F0 m 11 ls []) := by
  obtain ⟨I, n, hI, hstep⟩ := hw
  have key : ∀ (n : Nat) (H : Heap) (locs : List Loc) (ls : Array Slot) (x3 : Int32) (t_head : Int64), I n x3 t_head → lv_has ls 4 [(0, .ref (a_t 0)), (1, .ref (a_g 0)), (3, .int x3)] → va_P D vwCl (sh_X4 cA a_t t_head t_lengths t_rows ++ sh_X1 cA a_g g_vertices g_arcs g_firsts g_begins g_arcFrom g_arcTo g_weights g_firstTo g_firstValue) H → va_D A (sh_X4 cA a_t t_head t_lengths t_rows ++ sh_X1 cA a_g g_vertices g_arcs g_firsts g_begins g_arcFrom g_arcTo g_weights g_firstTo g_firstValue) → va_S A s.heap H locs → W p l e rm_X4_begin s m args below meth c H locs 0 0 (MQ below (q_X4_begin D cA A a_t a_g g_vertices g_arcs g_firsts g_begins g_arcFrom g_arcTo g_weights g_firstTo g_firstValue post) args s 0 0 A) (F0 m 11 ls []) := by
    intro n
    induction n using Nat.strongRecOn with
    | _ n ih =>
      intro H locs ls x3 t_head hI hl hP hD hS
      exact b_X4_begin_11 C hA hK (fun H locs ls x3 t_head hl hP hD hS hw => by obtain ⟨n', hn, hI⟩ := hw; exact ih n' hn H locs ls x3 t_head hI hl hP hD hS) hl hP hD hS (hstep n x3 t_head hI)
  exact key n H locs ls x3 t_head hI hl hP hD hS
set_option maxHeartbeats 4000000 in
set_option maxRecDepth 100000 in
theorem k_X4_begin_0 {p : Program} {l : Launch} {e : Env} {s : State} {m : MethodId} {args : Array Value} {below : List Frame} {meth : Method} {c : Code} {D : va_G} {cA : Nat → ClassId} {A : Nat → Prop} {a_t : Nat → Nat} {a_g : Nat → Nat} (C : cxm RX4 cX4_begin 4 none wsX4_begin p s m args meth c) (hA : ∀ q, s.heap.size ≤ q → A q) (hK : va_K D vwCl (tyL cA) s) {g_vertices : Int32} {g_arcs : Int32} {g_firsts : Int32} {g_begins : (Nat → Int32)} {g_arcFrom : (Nat → Int32)} {g_arcTo : (Nat → Int32)} {g_weights : (Nat → Int32)} {g_firstTo : (Nat → Int32)} {g_firstValue : (Nat → Int32)} {post : Int64 → Int64 → (Nat → Int64) → Prop} {x2 : Int32} {t_head : Int64} {t_lengths : Int64} {t_rows : (Nat → Int64)} {H : Heap} {locs : List Loc} {ls : Array Slot} (hl : lv_has ls 4 [(0, .ref (a_t 0)), (1, .ref (a_g 0)), (2, .int x2)]) (hP : va_P D vwCl (sh_X4 cA a_t t_head t_lengths t_rows ++ sh_X1 cA a_g g_vertices g_arcs g_firsts g_begins g_arcFrom g_arcTo g_weights g_firstTo g_firstValue) H) (hD : va_D A (sh_X4 cA a_t t_head t_lengths t_rows ++ sh_X1 cA a_g g_vertices g_arcs g_firsts g_begins g_arcFrom g_arcTo g_weights g_firstTo g_firstValue)) (hS : va_S A s.heap H locs) (hw : wp_X4_begin_0 g_vertices g_begins post x2 t_head t_lengths t_rows) : W p l e rm_X4_begin s m args below meth c H locs 0 0 (MQ below (q_X4_begin D cA A a_t a_g g_vertices g_arcs g_firsts g_begins g_arcFrom g_arcTo g_weights g_firstTo g_firstValue post) args s 0 0 A) (F0 m 0 ls []) := by
  obtain ⟨hx, hb, hr, hts, hown, hlocks, hml⟩ := id C
  unfold wp_X4_begin_0 at hw
  refine lv_aload_n hx hb dX4_begin_0 rfl (lv_at hl 0 rfl) ?_
  refine lv_iload_n hx hb dX4_begin_1 rfl (lv_at hl 2 rfl) ?_
  refine lv_i2l hx hb dX4_begin_2 rfl ?_
  refine lv_bipush (v := 49) hx hb dX4_begin_3 (by decide) ?_
  refine lv_lshl hx hb dX4_begin_5 rfl ?_
  refine va_put (D := D) (ci := 4) (v := .long (x2.toInt64 <<< ((49 : Int32).toInt64 &&& 63))) (ty := .long) (C := RX4) (T := TX4) (N := 3) hx hb hts fi_X4_begin_X4 tyX4 tyX4_ok nmX4 hown hK hP hD hS 0 rfl rfl 0 (by decide) (hts _ fl_X4_begin_1) (fun _ h9 => h9) rfl (by decide +kernel) rfl rfl (Nat.le_of_ble_eq_true rfl) dX4_begin_6 (fun H locs hP hD hS => ?_)
  have hP : va_P D vwCl (sh_X4 cA a_t (x2.toInt64 <<< ((49 : Int32).toInt64 &&& 63)) t_lengths t_rows ++ sh_X1 cA a_g g_vertices g_arcs g_firsts g_begins g_arcFrom g_arcTo g_weights g_firstTo g_firstValue) H := hP
  have hD : va_D A (sh_X4 cA a_t (x2.toInt64 <<< ((49 : Int32).toInt64 &&& 63)) t_lengths t_rows ++ sh_X1 cA a_g g_vertices g_arcs g_firsts g_begins g_arcFrom g_arcTo g_weights g_firstTo g_firstValue) := hD
  refine lv_iconst (v := 0) hx hb dX4_begin_9 (by decide) ?_
  refine lv_istore_n (lv' := [(3, .int 0), (0, .ref (a_t 0)), (1, .ref (a_g 0)), (2, .int x2)]) hx hb dX4_begin_10 rfl hl (by decide) rfl (fun ls hl => ?_)
  exact k_X4_begin_11 C hA hK (lv_sub hl [1, 2, 0] rfl) hP hD hS hw
set_option maxHeartbeats 4000000 in
set_option maxRecDepth 100000 in
theorem c_X4_begin (l : Launch) (D : va_G) (cA : Nat → ClassId) (a_t : Nat → Nat) (a_g : Nat → Nat) (sz : Nat) (t_head : Int64) (t_lengths : Int64) (t_rows : (Nat → Int64)) (g_vertices : Int32) (g_arcs : Int32) (g_firsts : Int32) (g_begins : (Nat → Int32)) (g_arcFrom : (Nat → Int32)) (g_arcTo : (Nat → Int32)) (g_weights : (Nat → Int32)) (g_firstTo : (Nat → Int32)) (g_firstValue : (Nat → Int32)) (x2 : Int32) (post : Int64 → Int64 → (Nat → Int64) → Prop) (hw : wp_X4_begin t_head t_lengths t_rows g_vertices g_begins x2 post) : Met l yX4_begin wsX4_begin rm_X4_begin (cPre D cA sz [.ref (a_t 0), .ref (a_g 0), .int x2] (sh_X4 cA a_t t_head t_lengths t_rows ++ sh_X1 cA a_g g_vertices g_arcs g_firsts g_begins g_arcFrom g_arcTo g_weights g_firstTo g_firstValue)) (q_X4_begin D cA (va_A (sh_X4 cA a_t t_head t_lengths t_rows ++ sh_X1 cA a_g g_vertices g_arcs g_firsts g_begins g_arcFrom g_arcTo g_weights g_firstTo g_firstValue) sz) a_t a_g g_vertices g_arcs g_firsts g_begins g_arcFrom g_arcTo g_weights g_firstTo g_firstValue post) 0 0 (va_A (sh_X4 cA a_t t_head t_lengths t_rows ++ sh_X1 cA a_g g_vertices g_arcs g_firsts g_begins g_arcFrom g_arcTo g_weights g_firstTo g_firstValue) sz) := by
  refine Met.ofW (cc := cX4_begin) (maxL := 4) (ret := none) (by decide) rfl ?_
  intro p e s m args below meth c s₁ B hml hv
  obtain ⟨rfl, hsz, hP, hK, hD0⟩ := hv
  have hown : s.vm.findClass RX4 = some m.cls := findClass_of_methodNamed B.named
  subst hsz
  have hD := hD0.self (sz := s.heap.size)
  have hl := lv_entry ([.ref (a_t 0), .ref (a_g 0), .int x2]) (n := 4) (Nat.le_of_ble_eq_true rfl)
  rw [lg_entry_eq]
  exact k_X4_begin_0 ⟨B.exec, B.bytes, B.returns, atoms_spec (ws := wsX4_begin) B.pre, hown, B.notSynchronized, hml⟩ (fun q h => Or.inr h) hK hl hP hD va_S.rf hw
/-! X4_copy: copy(LOrderTests$State;)V -/
theorem fi_X4_copy_X4 : ∀ w ∈ wsX40, w ∈ wsX4_copy := by decide +kernel
theorem fl_X4_copy_1 : ((.fieldLink RX4 15 "OrderTests$State" "head" "J") : Cond) ∈ wsX4_copy := by decide +kernel
theorem fl_X4_copy_2 : ((.fieldLink RX4 29 "OrderTests$State" "lengths" "J") : Cond) ∈ wsX4_copy := by decide +kernel
theorem fl_X4_copy_3 : ((.fieldLink RX4 11 "OrderTests$State" "rows" "[J") : Cond) ∈ wsX4_copy := by decide +kernel
theorem fl_X4_copy_4 : ((.methodLink RX4 38 arraycopyName) : Cond) ∈ wsX4_copy := by decide +kernel
theorem fl_X4_copy_5 : ((.native arraycopyName) : Cond) ∈ wsX4_copy := by decide +kernel
theorem fl_X4_copy_6 : ((.static arraycopyName) : Cond) ∈ wsX4_copy := by decide +kernel
theorem fl_X4_copy_7 : ((.initialized "java/lang/System") : Cond) ∈ wsX4_copy := by decide +kernel
abbrev rm_X4_copy : Room := { frames := 1, cells := 0, slots := 0, locals := 26 }
abbrev q_X4_copy (D : va_G) (cA : Nat → ClassId) (A : Nat → Prop) (a_t : Nat → Nat) (a_o : Nat → Nat) (o_head : Int64) (o_lengths : Int64) (o_rows : (Nat → Int64)) (post : Int64 → Int64 → (Nat → Int64) → Prop) : Array Value → State → Outcome → State → Prop := va_Qv (fun (u : Int64 × Int64 × (Nat → Int64)) => post u.1 u.2.1 u.2.2) (cOut D cA A (fun (u : Int64 × Int64 × (Nat → Int64)) => sh_X4 cA a_t u.1 u.2.1 u.2.2 ++ sh_X4 cA a_o o_head o_lengths o_rows)) A
set_option maxHeartbeats 4000000 in
set_option maxRecDepth 100000 in
theorem k_X4_copy_0 {p : Program} {l : Launch} {e : Env} {s : State} {m : MethodId} {args : Array Value} {below : List Frame} {meth : Method} {c : Code} {D : va_G} {cA : Nat → ClassId} {A : Nat → Prop} {a_t : Nat → Nat} {a_o : Nat → Nat} (C : cxm RX4 cX4_copy 2 none wsX4_copy p s m args meth c) (hA : ∀ q, s.heap.size ≤ q → A q) (hK : va_K D vwCl (tyL cA) s) {o_head : Int64} {o_lengths : Int64} {o_rows : (Nat → Int64)} {post : Int64 → Int64 → (Nat → Int64) → Prop} {t_head : Int64} {t_lengths : Int64} {t_rows : (Nat → Int64)} {H : Heap} {locs : List Loc} {ls : Array Slot} (hl : lv_has ls 2 [(0, .ref (a_t 0)), (1, .ref (a_o 0))]) (hP : va_P D vwCl (sh_X4 cA a_t t_head t_lengths t_rows ++ sh_X4 cA a_o o_head o_lengths o_rows) H) (hD : va_D A (sh_X4 cA a_t t_head t_lengths t_rows ++ sh_X4 cA a_o o_head o_lengths o_rows)) (hS : va_S A s.heap H locs) (hw : wp_X4_copy_0 o_head o_lengths o_rows post t_head t_lengths t_rows) : W p l e rm_X4_copy s m args below meth c H locs 0 0 (MQ below (q_X4_copy D cA A a_t a_o o_head o_lengths o_rows post) args s 0 0 A) (F0 m 0 ls []) := by
  obtain ⟨hx, hb, hr, hts, hown, hlocks, hml⟩ := id C
  unfold wp_X4_copy_0 at hw
  refine lv_aload_n hx hb dX4_copy_0 rfl (lv_at hl 0 rfl) ?_
  refine lv_aload_n hx hb dX4_copy_1 rfl (lv_at hl 1 rfl) ?_
  refine va_get (D := D) (ci := 4) (v := .long o_head) (C := RX4) (T := TX4) (N := 3) hx hb hts fi_X4_copy_X4 hown hK hP 2 rfl rfl 0 (by decide) (hts _ fl_X4_copy_1) (fun _ h9 => h9) rfl dX4_copy_2 ?_
  refine va_put (D := D) (ci := 4) (v := .long o_head) (ty := .long) (C := RX4) (T := TX4) (N := 3) hx hb hts fi_X4_copy_X4 tyX4 tyX4_ok nmX4 hown hK hP hD hS 0 rfl rfl 0 (by decide) (hts _ fl_X4_copy_1) (fun _ h9 => h9) rfl (by decide +kernel) rfl rfl (Nat.le_of_ble_eq_true rfl) dX4_copy_5 (fun H locs hP hD hS => ?_)
  have hP : va_P D vwCl (sh_X4 cA a_t o_head t_lengths t_rows ++ sh_X4 cA a_o o_head o_lengths o_rows) H := hP
  have hD : va_D A (sh_X4 cA a_t o_head t_lengths t_rows ++ sh_X4 cA a_o o_head o_lengths o_rows) := hD
  refine lv_aload_n hx hb dX4_copy_8 rfl (lv_at hl 0 rfl) ?_
  refine lv_aload_n hx hb dX4_copy_9 rfl (lv_at hl 1 rfl) ?_
  refine va_get (D := D) (ci := 4) (v := .long o_lengths) (C := RX4) (T := TX4) (N := 3) hx hb hts fi_X4_copy_X4 hown hK hP 2 rfl rfl 1 (by decide) (hts _ fl_X4_copy_2) (fun _ h9 => h9) rfl dX4_copy_10 ?_
  refine va_put (D := D) (ci := 4) (v := .long o_lengths) (ty := .long) (C := RX4) (T := TX4) (N := 3) hx hb hts fi_X4_copy_X4 tyX4 tyX4_ok nmX4 hown hK hP hD hS 0 rfl rfl 1 (by decide) (hts _ fl_X4_copy_2) (fun _ h9 => h9) rfl (by decide +kernel) rfl rfl (Nat.le_of_ble_eq_true rfl) dX4_copy_13 (fun H locs hP hD hS => ?_)
  have hP : va_P D vwCl (sh_X4 cA a_t o_head o_lengths t_rows ++ sh_X4 cA a_o o_head o_lengths o_rows) H := hP
  have hD : va_D A (sh_X4 cA a_t o_head o_lengths t_rows ++ sh_X4 cA a_o o_head o_lengths o_rows) := hD
  refine lv_aload_n hx hb dX4_copy_16 rfl (lv_at hl 1 rfl) ?_
  refine va_get (D := D) (ci := 4) (v := .ref (a_o 1)) (C := RX4) (T := TX4) (N := 3) hx hb hts fi_X4_copy_X4 hown hK hP 2 rfl rfl 2 (by decide) (hts _ fl_X4_copy_3) (fun _ h9 => h9) rfl dX4_copy_17 ?_
  refine lv_iconst (v := 0) hx hb dX4_copy_20 (by decide) ?_
  refine lv_aload_n hx hb dX4_copy_21 rfl (lv_at hl 0 rfl) ?_
  refine va_get (D := D) (ci := 4) (v := .ref (a_t 1)) (C := RX4) (T := TX4) (N := 3) hx hb hts fi_X4_copy_X4 hown hK hP 0 rfl rfl 2 (by decide) (hts _ fl_X4_copy_3) (fun _ h9 => h9) rfl dX4_copy_22 ?_
  refine lv_iconst (v := 0) hx hb dX4_copy_25 (by decide) ?_
  refine lv_bipush (v := 8) hx hb dX4_copy_26 (by decide) ?_
  obtain ⟨ha1, ha2, ha3, ha4, ha5, hw⟩ := hw
  refine va_copyl hx hb (by rw [hml]; exact hl.1.symm) hown (hts _ fl_X4_copy_4) (hts _ fl_X4_copy_5) (hts _ fl_X4_copy_6) (hts _ fl_X4_copy_7) hK hP hD hS 3 1 1 1 rfl rfl rfl rfl rfl ha1 ha2 ha3 ha4 ha5 (fun _ _ => rfl) (Nat.le_of_ble_eq_true rfl) (Nat.le_of_ble_eq_true rfl) dX4_copy_28 (fun H locs hP hD hS => ?_)
  have hP : va_P D vwCl (sh_X4 cA a_t o_head o_lengths (va_cpy o_rows t_rows (0 : Int32).toNatClampNeg (0 : Int32).toNatClampNeg (8 : Int32).toNatClampNeg) ++ sh_X4 cA a_o o_head o_lengths o_rows) H := hP
  have hD : va_D A (sh_X4 cA a_t o_head o_lengths (va_cpy o_rows t_rows (0 : Int32).toNatClampNeg (0 : Int32).toNatClampNeg (8 : Int32).toNatClampNeg) ++ sh_X4 cA a_o o_head o_lengths o_rows) := hD
  exact W.vret hx hb hr (fun t ht hW => ⟨⟨(o_head, o_lengths, (va_cpy o_rows t_rows (0 : Int32).toNatClampNeg (0 : Int32).toNatClampNeg (8 : Int32).toNatClampNeg)), rfl, hw, by rw [ht]; exact hP, va_K.moved hW.alike hK, hD⟩, hS.F ht⟩) hS.2.2 dX4_copy_31
set_option maxHeartbeats 4000000 in
set_option maxRecDepth 100000 in
theorem c_X4_copy (l : Launch) (D : va_G) (cA : Nat → ClassId) (a_t : Nat → Nat) (a_o : Nat → Nat) (sz : Nat) (t_head : Int64) (t_lengths : Int64) (t_rows : (Nat → Int64)) (o_head : Int64) (o_lengths : Int64) (o_rows : (Nat → Int64)) (post : Int64 → Int64 → (Nat → Int64) → Prop) (hw : wp_X4_copy t_head t_lengths t_rows o_head o_lengths o_rows post) : Met l yX4_copy wsX4_copy rm_X4_copy (cPre D cA sz [.ref (a_t 0), .ref (a_o 0)] (sh_X4 cA a_t t_head t_lengths t_rows ++ sh_X4 cA a_o o_head o_lengths o_rows)) (q_X4_copy D cA (va_A (sh_X4 cA a_t t_head t_lengths t_rows ++ sh_X4 cA a_o o_head o_lengths o_rows) sz) a_t a_o o_head o_lengths o_rows post) 0 0 (va_A (sh_X4 cA a_t t_head t_lengths t_rows ++ sh_X4 cA a_o o_head o_lengths o_rows) sz) := by
  refine Met.ofW (cc := cX4_copy) (maxL := 2) (ret := none) (by decide) rfl ?_
  intro p e s m args below meth c s₁ B hml hv
  obtain ⟨rfl, hsz, hP, hK, hD0⟩ := hv
  have hown : s.vm.findClass RX4 = some m.cls := findClass_of_methodNamed B.named
  subst hsz
  have hD := hD0.self (sz := s.heap.size)
  have hl := lv_entry ([.ref (a_t 0), .ref (a_o 0)]) (n := 2) (Nat.le_of_ble_eq_true rfl)
  rw [lg_entry_eq]
  exact k_X4_copy_0 ⟨B.exec, B.bytes, B.returns, atoms_spec (ws := wsX4_copy) B.pre, hown, B.notSynchronized, hml⟩ (fun q h => Or.inr h) hK hl hP hD va_S.rf hw
/-! X4_allValues: allValues()I -/
theorem fi_X4_allValues_X4 : ∀ w ∈ wsX40, w ∈ wsX4_allValues := by decide +kernel
theorem fl_X4_allValues_1 : ((.fieldLink RX4 15 "OrderTests$State" "head" "J") : Cond) ∈ wsX4_allValues := by decide +kernel
theorem fl_X4_allValues_2 : ((.constant RX4 44 (1048575)) : Cond) ∈ wsX4_allValues := by decide +kernel
abbrev rm_X4_allValues : Room := { frames := 0, cells := 0, slots := 0, locals := 0 }
abbrev q_X4_allValues (D : va_G) (cA : Nat → ClassId) (A : Nat → Prop) (a_t : Nat → Nat) (t_head : Int64) (t_lengths : Int64) (t_rows : (Nat → Int64)) (post : Int32 → Prop) : Array Value → State → Outcome → State → Prop := va_Qi (fun (r : Int32) (u : Unit) => post r) (cOut D cA A (fun (u : Unit) => sh_X4 cA a_t t_head t_lengths t_rows)) A
set_option maxHeartbeats 4000000 in
set_option maxRecDepth 100000 in
theorem k_X4_allValues_0 {p : Program} {l : Launch} {e : Env} {s : State} {m : MethodId} {args : Array Value} {below : List Frame} {meth : Method} {c : Code} {D : va_G} {cA : Nat → ClassId} {A : Nat → Prop} {a_t : Nat → Nat} (C : cxm RX4 cX4_allValues 1 (some .int) wsX4_allValues p s m args meth c) (hA : ∀ q, s.heap.size ≤ q → A q) (hK : va_K D vwCl (tyL cA) s) {t_head : Int64} {t_lengths : Int64} {t_rows : (Nat → Int64)} {post : Int32 → Prop} {H : Heap} {locs : List Loc} {ls : Array Slot} (hl : lv_has ls 1 [(0, .ref (a_t 0))]) (hP : va_P D vwCl (sh_X4 cA a_t t_head t_lengths t_rows) H) (hD : va_D A (sh_X4 cA a_t t_head t_lengths t_rows)) (hS : va_S A s.heap H locs) (hw : wp_X4_allValues_0 t_head post) : W p l e rm_X4_allValues s m args below meth c H locs 0 0 (MQ below (q_X4_allValues D cA A a_t t_head t_lengths t_rows post) args s 0 0 A) (F0 m 0 ls []) := by
  obtain ⟨hx, hb, hr, hts, hown, hlocks, hml⟩ := id C
  unfold wp_X4_allValues_0 at hw
  refine lv_aload_n hx hb dX4_allValues_0 rfl (lv_at hl 0 rfl) ?_
  refine va_get (D := D) (ci := 4) (v := .long t_head) (C := RX4) (T := TX4) (N := 3) hx hb hts fi_X4_allValues_X4 hown hK hP 0 rfl rfl 0 (by decide) (hts _ fl_X4_allValues_1) (fun _ h9 => h9) rfl dX4_allValues_1 ?_
  refine lv_l2i hx hb dX4_allValues_4 rfl ?_
  refine lv_ldc (v := 1048575) hx hb hown (hts _ fl_X4_allValues_2) dX4_allValues_5 ?_
  refine lv_iand hx hb dX4_allValues_7 ?_
  exact W.iret (v := (t_head.toInt32 &&& 1048575)) hx hb hr (fun t ht hW => ⟨⟨(t_head.toInt32 &&& 1048575), (), rfl, hw, by rw [ht]; exact hP, va_K.moved hW.alike hK, hD⟩, hS.F ht⟩) hS.2.2 dX4_allValues_8
set_option maxHeartbeats 4000000 in
set_option maxRecDepth 100000 in
theorem c_X4_allValues (l : Launch) (D : va_G) (cA : Nat → ClassId) (a_t : Nat → Nat) (sz : Nat) (t_head : Int64) (t_lengths : Int64) (t_rows : (Nat → Int64)) (post : Int32 → Prop) (hw : wp_X4_allValues t_head post) : Met l yX4_allValues wsX4_allValues rm_X4_allValues (cPre D cA sz [.ref (a_t 0)] (sh_X4 cA a_t t_head t_lengths t_rows)) (q_X4_allValues D cA (va_A (sh_X4 cA a_t t_head t_lengths t_rows) sz) a_t t_head t_lengths t_rows post) 0 0 (va_A (sh_X4 cA a_t t_head t_lengths t_rows) sz) := by
  refine Met.ofW (cc := cX4_allValues) (maxL := 1) (ret := (some .int)) (by decide) rfl ?_
  intro p e s m args below meth c s₁ B hml hv
  obtain ⟨rfl, hsz, hP, hK, hD0⟩ := hv
  have hown : s.vm.findClass RX4 = some m.cls := findClass_of_methodNamed B.named
  subst hsz
  have hD := hD0.self (sz := s.heap.size)
  have hl := lv_entry ([.ref (a_t 0)]) (n := 1) (Nat.le_of_ble_eq_true rfl)
  rw [lg_entry_eq]
  exact k_X4_allValues_0 ⟨B.exec, B.bytes, B.returns, atoms_spec (ws := wsX4_allValues) B.pre, hown, B.notSynchronized, hml⟩ (fun q h => Or.inr h) hK hl hP hD va_S.rf hw
/-! X4_valueOf: valueOf(I)I -/
theorem fi_X4_valueOf_X4 : ∀ w ∈ wsX40, w ∈ wsX4_valueOf := by decide +kernel
theorem fl_X4_valueOf_1 : ((.fieldLink RX4 15 "OrderTests$State" "head" "J") : Cond) ∈ wsX4_valueOf := by decide +kernel
abbrev rm_X4_valueOf : Room := { frames := 0, cells := 0, slots := 0, locals := 0 }
abbrev q_X4_valueOf (D : va_G) (cA : Nat → ClassId) (A : Nat → Prop) (a_t : Nat → Nat) (t_head : Int64) (t_lengths : Int64) (t_rows : (Nat → Int64)) (post : Int32 → Prop) : Array Value → State → Outcome → State → Prop := va_Qi (fun (r : Int32) (u : Unit) => post r) (cOut D cA A (fun (u : Unit) => sh_X4 cA a_t t_head t_lengths t_rows)) A
set_option maxHeartbeats 4000000 in
set_option maxRecDepth 100000 in
theorem k_X4_valueOf_0 {p : Program} {l : Launch} {e : Env} {s : State} {m : MethodId} {args : Array Value} {below : List Frame} {meth : Method} {c : Code} {D : va_G} {cA : Nat → ClassId} {A : Nat → Prop} {a_t : Nat → Nat} (C : cxm RX4 cX4_valueOf 2 (some .int) wsX4_valueOf p s m args meth c) (hA : ∀ q, s.heap.size ≤ q → A q) (hK : va_K D vwCl (tyL cA) s) {t_head : Int64} {t_lengths : Int64} {t_rows : (Nat → Int64)} {post : Int32 → Prop} {x1 : Int32} {H : Heap} {locs : List Loc} {ls : Array Slot} (hl : lv_has ls 2 [(0, .ref (a_t 0)), (1, .int x1)]) (hP : va_P D vwCl (sh_X4 cA a_t t_head t_lengths t_rows) H) (hD : va_D A (sh_X4 cA a_t t_head t_lengths t_rows)) (hS : va_S A s.heap H locs) (hw : wp_X4_valueOf_0 t_head post x1) : W p l e rm_X4_valueOf s m args below meth c H locs 0 0 (MQ below (q_X4_valueOf D cA A a_t t_head t_lengths t_rows post) args s 0 0 A) (F0 m 0 ls []) := by
  obtain ⟨hx, hb, hr, hts, hown, hlocks, hml⟩ := id C
  unfold wp_X4_valueOf_0 at hw
  refine lv_aload_n hx hb dX4_valueOf_0 rfl (lv_at hl 0 rfl) ?_
  refine va_get (D := D) (ci := 4) (v := .long t_head) (C := RX4) (T := TX4) (N := 3) hx hb hts fi_X4_valueOf_X4 hown hK hP 0 rfl rfl 0 (by decide) (hts _ fl_X4_valueOf_1) (fun _ h9 => h9) rfl dX4_valueOf_1 ?_
  refine lv_iconst (v := 4) hx hb dX4_valueOf_4 (by decide) ?_
  refine lv_iload_n hx hb dX4_valueOf_5 rfl (lv_at hl 1 rfl) ?_
  refine lv_imul hx hb dX4_valueOf_6 ?_
  refine lv_lushr hx hb dX4_valueOf_7 rfl ?_
  refine lv_l2i hx hb dX4_valueOf_8 rfl ?_
  refine lv_bipush (v := 15) hx hb dX4_valueOf_9 (by decide) ?_
  refine lv_iand hx hb dX4_valueOf_11 ?_
  exact W.iret (v := (((t_head.toUInt64 >>> ((4 * x1).toInt64.toUInt64 &&& Int64.toUInt64 63)).toInt64).toInt32 &&& 15)) hx hb hr (fun t ht hW => ⟨⟨(((t_head.toUInt64 >>> ((4 * x1).toInt64.toUInt64 &&& Int64.toUInt64 63)).toInt64).toInt32 &&& 15), (), rfl, hw, by rw [ht]; exact hP, va_K.moved hW.alike hK, hD⟩, hS.F ht⟩) hS.2.2 dX4_valueOf_12
set_option maxHeartbeats 4000000 in
set_option maxRecDepth 100000 in
theorem c_X4_valueOf (l : Launch) (D : va_G) (cA : Nat → ClassId) (a_t : Nat → Nat) (sz : Nat) (t_head : Int64) (t_lengths : Int64) (t_rows : (Nat → Int64)) (x1 : Int32) (post : Int32 → Prop) (hw : wp_X4_valueOf t_head x1 post) : Met l yX4_valueOf wsX4_valueOf rm_X4_valueOf (cPre D cA sz [.ref (a_t 0), .int x1] (sh_X4 cA a_t t_head t_lengths t_rows)) (q_X4_valueOf D cA (va_A (sh_X4 cA a_t t_head t_lengths t_rows) sz) a_t t_head t_lengths t_rows post) 0 0 (va_A (sh_X4 cA a_t t_head t_lengths t_rows) sz) := by
  refine Met.ofW (cc := cX4_valueOf) (maxL := 2) (ret := (some .int)) (by decide) rfl ?_
  intro p e s m args below meth c s₁ B hml hv
  obtain ⟨rfl, hsz, hP, hK, hD0⟩ := hv
  have hown : s.vm.findClass RX4 = some m.cls := findClass_of_methodNamed B.named
  subst hsz
  have hD := hD0.self (sz := s.heap.size)
  have hl := lv_entry ([.ref (a_t 0), .int x1]) (n := 2) (Nat.le_of_ble_eq_true rfl)
  rw [lg_entry_eq]
  exact k_X4_valueOf_0 ⟨B.exec, B.bytes, B.returns, atoms_spec (ws := wsX4_valueOf) B.pre, hown, B.notSynchronized, hml⟩ (fun q h => Or.inr h) hK hl hP hD va_S.rf hw
/-! X4_change: change(II)V -/
theorem fi_X4_change_X4 : ∀ w ∈ wsX40, w ∈ wsX4_change := by decide +kernel
theorem fl_X4_change_1 : ((.fieldLink RX4 15 "OrderTests$State" "head" "J") : Cond) ∈ wsX4_change := by decide +kernel
abbrev rm_X4_change : Room := { frames := 1, cells := 0, slots := 0, locals := 21 }
abbrev q_X4_change (D : va_G) (cA : Nat → ClassId) (A : Nat → Prop) (a_t : Nat → Nat) (t_lengths : Int64) (t_rows : (Nat → Int64)) (post : Int64 → Prop) : Array Value → State → Outcome → State → Prop := va_Qv (fun (u : Int64) => post u) (cOut D cA A (fun (u : Int64) => sh_X4 cA a_t u t_lengths t_rows)) A
set_option maxHeartbeats 4000000 in
set_option maxRecDepth 100000 in
theorem k_X4_change_0 {p : Program} {l : Launch} {e : Env} {s : State} {m : MethodId} {args : Array Value} {below : List Frame} {meth : Method} {c : Code} {D : va_G} {cA : Nat → ClassId} {A : Nat → Prop} {a_t : Nat → Nat} (C : cxm RX4 cX4_change 3 none wsX4_change p s m args meth c) (hA : ∀ q, s.heap.size ≤ q → A q) (hK : va_K D vwCl (tyL cA) s) {t_lengths : Int64} {t_rows : (Nat → Int64)} {post : Int64 → Prop} {x1 : Int32} {x2 : Int32} {t_head : Int64} {H : Heap} {locs : List Loc} {ls : Array Slot} (hl : lv_has ls 3 [(0, .ref (a_t 0)), (1, .int x1), (2, .int x2)]) (hP : va_P D vwCl (sh_X4 cA a_t t_head t_lengths t_rows) H) (hD : va_D A (sh_X4 cA a_t t_head t_lengths t_rows)) (hS : va_S A s.heap H locs) (hw : wp_X4_change_0 post x1 x2 t_head) : W p l e rm_X4_change s m args below meth c H locs 0 0 (MQ below (q_X4_change D cA A a_t t_lengths t_rows post) args s 0 0 A) (F0 m 0 ls []) := by
  obtain ⟨hx, hb, hr, hts, hown, hlocks, hml⟩ := id C
  unfold wp_X4_change_0 at hw
  refine lv_aload_n hx hb dX4_change_0 rfl (lv_at hl 0 rfl) ?_
  refine lv_dup hx hb dX4_change_1 rfl ?_
  refine va_get (D := D) (ci := 4) (v := .long t_head) (C := RX4) (T := TX4) (N := 3) hx hb hts fi_X4_change_X4 hown hK hP 0 rfl rfl 0 (by decide) (hts _ fl_X4_change_1) (fun _ h9 => h9) rfl dX4_change_2 ?_
  refine lv_aload_n hx hb dX4_change_5 rfl (lv_at hl 0 rfl) ?_
  refine lv_iload_n hx hb dX4_change_6 rfl (lv_at hl 1 rfl) ?_
  refine cV_i (As := [.int x1]) (rest := [.long t_head, .ref (a_t 0)]) (wr := []) (w2 := (fun (u : Unit) => sh_X4 cA a_t t_head t_lengths t_rows)) ⟨hx, hb, hml, hown, hts⟩ (c_X4_valueOf l D cA a_t H.size t_head t_lengths t_rows x1 _ hw) (cwV 1 hts gX4_change_X4_valueOf rfl rfl rfl (by decide +kernel) ⟨(Nat.le_of_ble_eq_true rfl), (Nat.le_of_ble_eq_true rfl)⟩) hK hP hD hS hA [0, 1] [] [0, 1] rfl rfl rfl rfl (by decide) rfl (fun _ => rfl) rfl rfl rfl hl.1 rfl (Nat.le_of_ble_eq_true rfl) dX4_change_7 ⟨Nat.le_refl _, Nat.le_refl _⟩ (fun r1 u H locs hw hP hD hS => ?_)
  try dsimp only at hw
  have hP : va_P D vwCl (sh_X4 cA a_t t_head t_lengths t_rows) H := hP
  have hD : va_D A (sh_X4 cA a_t t_head t_lengths t_rows) := hD
  refine lv_iload_n hx hb dX4_change_10 rfl (lv_at hl 2 rfl) ?_
  refine lv_ixor hx hb dX4_change_11 ?_
  refine lv_i2l hx hb dX4_change_12 rfl ?_
  refine lv_iconst (v := 4) hx hb dX4_change_13 (by decide) ?_
  refine lv_iload_n hx hb dX4_change_14 rfl (lv_at hl 1 rfl) ?_
  refine lv_imul hx hb dX4_change_15 ?_
  refine lv_lshl hx hb dX4_change_16 rfl ?_
  refine lv_lxor hx hb dX4_change_17 ?_
  refine va_put (D := D) (ci := 4) (v := .long (t_head ^^^ ((r1 ^^^ x2).toInt64 <<< ((4 * x1).toInt64 &&& 63)))) (ty := .long) (C := RX4) (T := TX4) (N := 3) hx hb hts fi_X4_change_X4 tyX4 tyX4_ok nmX4 hown hK hP hD hS 0 rfl rfl 0 (by decide) (hts _ fl_X4_change_1) (fun _ h9 => h9) rfl (by decide +kernel) rfl rfl (Nat.le_of_ble_eq_true rfl) dX4_change_18 (fun H locs hP hD hS => ?_)
  have hP : va_P D vwCl (sh_X4 cA a_t (t_head ^^^ ((r1 ^^^ x2).toInt64 <<< ((4 * x1).toInt64 &&& 63))) t_lengths t_rows) H := hP
  have hD : va_D A (sh_X4 cA a_t (t_head ^^^ ((r1 ^^^ x2).toInt64 <<< ((4 * x1).toInt64 &&& 63))) t_lengths t_rows) := hD
  exact W.vret hx hb hr (fun t ht hW => ⟨⟨((t_head ^^^ ((r1 ^^^ x2).toInt64 <<< ((4 * x1).toInt64 &&& 63)))), rfl, hw, by rw [ht]; exact hP, va_K.moved hW.alike hK, hD⟩, hS.F ht⟩) hS.2.2 dX4_change_21
set_option maxHeartbeats 4000000 in
set_option maxRecDepth 100000 in
theorem c_X4_change (l : Launch) (D : va_G) (cA : Nat → ClassId) (a_t : Nat → Nat) (sz : Nat) (t_head : Int64) (t_lengths : Int64) (t_rows : (Nat → Int64)) (x1 : Int32) (x2 : Int32) (post : Int64 → Prop) (hw : wp_X4_change t_head x1 x2 post) : Met l yX4_change wsX4_change rm_X4_change (cPre D cA sz [.ref (a_t 0), .int x1, .int x2] (sh_X4 cA a_t t_head t_lengths t_rows)) (q_X4_change D cA (va_A (sh_X4 cA a_t t_head t_lengths t_rows) sz) a_t t_lengths t_rows post) 0 0 (va_A (sh_X4 cA a_t t_head t_lengths t_rows) sz) := by
  refine Met.ofW (cc := cX4_change) (maxL := 3) (ret := none) (by decide) rfl ?_
  intro p e s m args below meth c s₁ B hml hv
  obtain ⟨rfl, hsz, hP, hK, hD0⟩ := hv
  have hown : s.vm.findClass RX4 = some m.cls := findClass_of_methodNamed B.named
  subst hsz
  have hD := hD0.self (sz := s.heap.size)
  have hl := lv_entry ([.ref (a_t 0), .int x1, .int x2]) (n := 3) (Nat.le_of_ble_eq_true rfl)
  rw [lg_entry_eq]
  exact k_X4_change_0 ⟨B.exec, B.bytes, B.returns, atoms_spec (ws := wsX4_change) B.pre, hown, B.notSynchronized, hml⟩ (fun q h => Or.inr h) hK hl hP hD va_S.rf hw
/-! X4_sentBy: sentBy(I)I -/
theorem fi_X4_sentBy_X4 : ∀ w ∈ wsX40, w ∈ wsX4_sentBy := by decide +kernel
theorem fl_X4_sentBy_1 : ((.fieldLink RX4 15 "OrderTests$State" "head" "J") : Cond) ∈ wsX4_sentBy := by decide +kernel
abbrev rm_X4_sentBy : Room := { frames := 0, cells := 0, slots := 0, locals := 0 }
abbrev q_X4_sentBy (D : va_G) (cA : Nat → ClassId) (A : Nat → Prop) (a_t : Nat → Nat) (t_head : Int64) (t_lengths : Int64) (t_rows : (Nat → Int64)) (post : Int32 → Prop) : Array Value → State → Outcome → State → Prop := va_Qi (fun (r : Int32) (u : Unit) => post r) (cOut D cA A (fun (u : Unit) => sh_X4 cA a_t t_head t_lengths t_rows)) A
set_option maxHeartbeats 4000000 in
set_option maxRecDepth 100000 in
theorem k_X4_sentBy_0 {p : Program} {l : Launch} {e : Env} {s : State} {m : MethodId} {args : Array Value} {below : List Frame} {meth : Method} {c : Code} {D : va_G} {cA : Nat → ClassId} {A : Nat → Prop} {a_t : Nat → Nat} (C : cxm RX4 cX4_sentBy 2 (some .int) wsX4_sentBy p s m args meth c) (hA : ∀ q, s.heap.size ≤ q → A q) (hK : va_K D vwCl (tyL cA) s) {t_head : Int64} {t_lengths : Int64} {t_rows : (Nat → Int64)} {post : Int32 → Prop} {x1 : Int32} {H : Heap} {locs : List Loc} {ls : Array Slot} (hl : lv_has ls 2 [(0, .ref (a_t 0)), (1, .int x1)]) (hP : va_P D vwCl (sh_X4 cA a_t t_head t_lengths t_rows) H) (hD : va_D A (sh_X4 cA a_t t_head t_lengths t_rows)) (hS : va_S A s.heap H locs) (hw : wp_X4_sentBy_0 t_head post x1) : W p l e rm_X4_sentBy s m args below meth c H locs 0 0 (MQ below (q_X4_sentBy D cA A a_t t_head t_lengths t_rows post) args s 0 0 A) (F0 m 0 ls []) := by
  obtain ⟨hx, hb, hr, hts, hown, hlocks, hml⟩ := id C
  unfold wp_X4_sentBy_0 at hw
  refine lv_aload_n hx hb dX4_sentBy_0 rfl (lv_at hl 0 rfl) ?_
  refine va_get (D := D) (ci := 4) (v := .long t_head) (C := RX4) (T := TX4) (N := 3) hx hb hts fi_X4_sentBy_X4 hown hK hP 0 rfl rfl 0 (by decide) (hts _ fl_X4_sentBy_1) (fun _ h9 => h9) rfl dX4_sentBy_1 ?_
  refine lv_bipush (v := 20) hx hb dX4_sentBy_4 (by decide) ?_
  refine lv_iconst (v := 5) hx hb dX4_sentBy_6 (by decide) ?_
  refine lv_iload_n hx hb dX4_sentBy_7 rfl (lv_at hl 1 rfl) ?_
  refine lv_imul hx hb dX4_sentBy_8 ?_
  refine lv_iadd hx hb dX4_sentBy_9 ?_
  refine lv_lushr hx hb dX4_sentBy_10 rfl ?_
  refine lv_l2i hx hb dX4_sentBy_11 rfl ?_
  refine lv_bipush (v := 31) hx hb dX4_sentBy_12 (by decide) ?_
  refine lv_iand hx hb dX4_sentBy_14 ?_
  exact W.iret (v := (((t_head.toUInt64 >>> ((20 + (5 * x1)).toInt64.toUInt64 &&& Int64.toUInt64 63)).toInt64).toInt32 &&& 31)) hx hb hr (fun t ht hW => ⟨⟨(((t_head.toUInt64 >>> ((20 + (5 * x1)).toInt64.toUInt64 &&& Int64.toUInt64 63)).toInt64).toInt32 &&& 31), (), rfl, hw, by rw [ht]; exact hP, va_K.moved hW.alike hK, hD⟩, hS.F ht⟩) hS.2.2 dX4_sentBy_15
set_option maxHeartbeats 4000000 in
set_option maxRecDepth 100000 in
theorem c_X4_sentBy (l : Launch) (D : va_G) (cA : Nat → ClassId) (a_t : Nat → Nat) (sz : Nat) (t_head : Int64) (t_lengths : Int64) (t_rows : (Nat → Int64)) (x1 : Int32) (post : Int32 → Prop) (hw : wp_X4_sentBy t_head x1 post) : Met l yX4_sentBy wsX4_sentBy rm_X4_sentBy (cPre D cA sz [.ref (a_t 0), .int x1] (sh_X4 cA a_t t_head t_lengths t_rows)) (q_X4_sentBy D cA (va_A (sh_X4 cA a_t t_head t_lengths t_rows) sz) a_t t_head t_lengths t_rows post) 0 0 (va_A (sh_X4 cA a_t t_head t_lengths t_rows) sz) := by
  refine Met.ofW (cc := cX4_sentBy) (maxL := 2) (ret := (some .int)) (by decide) rfl ?_
  intro p e s m args below meth c s₁ B hml hv
  obtain ⟨rfl, hsz, hP, hK, hD0⟩ := hv
  have hown : s.vm.findClass RX4 = some m.cls := findClass_of_methodNamed B.named
  subst hsz
  have hD := hD0.self (sz := s.heap.size)
  have hl := lv_entry ([.ref (a_t 0), .int x1]) (n := 2) (Nat.le_of_ble_eq_true rfl)
  rw [lg_entry_eq]
  exact k_X4_sentBy_0 ⟨B.exec, B.bytes, B.returns, atoms_spec (ws := wsX4_sentBy) B.pre, hown, B.notSynchronized, hml⟩ (fun q h => Or.inr h) hK hl hP hD va_S.rf hw
/-! X4_countSend: countSend(I)V -/
theorem fi_X4_countSend_X4 : ∀ w ∈ wsX40, w ∈ wsX4_countSend := by decide +kernel
theorem fl_X4_countSend_1 : ((.fieldLink RX4 15 "OrderTests$State" "head" "J") : Cond) ∈ wsX4_countSend := by decide +kernel
abbrev rm_X4_countSend : Room := { frames := 0, cells := 0, slots := 0, locals := 0 }
abbrev q_X4_countSend (D : va_G) (cA : Nat → ClassId) (A : Nat → Prop) (a_t : Nat → Nat) (t_lengths : Int64) (t_rows : (Nat → Int64)) (post : Int64 → Prop) : Array Value → State → Outcome → State → Prop := va_Qv (fun (u : Int64) => post u) (cOut D cA A (fun (u : Int64) => sh_X4 cA a_t u t_lengths t_rows)) A
set_option maxHeartbeats 4000000 in
set_option maxRecDepth 100000 in
theorem k_X4_countSend_0 {p : Program} {l : Launch} {e : Env} {s : State} {m : MethodId} {args : Array Value} {below : List Frame} {meth : Method} {c : Code} {D : va_G} {cA : Nat → ClassId} {A : Nat → Prop} {a_t : Nat → Nat} (C : cxm RX4 cX4_countSend 2 none wsX4_countSend p s m args meth c) (hA : ∀ q, s.heap.size ≤ q → A q) (hK : va_K D vwCl (tyL cA) s) {t_lengths : Int64} {t_rows : (Nat → Int64)} {post : Int64 → Prop} {x1 : Int32} {t_head : Int64} {H : Heap} {locs : List Loc} {ls : Array Slot} (hl : lv_has ls 2 [(0, .ref (a_t 0)), (1, .int x1)]) (hP : va_P D vwCl (sh_X4 cA a_t t_head t_lengths t_rows) H) (hD : va_D A (sh_X4 cA a_t t_head t_lengths t_rows)) (hS : va_S A s.heap H locs) (hw : wp_X4_countSend_0 post x1 t_head) : W p l e rm_X4_countSend s m args below meth c H locs 0 0 (MQ below (q_X4_countSend D cA A a_t t_lengths t_rows post) args s 0 0 A) (F0 m 0 ls []) := by
  obtain ⟨hx, hb, hr, hts, hown, hlocks, hml⟩ := id C
  unfold wp_X4_countSend_0 at hw
  refine lv_aload_n hx hb dX4_countSend_0 rfl (lv_at hl 0 rfl) ?_
  refine lv_dup hx hb dX4_countSend_1 rfl ?_
  refine va_get (D := D) (ci := 4) (v := .long t_head) (C := RX4) (T := TX4) (N := 3) hx hb hts fi_X4_countSend_X4 hown hK hP 0 rfl rfl 0 (by decide) (hts _ fl_X4_countSend_1) (fun _ h9 => h9) rfl dX4_countSend_2 ?_
  refine lv_lconst (v := 1) hx hb dX4_countSend_5 (by decide) ?_
  refine lv_bipush (v := 20) hx hb dX4_countSend_6 (by decide) ?_
  refine lv_iconst (v := 5) hx hb dX4_countSend_8 (by decide) ?_
  refine lv_iload_n hx hb dX4_countSend_9 rfl (lv_at hl 1 rfl) ?_
  refine lv_imul hx hb dX4_countSend_10 ?_
  refine lv_iadd hx hb dX4_countSend_11 ?_
  refine lv_lshl hx hb dX4_countSend_12 rfl ?_
  refine lv_ladd hx hb dX4_countSend_13 ?_
  refine va_put (D := D) (ci := 4) (v := .long (t_head + ((1 : Int64) <<< ((20 + (5 * x1)).toInt64 &&& 63)))) (ty := .long) (C := RX4) (T := TX4) (N := 3) hx hb hts fi_X4_countSend_X4 tyX4 tyX4_ok nmX4 hown hK hP hD hS 0 rfl rfl 0 (by decide) (hts _ fl_X4_countSend_1) (fun _ h9 => h9) rfl (by decide +kernel) rfl rfl (Nat.le_of_ble_eq_true rfl) dX4_countSend_14 (fun H locs hP hD hS => ?_)
  have hP : va_P D vwCl (sh_X4 cA a_t (t_head + ((1 : Int64) <<< ((20 + (5 * x1)).toInt64 &&& 63))) t_lengths t_rows) H := hP
  have hD : va_D A (sh_X4 cA a_t (t_head + ((1 : Int64) <<< ((20 + (5 * x1)).toInt64 &&& 63))) t_lengths t_rows) := hD
  exact W.vret hx hb hr (fun t ht hW => ⟨⟨((t_head + ((1 : Int64) <<< ((20 + (5 * x1)).toInt64 &&& 63)))), rfl, hw, by rw [ht]; exact hP, va_K.moved hW.alike hK, hD⟩, hS.F ht⟩) hS.2.2 dX4_countSend_17
set_option maxHeartbeats 4000000 in
set_option maxRecDepth 100000 in
theorem c_X4_countSend (l : Launch) (D : va_G) (cA : Nat → ClassId) (a_t : Nat → Nat) (sz : Nat) (t_head : Int64) (t_lengths : Int64) (t_rows : (Nat → Int64)) (x1 : Int32) (post : Int64 → Prop) (hw : wp_X4_countSend t_head x1 post) : Met l yX4_countSend wsX4_countSend rm_X4_countSend (cPre D cA sz [.ref (a_t 0), .int x1] (sh_X4 cA a_t t_head t_lengths t_rows)) (q_X4_countSend D cA (va_A (sh_X4 cA a_t t_head t_lengths t_rows) sz) a_t t_lengths t_rows post) 0 0 (va_A (sh_X4 cA a_t t_head t_lengths t_rows) sz) := by
  refine Met.ofW (cc := cX4_countSend) (maxL := 2) (ret := none) (by decide) rfl ?_
  intro p e s m args below meth c s₁ B hml hv
  obtain ⟨rfl, hsz, hP, hK, hD0⟩ := hv
  have hown : s.vm.findClass RX4 = some m.cls := findClass_of_methodNamed B.named
  subst hsz
  have hD := hD0.self (sz := s.heap.size)
  have hl := lv_entry ([.ref (a_t 0), .int x1]) (n := 2) (Nat.le_of_ble_eq_true rfl)
  rw [lg_entry_eq]
  exact k_X4_countSend_0 ⟨B.exec, B.bytes, B.returns, atoms_spec (ws := wsX4_countSend) B.pre, hown, B.notSynchronized, hml⟩ (fun q h => Or.inr h) hK hl hP hD va_S.rf hw
/-! X4_hasCome: hasCome(I)Z -/
theorem fi_X4_hasCome_X4 : ∀ w ∈ wsX40, w ∈ wsX4_hasCome := by decide +kernel
theorem fl_X4_hasCome_1 : ((.fieldLink RX4 15 "OrderTests$State" "head" "J") : Cond) ∈ wsX4_hasCome := by decide +kernel
abbrev rm_X4_hasCome : Room := { frames := 0, cells := 0, slots := 0, locals := 0 }
abbrev q_X4_hasCome (D : va_G) (cA : Nat → ClassId) (A : Nat → Prop) (a_t : Nat → Nat) (t_head : Int64) (t_lengths : Int64) (t_rows : (Nat → Int64)) (post : Int32 → Prop) : Array Value → State → Outcome → State → Prop := va_Qi (fun (r : Int32) (u : Unit) => post r) (cOut D cA A (fun (u : Unit) => sh_X4 cA a_t t_head t_lengths t_rows)) A
set_option maxHeartbeats 4000000 in
set_option maxRecDepth 100000 in
theorem k_X4_hasCome_0 {p : Program} {l : Launch} {e : Env} {s : State} {m : MethodId} {args : Array Value} {below : List Frame} {meth : Method} {c : Code} {D : va_G} {cA : Nat → ClassId} {A : Nat → Prop} {a_t : Nat → Nat} (C : cxm RX4 cX4_hasCome 2 (some .boolean) wsX4_hasCome p s m args meth c) (hA : ∀ q, s.heap.size ≤ q → A q) (hK : va_K D vwCl (tyL cA) s) {t_head : Int64} {t_lengths : Int64} {t_rows : (Nat → Int64)} {post : Int32 → Prop} {x1 : Int32} {H : Heap} {locs : List Loc} {ls : Array Slot} (hl : lv_has ls 2 [(0, .ref (a_t 0)), (1, .int x1)]) (hP : va_P D vwCl (sh_X4 cA a_t t_head t_lengths t_rows) H) (hD : va_D A (sh_X4 cA a_t t_head t_lengths t_rows)) (hS : va_S A s.heap H locs) (hw : wp_X4_hasCome_0 t_head post x1) : W p l e rm_X4_hasCome s m args below meth c H locs 0 0 (MQ below (q_X4_hasCome D cA A a_t t_head t_lengths t_rows post) args s 0 0 A) (F0 m 0 ls []) := by
  obtain ⟨hx, hb, hr, hts, hown, hlocks, hml⟩ := id C
  unfold wp_X4_hasCome_0 at hw
  refine lv_aload_n hx hb dX4_hasCome_0 rfl (lv_at hl 0 rfl) ?_
  refine va_get (D := D) (ci := 4) (v := .long t_head) (C := RX4) (T := TX4) (N := 3) hx hb hts fi_X4_hasCome_X4 hown hK hP 0 rfl rfl 0 (by decide) (hts _ fl_X4_hasCome_1) (fun _ h9 => h9) rfl dX4_hasCome_1 ?_
  refine lv_bipush (v := 45) hx hb dX4_hasCome_4 (by decide) ?_
  refine lv_iload_n hx hb dX4_hasCome_6 rfl (lv_at hl 1 rfl) ?_
  refine lv_iadd hx hb dX4_hasCome_7 ?_
  refine lv_lushr hx hb dX4_hasCome_8 rfl ?_
  refine lv_lconst (v := 1) hx hb dX4_hasCome_9 (by decide) ?_
  refine lv_land hx hb dX4_hasCome_10 ?_
  refine lv_lconst (v := 0) hx hb dX4_hasCome_11 (by decide) ?_
  refine W.lcmp hx hb dX4_hasCome_12 ?_
  refine lv_if_eq (tgt := 20) hx hb dX4_hasCome_13 (by decide) (fun hc => ?_) (fun hc => ?_)
  · have hw := hw.1 hc
    refine lv_iconst (v := 0) hx hb dX4_hasCome_20 (by decide) ?_
    exact W.zret (v := 0) hx hb hr rfl (fun t ht hW => ⟨⟨0, (), rfl, hw, by rw [ht]; exact hP, va_K.moved hW.alike hK, hD⟩, hS.F ht⟩) hS.2.2 dX4_hasCome_21
  · have hw := hw.2 hc
    refine lv_iconst (v := 1) hx hb dX4_hasCome_16 (by decide) ?_
    refine lv_goto (tgt := 21) hx hb dX4_hasCome_17 (by decide) ?_
    exact W.zret (v := 1) hx hb hr rfl (fun t ht hW => ⟨⟨1, (), rfl, hw, by rw [ht]; exact hP, va_K.moved hW.alike hK, hD⟩, hS.F ht⟩) hS.2.2 dX4_hasCome_21
set_option maxHeartbeats 4000000 in
set_option maxRecDepth 100000 in
theorem c_X4_hasCome (l : Launch) (D : va_G) (cA : Nat → ClassId) (a_t : Nat → Nat) (sz : Nat) (t_head : Int64) (t_lengths : Int64) (t_rows : (Nat → Int64)) (x1 : Int32) (post : Int32 → Prop) (hw : wp_X4_hasCome t_head x1 post) : Met l yX4_hasCome wsX4_hasCome rm_X4_hasCome (cPre D cA sz [.ref (a_t 0), .int x1] (sh_X4 cA a_t t_head t_lengths t_rows)) (q_X4_hasCome D cA (va_A (sh_X4 cA a_t t_head t_lengths t_rows) sz) a_t t_head t_lengths t_rows post) 0 0 (va_A (sh_X4 cA a_t t_head t_lengths t_rows) sz) := by
  refine Met.ofW (cc := cX4_hasCome) (maxL := 2) (ret := (some .boolean)) (by decide) rfl ?_
  intro p e s m args below meth c s₁ B hml hv
  obtain ⟨rfl, hsz, hP, hK, hD0⟩ := hv
  have hown : s.vm.findClass RX4 = some m.cls := findClass_of_methodNamed B.named
  subst hsz
  have hD := hD0.self (sz := s.heap.size)
  have hl := lv_entry ([.ref (a_t 0), .int x1]) (n := 2) (Nat.le_of_ble_eq_true rfl)
  rw [lg_entry_eq]
  exact k_X4_hasCome_0 ⟨B.exec, B.bytes, B.returns, atoms_spec (ws := wsX4_hasCome) B.pre, hown, B.notSynchronized, hml⟩ (fun q h => Or.inr h) hK hl hP hD va_S.rf hw
/-! X4_markCome: markCome(I)V -/
theorem fi_X4_markCome_X4 : ∀ w ∈ wsX40, w ∈ wsX4_markCome := by decide +kernel
theorem fl_X4_markCome_1 : ((.fieldLink RX4 15 "OrderTests$State" "head" "J") : Cond) ∈ wsX4_markCome := by decide +kernel
abbrev rm_X4_markCome : Room := { frames := 0, cells := 0, slots := 0, locals := 0 }
abbrev q_X4_markCome (D : va_G) (cA : Nat → ClassId) (A : Nat → Prop) (a_t : Nat → Nat) (t_lengths : Int64) (t_rows : (Nat → Int64)) (post : Int64 → Prop) : Array Value → State → Outcome → State → Prop := va_Qv (fun (u : Int64) => post u) (cOut D cA A (fun (u : Int64) => sh_X4 cA a_t u t_lengths t_rows)) A
set_option maxHeartbeats 4000000 in
set_option maxRecDepth 100000 in
theorem k_X4_markCome_0 {p : Program} {l : Launch} {e : Env} {s : State} {m : MethodId} {args : Array Value} {below : List Frame} {meth : Method} {c : Code} {D : va_G} {cA : Nat → ClassId} {A : Nat → Prop} {a_t : Nat → Nat} (C : cxm RX4 cX4_markCome 2 none wsX4_markCome p s m args meth c) (hA : ∀ q, s.heap.size ≤ q → A q) (hK : va_K D vwCl (tyL cA) s) {t_lengths : Int64} {t_rows : (Nat → Int64)} {post : Int64 → Prop} {x1 : Int32} {t_head : Int64} {H : Heap} {locs : List Loc} {ls : Array Slot} (hl : lv_has ls 2 [(0, .ref (a_t 0)), (1, .int x1)]) (hP : va_P D vwCl (sh_X4 cA a_t t_head t_lengths t_rows) H) (hD : va_D A (sh_X4 cA a_t t_head t_lengths t_rows)) (hS : va_S A s.heap H locs) (hw : wp_X4_markCome_0 post x1 t_head) : W p l e rm_X4_markCome s m args below meth c H locs 0 0 (MQ below (q_X4_markCome D cA A a_t t_lengths t_rows post) args s 0 0 A) (F0 m 0 ls []) := by
  obtain ⟨hx, hb, hr, hts, hown, hlocks, hml⟩ := id C
  unfold wp_X4_markCome_0 at hw
  refine lv_aload_n hx hb dX4_markCome_0 rfl (lv_at hl 0 rfl) ?_
  refine lv_dup hx hb dX4_markCome_1 rfl ?_
  refine va_get (D := D) (ci := 4) (v := .long t_head) (C := RX4) (T := TX4) (N := 3) hx hb hts fi_X4_markCome_X4 hown hK hP 0 rfl rfl 0 (by decide) (hts _ fl_X4_markCome_1) (fun _ h9 => h9) rfl dX4_markCome_2 ?_
  refine lv_lconst (v := 1) hx hb dX4_markCome_5 (by decide) ?_
  refine lv_bipush (v := 45) hx hb dX4_markCome_6 (by decide) ?_
  refine lv_iload_n hx hb dX4_markCome_8 rfl (lv_at hl 1 rfl) ?_
  refine lv_iadd hx hb dX4_markCome_9 ?_
  refine lv_lshl hx hb dX4_markCome_10 rfl ?_
  refine lv_lor hx hb dX4_markCome_11 ?_
  refine va_put (D := D) (ci := 4) (v := .long (t_head ||| ((1 : Int64) <<< ((45 + x1).toInt64 &&& 63)))) (ty := .long) (C := RX4) (T := TX4) (N := 3) hx hb hts fi_X4_markCome_X4 tyX4 tyX4_ok nmX4 hown hK hP hD hS 0 rfl rfl 0 (by decide) (hts _ fl_X4_markCome_1) (fun _ h9 => h9) rfl (by decide +kernel) rfl rfl (Nat.le_of_ble_eq_true rfl) dX4_markCome_12 (fun H locs hP hD hS => ?_)
  have hP : va_P D vwCl (sh_X4 cA a_t (t_head ||| ((1 : Int64) <<< ((45 + x1).toInt64 &&& 63))) t_lengths t_rows) H := hP
  have hD : va_D A (sh_X4 cA a_t (t_head ||| ((1 : Int64) <<< ((45 + x1).toInt64 &&& 63))) t_lengths t_rows) := hD
  exact W.vret hx hb hr (fun t ht hW => ⟨⟨((t_head ||| ((1 : Int64) <<< ((45 + x1).toInt64 &&& 63)))), rfl, hw, by rw [ht]; exact hP, va_K.moved hW.alike hK, hD⟩, hS.F ht⟩) hS.2.2 dX4_markCome_15
set_option maxHeartbeats 4000000 in
set_option maxRecDepth 100000 in
theorem c_X4_markCome (l : Launch) (D : va_G) (cA : Nat → ClassId) (a_t : Nat → Nat) (sz : Nat) (t_head : Int64) (t_lengths : Int64) (t_rows : (Nat → Int64)) (x1 : Int32) (post : Int64 → Prop) (hw : wp_X4_markCome t_head x1 post) : Met l yX4_markCome wsX4_markCome rm_X4_markCome (cPre D cA sz [.ref (a_t 0), .int x1] (sh_X4 cA a_t t_head t_lengths t_rows)) (q_X4_markCome D cA (va_A (sh_X4 cA a_t t_head t_lengths t_rows) sz) a_t t_lengths t_rows post) 0 0 (va_A (sh_X4 cA a_t t_head t_lengths t_rows) sz) := by
  refine Met.ofW (cc := cX4_markCome) (maxL := 2) (ret := none) (by decide) rfl ?_
  intro p e s m args below meth c s₁ B hml hv
  obtain ⟨rfl, hsz, hP, hK, hD0⟩ := hv
  have hown : s.vm.findClass RX4 = some m.cls := findClass_of_methodNamed B.named
  subst hsz
  have hD := hD0.self (sz := s.heap.size)
  have hl := lv_entry ([.ref (a_t 0), .int x1]) (n := 2) (Nat.le_of_ble_eq_true rfl)
  rw [lg_entry_eq]
  exact k_X4_markCome_0 ⟨B.exec, B.bytes, B.returns, atoms_spec (ws := wsX4_markCome) B.pre, hown, B.notSynchronized, hml⟩ (fun q h => Or.inr h) hK hl hP hD va_S.rf hw
/-! X4_doublesLeft: doublesLeft()I -/
theorem fi_X4_doublesLeft_X4 : ∀ w ∈ wsX40, w ∈ wsX4_doublesLeft := by decide +kernel
theorem fl_X4_doublesLeft_1 : ((.fieldLink RX4 15 "OrderTests$State" "head" "J") : Cond) ∈ wsX4_doublesLeft := by decide +kernel
abbrev rm_X4_doublesLeft : Room := { frames := 0, cells := 0, slots := 0, locals := 0 }
abbrev q_X4_doublesLeft (D : va_G) (cA : Nat → ClassId) (A : Nat → Prop) (a_t : Nat → Nat) (t_head : Int64) (t_lengths : Int64) (t_rows : (Nat → Int64)) (post : Int32 → Prop) : Array Value → State → Outcome → State → Prop := va_Qi (fun (r : Int32) (u : Unit) => post r) (cOut D cA A (fun (u : Unit) => sh_X4 cA a_t t_head t_lengths t_rows)) A
set_option maxHeartbeats 4000000 in
set_option maxRecDepth 100000 in
theorem k_X4_doublesLeft_0 {p : Program} {l : Launch} {e : Env} {s : State} {m : MethodId} {args : Array Value} {below : List Frame} {meth : Method} {c : Code} {D : va_G} {cA : Nat → ClassId} {A : Nat → Prop} {a_t : Nat → Nat} (C : cxm RX4 cX4_doublesLeft 1 (some .int) wsX4_doublesLeft p s m args meth c) (hA : ∀ q, s.heap.size ≤ q → A q) (hK : va_K D vwCl (tyL cA) s) {t_head : Int64} {t_lengths : Int64} {t_rows : (Nat → Int64)} {post : Int32 → Prop} {H : Heap} {locs : List Loc} {ls : Array Slot} (hl : lv_has ls 1 [(0, .ref (a_t 0))]) (hP : va_P D vwCl (sh_X4 cA a_t t_head t_lengths t_rows) H) (hD : va_D A (sh_X4 cA a_t t_head t_lengths t_rows)) (hS : va_S A s.heap H locs) (hw : wp_X4_doublesLeft_0 t_head post) : W p l e rm_X4_doublesLeft s m args below meth c H locs 0 0 (MQ below (q_X4_doublesLeft D cA A a_t t_head t_lengths t_rows post) args s 0 0 A) (F0 m 0 ls []) := by
  obtain ⟨hx, hb, hr, hts, hown, hlocks, hml⟩ := id C
  unfold wp_X4_doublesLeft_0 at hw
  refine lv_aload_n hx hb dX4_doublesLeft_0 rfl (lv_at hl 0 rfl) ?_
  refine va_get (D := D) (ci := 4) (v := .long t_head) (C := RX4) (T := TX4) (N := 3) hx hb hts fi_X4_doublesLeft_X4 hown hK hP 0 rfl rfl 0 (by decide) (hts _ fl_X4_doublesLeft_1) (fun _ h9 => h9) rfl dX4_doublesLeft_1 ?_
  refine lv_bipush (v := 49) hx hb dX4_doublesLeft_4 (by decide) ?_
  refine lv_lushr hx hb dX4_doublesLeft_6 rfl ?_
  refine lv_l2i hx hb dX4_doublesLeft_7 rfl ?_
  refine lv_iconst (v := 3) hx hb dX4_doublesLeft_8 (by decide) ?_
  refine lv_iand hx hb dX4_doublesLeft_9 ?_
  exact W.iret (v := (((t_head.toUInt64 >>> ((49 : Int32).toInt64.toUInt64 &&& Int64.toUInt64 63)).toInt64).toInt32 &&& 3)) hx hb hr (fun t ht hW => ⟨⟨(((t_head.toUInt64 >>> ((49 : Int32).toInt64.toUInt64 &&& Int64.toUInt64 63)).toInt64).toInt32 &&& 3), (), rfl, hw, by rw [ht]; exact hP, va_K.moved hW.alike hK, hD⟩, hS.F ht⟩) hS.2.2 dX4_doublesLeft_10
set_option maxHeartbeats 4000000 in
set_option maxRecDepth 100000 in
theorem c_X4_doublesLeft (l : Launch) (D : va_G) (cA : Nat → ClassId) (a_t : Nat → Nat) (sz : Nat) (t_head : Int64) (t_lengths : Int64) (t_rows : (Nat → Int64)) (post : Int32 → Prop) (hw : wp_X4_doublesLeft t_head post) : Met l yX4_doublesLeft wsX4_doublesLeft rm_X4_doublesLeft (cPre D cA sz [.ref (a_t 0)] (sh_X4 cA a_t t_head t_lengths t_rows)) (q_X4_doublesLeft D cA (va_A (sh_X4 cA a_t t_head t_lengths t_rows) sz) a_t t_head t_lengths t_rows post) 0 0 (va_A (sh_X4 cA a_t t_head t_lengths t_rows) sz) := by
  refine Met.ofW (cc := cX4_doublesLeft) (maxL := 1) (ret := (some .int)) (by decide) rfl ?_
  intro p e s m args below meth c s₁ B hml hv
  obtain ⟨rfl, hsz, hP, hK, hD0⟩ := hv
  have hown : s.vm.findClass RX4 = some m.cls := findClass_of_methodNamed B.named
  subst hsz
  have hD := hD0.self (sz := s.heap.size)
  have hl := lv_entry ([.ref (a_t 0)]) (n := 1) (Nat.le_of_ble_eq_true rfl)
  rw [lg_entry_eq]
  exact k_X4_doublesLeft_0 ⟨B.exec, B.bytes, B.returns, atoms_spec (ws := wsX4_doublesLeft) B.pre, hown, B.notSynchronized, hml⟩ (fun q h => Or.inr h) hK hl hP hD va_S.rf hw
/-! X4_useDouble: useDouble()V -/
theorem fi_X4_useDouble_X4 : ∀ w ∈ wsX40, w ∈ wsX4_useDouble := by decide +kernel
theorem fl_X4_useDouble_1 : ((.fieldLink RX4 15 "OrderTests$State" "head" "J") : Cond) ∈ wsX4_useDouble := by decide +kernel
theorem fl_X4_useDouble_2 : ((.constantLong RX4 49 (562949953421312)) : Cond) ∈ wsX4_useDouble := by decide +kernel
abbrev rm_X4_useDouble : Room := { frames := 0, cells := 0, slots := 0, locals := 0 }
abbrev q_X4_useDouble (D : va_G) (cA : Nat → ClassId) (A : Nat → Prop) (a_t : Nat → Nat) (t_lengths : Int64) (t_rows : (Nat → Int64)) (post : Int64 → Prop) : Array Value → State → Outcome → State → Prop := va_Qv (fun (u : Int64) => post u) (cOut D cA A (fun (u : Int64) => sh_X4 cA a_t u t_lengths t_rows)) A
set_option maxHeartbeats 4000000 in
set_option maxRecDepth 100000 in
theorem k_X4_useDouble_0 {p : Program} {l : Launch} {e : Env} {s : State} {m : MethodId} {args : Array Value} {below : List Frame} {meth : Method} {c : Code} {D : va_G} {cA : Nat → ClassId} {A : Nat → Prop} {a_t : Nat → Nat} (C : cxm RX4 cX4_useDouble 1 none wsX4_useDouble p s m args meth c) (hA : ∀ q, s.heap.size ≤ q → A q) (hK : va_K D vwCl (tyL cA) s) {t_lengths : Int64} {t_rows : (Nat → Int64)} {post : Int64 → Prop} {t_head : Int64} {H : Heap} {locs : List Loc} {ls : Array Slot} (hl : lv_has ls 1 [(0, .ref (a_t 0))]) (hP : va_P D vwCl (sh_X4 cA a_t t_head t_lengths t_rows) H) (hD : va_D A (sh_X4 cA a_t t_head t_lengths t_rows)) (hS : va_S A s.heap H locs) (hw : wp_X4_useDouble_0 post t_head) : W p l e rm_X4_useDouble s m args below meth c H locs 0 0 (MQ below (q_X4_useDouble D cA A a_t t_lengths t_rows post) args s 0 0 A) (F0 m 0 ls []) := by
  obtain ⟨hx, hb, hr, hts, hown, hlocks, hml⟩ := id C
  unfold wp_X4_useDouble_0 at hw
  refine lv_aload_n hx hb dX4_useDouble_0 rfl (lv_at hl 0 rfl) ?_
  refine lv_dup hx hb dX4_useDouble_1 rfl ?_
  refine va_get (D := D) (ci := 4) (v := .long t_head) (C := RX4) (T := TX4) (N := 3) hx hb hts fi_X4_useDouble_X4 hown hK hP 0 rfl rfl 0 (by decide) (hts _ fl_X4_useDouble_1) (fun _ h9 => h9) rfl dX4_useDouble_2 ?_
  refine lv_ldc2 (v := 562949953421312) hx hb hown (hts _ fl_X4_useDouble_2) dX4_useDouble_5 ?_
  refine lv_lsub hx hb dX4_useDouble_8 ?_
  refine va_put (D := D) (ci := 4) (v := .long (t_head - 562949953421312)) (ty := .long) (C := RX4) (T := TX4) (N := 3) hx hb hts fi_X4_useDouble_X4 tyX4 tyX4_ok nmX4 hown hK hP hD hS 0 rfl rfl 0 (by decide) (hts _ fl_X4_useDouble_1) (fun _ h9 => h9) rfl (by decide +kernel) rfl rfl (Nat.le_of_ble_eq_true rfl) dX4_useDouble_9 (fun H locs hP hD hS => ?_)
  have hP : va_P D vwCl (sh_X4 cA a_t (t_head - 562949953421312) t_lengths t_rows) H := hP
  have hD : va_D A (sh_X4 cA a_t (t_head - 562949953421312) t_lengths t_rows) := hD
  exact W.vret hx hb hr (fun t ht hW => ⟨⟨((t_head - 562949953421312)), rfl, hw, by rw [ht]; exact hP, va_K.moved hW.alike hK, hD⟩, hS.F ht⟩) hS.2.2 dX4_useDouble_12
set_option maxHeartbeats 4000000 in
set_option maxRecDepth 100000 in
theorem c_X4_useDouble (l : Launch) (D : va_G) (cA : Nat → ClassId) (a_t : Nat → Nat) (sz : Nat) (t_head : Int64) (t_lengths : Int64) (t_rows : (Nat → Int64)) (post : Int64 → Prop) (hw : wp_X4_useDouble t_head post) : Met l yX4_useDouble wsX4_useDouble rm_X4_useDouble (cPre D cA sz [.ref (a_t 0)] (sh_X4 cA a_t t_head t_lengths t_rows)) (q_X4_useDouble D cA (va_A (sh_X4 cA a_t t_head t_lengths t_rows) sz) a_t t_lengths t_rows post) 0 0 (va_A (sh_X4 cA a_t t_head t_lengths t_rows) sz) := by
  refine Met.ofW (cc := cX4_useDouble) (maxL := 1) (ret := none) (by decide) rfl ?_
  intro p e s m args below meth c s₁ B hml hv
  obtain ⟨rfl, hsz, hP, hK, hD0⟩ := hv
  have hown : s.vm.findClass RX4 = some m.cls := findClass_of_methodNamed B.named
  subst hsz
  have hD := hD0.self (sz := s.heap.size)
  have hl := lv_entry ([.ref (a_t 0)]) (n := 1) (Nat.le_of_ble_eq_true rfl)
  rw [lg_entry_eq]
  exact k_X4_useDouble_0 ⟨B.exec, B.bytes, B.returns, atoms_spec (ws := wsX4_useDouble) B.pre, hown, B.notSynchronized, hml⟩ (fun q h => Or.inr h) hK hl hP hD va_S.rf hw
/-! X4_underWay: underWay(I)I -/
theorem fi_X4_underWay_X4 : ∀ w ∈ wsX40, w ∈ wsX4_underWay := by decide +kernel
theorem fl_X4_underWay_1 : ((.fieldLink RX4 29 "OrderTests$State" "lengths" "J") : Cond) ∈ wsX4_underWay := by decide +kernel
abbrev rm_X4_underWay : Room := { frames := 0, cells := 0, slots := 0, locals := 0 }
abbrev q_X4_underWay (D : va_G) (cA : Nat → ClassId) (A : Nat → Prop) (a_t : Nat → Nat) (t_head : Int64) (t_lengths : Int64) (t_rows : (Nat → Int64)) (post : Int32 → Prop) : Array Value → State → Outcome → State → Prop := va_Qi (fun (r : Int32) (u : Unit) => post r) (cOut D cA A (fun (u : Unit) => sh_X4 cA a_t t_head t_lengths t_rows)) A
set_option maxHeartbeats 4000000 in
set_option maxRecDepth 100000 in
theorem k_X4_underWay_0 {p : Program} {l : Launch} {e : Env} {s : State} {m : MethodId} {args : Array Value} {below : List Frame} {meth : Method} {c : Code} {D : va_G} {cA : Nat → ClassId} {A : Nat → Prop} {a_t : Nat → Nat} (C : cxm RX4 cX4_underWay 2 (some .int) wsX4_underWay p s m args meth c) (hA : ∀ q, s.heap.size ≤ q → A q) (hK : va_K D vwCl (tyL cA) s) {t_head : Int64} {t_lengths : Int64} {t_rows : (Nat → Int64)} {post : Int32 → Prop} {x1 : Int32} {H : Heap} {locs : List Loc} {ls : Array Slot} (hl : lv_has ls 2 [(0, .ref (a_t 0)), (1, .int x1)]) (hP : va_P D vwCl (sh_X4 cA a_t t_head t_lengths t_rows) H) (hD : va_D A (sh_X4 cA a_t t_head t_lengths t_rows)) (hS : va_S A s.heap H locs) (hw : wp_X4_underWay_0 t_lengths post x1) : W p l e rm_X4_underWay s m args below meth c H locs 0 0 (MQ below (q_X4_underWay D cA A a_t t_head t_lengths t_rows post) args s 0 0 A) (F0 m 0 ls []) := by
  obtain ⟨hx, hb, hr, hts, hown, hlocks, hml⟩ := id C
  unfold wp_X4_underWay_0 at hw
  refine lv_aload_n hx hb dX4_underWay_0 rfl (lv_at hl 0 rfl) ?_
  refine va_get (D := D) (ci := 4) (v := .long t_lengths) (C := RX4) (T := TX4) (N := 3) hx hb hts fi_X4_underWay_X4 hown hK hP 0 rfl rfl 1 (by decide) (hts _ fl_X4_underWay_1) (fun _ h9 => h9) rfl dX4_underWay_1 ?_
  refine lv_iconst (v := 5) hx hb dX4_underWay_4 (by decide) ?_
  refine lv_iload_n hx hb dX4_underWay_5 rfl (lv_at hl 1 rfl) ?_
  refine lv_imul hx hb dX4_underWay_6 ?_
  refine lv_lushr hx hb dX4_underWay_7 rfl ?_
  refine lv_l2i hx hb dX4_underWay_8 rfl ?_
  refine lv_bipush (v := 31) hx hb dX4_underWay_9 (by decide) ?_
  refine lv_iand hx hb dX4_underWay_11 ?_
  exact W.iret (v := (((t_lengths.toUInt64 >>> ((5 * x1).toInt64.toUInt64 &&& Int64.toUInt64 63)).toInt64).toInt32 &&& 31)) hx hb hr (fun t ht hW => ⟨⟨(((t_lengths.toUInt64 >>> ((5 * x1).toInt64.toUInt64 &&& Int64.toUInt64 63)).toInt64).toInt32 &&& 31), (), rfl, hw, by rw [ht]; exact hP, va_K.moved hW.alike hK, hD⟩, hS.F ht⟩) hS.2.2 dX4_underWay_12
set_option maxHeartbeats 4000000 in
set_option maxRecDepth 100000 in
theorem c_X4_underWay (l : Launch) (D : va_G) (cA : Nat → ClassId) (a_t : Nat → Nat) (sz : Nat) (t_head : Int64) (t_lengths : Int64) (t_rows : (Nat → Int64)) (x1 : Int32) (post : Int32 → Prop) (hw : wp_X4_underWay t_lengths x1 post) : Met l yX4_underWay wsX4_underWay rm_X4_underWay (cPre D cA sz [.ref (a_t 0), .int x1] (sh_X4 cA a_t t_head t_lengths t_rows)) (q_X4_underWay D cA (va_A (sh_X4 cA a_t t_head t_lengths t_rows) sz) a_t t_head t_lengths t_rows post) 0 0 (va_A (sh_X4 cA a_t t_head t_lengths t_rows) sz) := by
  refine Met.ofW (cc := cX4_underWay) (maxL := 2) (ret := (some .int)) (by decide) rfl ?_
  intro p e s m args below meth c s₁ B hml hv
  obtain ⟨rfl, hsz, hP, hK, hD0⟩ := hv
  have hown : s.vm.findClass RX4 = some m.cls := findClass_of_methodNamed B.named
  subst hsz
  have hD := hD0.self (sz := s.heap.size)
  have hl := lv_entry ([.ref (a_t 0), .int x1]) (n := 2) (Nat.le_of_ble_eq_true rfl)
  rw [lg_entry_eq]
  exact k_X4_underWay_0 ⟨B.exec, B.bytes, B.returns, atoms_spec (ws := wsX4_underWay) B.pre, hown, B.notSynchronized, hml⟩ (fun q h => Or.inr h) hK hl hP hD va_S.rf hw
/-! X4_messageAt: messageAt(II)I -/
theorem fi_X4_messageAt_X4 : ∀ w ∈ wsX40, w ∈ wsX4_messageAt := by decide +kernel
theorem fl_X4_messageAt_1 : ((.fieldLink RX4 11 "OrderTests$State" "rows" "[J") : Cond) ∈ wsX4_messageAt := by decide +kernel
abbrev rm_X4_messageAt : Room := { frames := 0, cells := 0, slots := 0, locals := 0 }
abbrev q_X4_messageAt (D : va_G) (cA : Nat → ClassId) (A : Nat → Prop) (a_t : Nat → Nat) (t_head : Int64) (t_lengths : Int64) (t_rows : (Nat → Int64)) (post : Int32 → Prop) : Array Value → State → Outcome → State → Prop := va_Qi (fun (r : Int32) (u : Unit) => post r) (cOut D cA A (fun (u : Unit) => sh_X4 cA a_t t_head t_lengths t_rows)) A
set_option maxHeartbeats 4000000 in
set_option maxRecDepth 100000 in
theorem k_X4_messageAt_0 {p : Program} {l : Launch} {e : Env} {s : State} {m : MethodId} {args : Array Value} {below : List Frame} {meth : Method} {c : Code} {D : va_G} {cA : Nat → ClassId} {A : Nat → Prop} {a_t : Nat → Nat} (C : cxm RX4 cX4_messageAt 3 (some .int) wsX4_messageAt p s m args meth c) (hA : ∀ q, s.heap.size ≤ q → A q) (hK : va_K D vwCl (tyL cA) s) {t_head : Int64} {t_lengths : Int64} {t_rows : (Nat → Int64)} {post : Int32 → Prop} {x1 : Int32} {x2 : Int32} {H : Heap} {locs : List Loc} {ls : Array Slot} (hl : lv_has ls 3 [(0, .ref (a_t 0)), (1, .int x1), (2, .int x2)]) (hP : va_P D vwCl (sh_X4 cA a_t t_head t_lengths t_rows) H) (hD : va_D A (sh_X4 cA a_t t_head t_lengths t_rows)) (hS : va_S A s.heap H locs) (hw : wp_X4_messageAt_0 t_rows post x1 x2) : W p l e rm_X4_messageAt s m args below meth c H locs 0 0 (MQ below (q_X4_messageAt D cA A a_t t_head t_lengths t_rows post) args s 0 0 A) (F0 m 0 ls []) := by
  obtain ⟨hx, hb, hr, hts, hown, hlocks, hml⟩ := id C
  unfold wp_X4_messageAt_0 at hw
  refine lv_aload_n hx hb dX4_messageAt_0 rfl (lv_at hl 0 rfl) ?_
  refine va_get (D := D) (ci := 4) (v := .ref (a_t 1)) (C := RX4) (T := TX4) (N := 3) hx hb hts fi_X4_messageAt_X4 hown hK hP 0 rfl rfl 2 (by decide) (hts _ fl_X4_messageAt_1) (fun _ h9 => h9) rfl dX4_messageAt_1 ?_
  refine lv_iload_n hx hb dX4_messageAt_4 rfl (lv_at hl 1 rfl) ?_
  obtain ⟨hi1, hw⟩ := hw
  refine va_lald hx hb hK hP 1 1 rfl rfl hi1 dX4_messageAt_5 ?_
  refine lv_iconst (v := 4) hx hb dX4_messageAt_6 (by decide) ?_
  refine lv_iload_n hx hb dX4_messageAt_7 rfl (lv_at hl 2 rfl) ?_
  refine lv_imul hx hb dX4_messageAt_8 ?_
  refine lv_lushr hx hb dX4_messageAt_9 rfl ?_
  refine lv_l2i hx hb dX4_messageAt_10 rfl ?_
  refine lv_bipush (v := 15) hx hb dX4_messageAt_11 (by decide) ?_
  refine lv_iand hx hb dX4_messageAt_13 ?_
  exact W.iret (v := ((((t_rows x1.toNatClampNeg).toUInt64 >>> ((4 * x2).toInt64.toUInt64 &&& Int64.toUInt64 63)).toInt64).toInt32 &&& 15)) hx hb hr (fun t ht hW => ⟨⟨((((t_rows x1.toNatClampNeg).toUInt64 >>> ((4 * x2).toInt64.toUInt64 &&& Int64.toUInt64 63)).toInt64).toInt32 &&& 15), (), rfl, hw, by rw [ht]; exact hP, va_K.moved hW.alike hK, hD⟩, hS.F ht⟩) hS.2.2 dX4_messageAt_14
set_option maxHeartbeats 4000000 in
set_option maxRecDepth 100000 in
theorem c_X4_messageAt (l : Launch) (D : va_G) (cA : Nat → ClassId) (a_t : Nat → Nat) (sz : Nat) (t_head : Int64) (t_lengths : Int64) (t_rows : (Nat → Int64)) (x1 : Int32) (x2 : Int32) (post : Int32 → Prop) (hw : wp_X4_messageAt t_rows x1 x2 post) : Met l yX4_messageAt wsX4_messageAt rm_X4_messageAt (cPre D cA sz [.ref (a_t 0), .int x1, .int x2] (sh_X4 cA a_t t_head t_lengths t_rows)) (q_X4_messageAt D cA (va_A (sh_X4 cA a_t t_head t_lengths t_rows) sz) a_t t_head t_lengths t_rows post) 0 0 (va_A (sh_X4 cA a_t t_head t_lengths t_rows) sz) := by
  refine Met.ofW (cc := cX4_messageAt) (maxL := 3) (ret := (some .int)) (by decide) rfl ?_
  intro p e s m args below meth c s₁ B hml hv
  obtain ⟨rfl, hsz, hP, hK, hD0⟩ := hv
  have hown : s.vm.findClass RX4 = some m.cls := findClass_of_methodNamed B.named
  subst hsz
  have hD := hD0.self (sz := s.heap.size)
  have hl := lv_entry ([.ref (a_t 0), .int x1, .int x2]) (n := 3) (Nat.le_of_ble_eq_true rfl)
  rw [lg_entry_eq]
  exact k_X4_messageAt_0 ⟨B.exec, B.bytes, B.returns, atoms_spec (ws := wsX4_messageAt) B.pre, hown, B.notSynchronized, hml⟩ (fun q h => Or.inr h) hK hl hP hD va_S.rf hw
/-! X4_take: take(II)V -/
theorem fi_X4_take_X4 : ∀ w ∈ wsX40, w ∈ wsX4_take := by decide +kernel
theorem fl_X4_take_1 : ((.fieldLink RX4 11 "OrderTests$State" "rows" "[J") : Cond) ∈ wsX4_take := by decide +kernel
theorem fl_X4_take_2 : ((.fieldLink RX4 29 "OrderTests$State" "lengths" "J") : Cond) ∈ wsX4_take := by decide +kernel
abbrev rm_X4_take : Room := { frames := 0, cells := 0, slots := 0, locals := 0 }
abbrev q_X4_take (D : va_G) (cA : Nat → ClassId) (A : Nat → Prop) (a_t : Nat → Nat) (t_head : Int64) (post : Int64 → (Nat → Int64) → Prop) : Array Value → State → Outcome → State → Prop := va_Qv (fun (u : Int64 × (Nat → Int64)) => post u.1 u.2) (cOut D cA A (fun (u : Int64 × (Nat → Int64)) => sh_X4 cA a_t t_head u.1 u.2)) A
set_option maxHeartbeats 4000000 in
set_option maxRecDepth 100000 in
theorem k_X4_take_0 {p : Program} {l : Launch} {e : Env} {s : State} {m : MethodId} {args : Array Value} {below : List Frame} {meth : Method} {c : Code} {D : va_G} {cA : Nat → ClassId} {A : Nat → Prop} {a_t : Nat → Nat} (C : cxm RX4 cX4_take 10 none wsX4_take p s m args meth c) (hA : ∀ q, s.heap.size ≤ q → A q) (hK : va_K D vwCl (tyL cA) s) {t_head : Int64} {post : Int64 → (Nat → Int64) → Prop} {x1 : Int32} {x2 : Int32} {t_lengths : Int64} {t_rows : (Nat → Int64)} {H : Heap} {locs : List Loc} {ls : Array Slot} (hl : lv_has ls 10 [(0, .ref (a_t 0)), (1, .int x1), (2, .int x2)]) (hP : va_P D vwCl (sh_X4 cA a_t t_head t_lengths t_rows) H) (hD : va_D A (sh_X4 cA a_t t_head t_lengths t_rows)) (hS : va_S A s.heap H locs) (hw : wp_X4_take_0 post x1 x2 t_lengths t_rows) : W p l e rm_X4_take s m args below meth c H locs 0 0 (MQ below (q_X4_take D cA A a_t t_head post) args s 0 0 A) (F0 m 0 ls []) := by
  obtain ⟨hx, hb, hr, hts, hown, hlocks, hml⟩ := id C
  unfold wp_X4_take_0 at hw
  refine lv_iconst (v := 4) hx hb dX4_take_0 (by decide) ?_
  refine lv_iload_n hx hb dX4_take_1 rfl (lv_at hl 2 rfl) ?_
  refine lv_imul hx hb dX4_take_2 ?_
  refine lv_istore_n (lv' := [(3, .int (4 * x2)), (0, .ref (a_t 0)), (1, .int x1), (2, .int x2)]) hx hb dX4_take_3 rfl hl (by decide) rfl (fun ls hl => ?_)
  refine lv_aload_n hx hb dX4_take_4 rfl (lv_at hl 1 rfl) ?_
  refine va_get (D := D) (ci := 4) (v := .ref (a_t 1)) (C := RX4) (T := TX4) (N := 3) hx hb hts fi_X4_take_X4 hown hK hP 0 rfl rfl 2 (by decide) (hts _ fl_X4_take_1) (fun _ h9 => h9) rfl dX4_take_5 ?_
  refine lv_iload_n hx hb dX4_take_8 rfl (lv_at hl 2 rfl) ?_
  obtain ⟨hi1, hw⟩ := hw
  refine va_lald hx hb hK hP 1 1 rfl rfl hi1 dX4_take_9 ?_
  refine lv_topl (fun y2 ey2 => ?_)
  have hw := hw y2 ey2
  refine lv_lstore (lv' := [(4, .long y2), (3, .int (4 * x2)), (0, .ref (a_t 0)), (1, .int x1), (2, .int x2)]) hx hb dX4_take_10 hl (by decide) rfl (fun ls hl => ?_)
  refine lv_lload hx hb dX4_take_12 (lv_at hl 0 rfl) ?_
  refine lv_lconst (v := 1) hx hb dX4_take_14 (by decide) ?_
  refine lv_iload_n hx hb dX4_take_15 rfl (lv_at hl 1 rfl) ?_
  refine lv_lshl hx hb dX4_take_16 rfl ?_
  refine lv_lconst (v := 1) hx hb dX4_take_17 (by decide) ?_
  refine lv_lsub hx hb dX4_take_18 ?_
  refine lv_land hx hb dX4_take_19 ?_
  refine lv_topl (fun y3 ey3 => ?_)
  have hw := hw y3 ey3
  refine lv_lstore (lv' := [(6, .long y3), (4, .long y2), (3, .int (4 * x2)), (0, .ref (a_t 0)), (1, .int x1), (2, .int x2)]) hx hb dX4_take_20 hl (by decide) rfl (fun ls hl => ?_)
  refine lv_lload hx hb dX4_take_22 (lv_at hl 1 rfl) ?_
  refine lv_iload_n hx hb dX4_take_24 rfl (lv_at hl 2 rfl) ?_
  refine lv_lushr hx hb dX4_take_25 rfl ?_
  refine lv_iconst (v := 4) hx hb dX4_take_26 (by decide) ?_
  refine lv_lushr hx hb dX4_take_27 rfl ?_
  refine lv_iload_n hx hb dX4_take_28 rfl (lv_at hl 2 rfl) ?_
  refine lv_lshl hx hb dX4_take_29 rfl ?_
  refine lv_topl (fun y4 ey4 => ?_)
  have hw := hw y4 ey4
  refine lv_lstore (lv' := [(8, .long y4), (6, .long y3), (4, .long y2), (3, .int (4 * x2)), (0, .ref (a_t 0)), (1, .int x1), (2, .int x2)]) hx hb dX4_take_30 hl (by decide) rfl (fun ls hl => ?_)
  refine lv_aload_n hx hb dX4_take_32 rfl (lv_at hl 4 rfl) ?_
  refine va_get (D := D) (ci := 4) (v := .ref (a_t 1)) (C := RX4) (T := TX4) (N := 3) hx hb hts fi_X4_take_X4 hown hK hP 0 rfl rfl 2 (by decide) (hts _ fl_X4_take_1) (fun _ h9 => h9) rfl dX4_take_33 ?_
  refine lv_iload_n hx hb dX4_take_36 rfl (lv_at hl 5 rfl) ?_
  refine lv_lload hx hb dX4_take_37 (lv_at hl 1 rfl) ?_
  refine lv_lload hx hb dX4_take_39 (lv_at hl 0 rfl) ?_
  refine lv_lor hx hb dX4_take_41 ?_
  obtain ⟨hi5, hw⟩ := hw
  refine va_last hx hb hK hP hD hS 1 1 rfl rfl hi5 dX4_take_42 (fun H locs hP hD hS => ?_)
  have hP : va_P D vwCl (sh_X4 cA a_t t_head t_lengths (vp_updL t_rows x1.toNatClampNeg (y3 ||| y4))) H := hP
  have hD : va_D A (sh_X4 cA a_t t_head t_lengths (vp_updL t_rows x1.toNatClampNeg (y3 ||| y4))) := hD
  refine lv_aload_n hx hb dX4_take_43 rfl (lv_at hl 4 rfl) ?_
  refine lv_dup hx hb dX4_take_44 rfl ?_
  refine va_get (D := D) (ci := 4) (v := .long t_lengths) (C := RX4) (T := TX4) (N := 3) hx hb hts fi_X4_take_X4 hown hK hP 0 rfl rfl 1 (by decide) (hts _ fl_X4_take_2) (fun _ h9 => h9) rfl dX4_take_45 ?_
  refine lv_lconst (v := 1) hx hb dX4_take_48 (by decide) ?_
  refine lv_iconst (v := 5) hx hb dX4_take_49 (by decide) ?_
  refine lv_iload_n hx hb dX4_take_50 rfl (lv_at hl 5 rfl) ?_
  refine lv_imul hx hb dX4_take_51 ?_
  refine lv_lshl hx hb dX4_take_52 rfl ?_
  refine lv_lsub hx hb dX4_take_53 ?_
  refine va_put (D := D) (ci := 4) (v := .long (t_lengths - ((1 : Int64) <<< ((5 * x1).toInt64 &&& 63)))) (ty := .long) (C := RX4) (T := TX4) (N := 3) hx hb hts fi_X4_take_X4 tyX4 tyX4_ok nmX4 hown hK hP hD hS 0 rfl rfl 1 (by decide) (hts _ fl_X4_take_2) (fun _ h9 => h9) rfl (by decide +kernel) rfl rfl (Nat.le_of_ble_eq_true rfl) dX4_take_54 (fun H locs hP hD hS => ?_)
  have hP : va_P D vwCl (sh_X4 cA a_t t_head (t_lengths - ((1 : Int64) <<< ((5 * x1).toInt64 &&& 63))) (vp_updL t_rows x1.toNatClampNeg (y3 ||| y4))) H := hP
  have hD : va_D A (sh_X4 cA a_t t_head (t_lengths - ((1 : Int64) <<< ((5 * x1).toInt64 &&& 63))) (vp_updL t_rows x1.toNatClampNeg (y3 ||| y4))) := hD
  exact W.vret hx hb hr (fun t ht hW => ⟨⟨((t_lengths - ((1 : Int64) <<< ((5 * x1).toInt64 &&& 63))), (vp_updL t_rows x1.toNatClampNeg (y3 ||| y4))), rfl, hw, by rw [ht]; exact hP, va_K.moved hW.alike hK, hD⟩, hS.F ht⟩) hS.2.2 dX4_take_57
set_option maxHeartbeats 4000000 in
set_option maxRecDepth 100000 in
theorem c_X4_take (l : Launch) (D : va_G) (cA : Nat → ClassId) (a_t : Nat → Nat) (sz : Nat) (t_head : Int64) (t_lengths : Int64) (t_rows : (Nat → Int64)) (x1 : Int32) (x2 : Int32) (post : Int64 → (Nat → Int64) → Prop) (hw : wp_X4_take t_lengths t_rows x1 x2 post) : Met l yX4_take wsX4_take rm_X4_take (cPre D cA sz [.ref (a_t 0), .int x1, .int x2] (sh_X4 cA a_t t_head t_lengths t_rows)) (q_X4_take D cA (va_A (sh_X4 cA a_t t_head t_lengths t_rows) sz) a_t t_head post) 0 0 (va_A (sh_X4 cA a_t t_head t_lengths t_rows) sz) := by
  refine Met.ofW (cc := cX4_take) (maxL := 10) (ret := none) (by decide) rfl ?_
  intro p e s m args below meth c s₁ B hml hv
  obtain ⟨rfl, hsz, hP, hK, hD0⟩ := hv
  have hown : s.vm.findClass RX4 = some m.cls := findClass_of_methodNamed B.named
  subst hsz
  have hD := hD0.self (sz := s.heap.size)
  have hl := lv_entry ([.ref (a_t 0), .int x1, .int x2]) (n := 10) (Nat.le_of_ble_eq_true rfl)
  rw [lg_entry_eq]
  exact k_X4_take_0 ⟨B.exec, B.bytes, B.returns, atoms_spec (ws := wsX4_take) B.pre, hown, B.notSynchronized, hml⟩ (fun q h => Or.inr h) hK hl hP hD va_S.rf hw
/-! X4_put: put(IIZ)V -/
theorem fi_X4_put_X4 : ∀ w ∈ wsX40, w ∈ wsX4_put := by decide +kernel
theorem fl_X4_put_1 : ((.fieldLink RX4 11 "OrderTests$State" "rows" "[J") : Cond) ∈ wsX4_put := by decide +kernel
theorem fl_X4_put_2 : ((.fieldLink RX4 29 "OrderTests$State" "lengths" "J") : Cond) ∈ wsX4_put := by decide +kernel
abbrev rm_X4_put : Room := { frames := 1, cells := 0, slots := 0, locals := 22 }
abbrev q_X4_put (D : va_G) (cA : Nat → ClassId) (A : Nat → Prop) (a_t : Nat → Nat) (t_head : Int64) (post : Int64 → (Nat → Int64) → Prop) : Array Value → State → Outcome → State → Prop := va_Qv (fun (u : Int64 × (Nat → Int64)) => post u.1 u.2) (cOut D cA A (fun (u : Int64 × (Nat → Int64)) => sh_X4 cA a_t t_head u.1 u.2)) A
set_option maxHeartbeats 4000000 in
set_option maxRecDepth 100000 in
theorem k_X4_put_47 {p : Program} {l : Launch} {e : Env} {s : State} {m : MethodId} {args : Array Value} {below : List Frame} {meth : Method} {c : Code} {D : va_G} {cA : Nat → ClassId} {A : Nat → Prop} {a_t : Nat → Nat} (C : cxm RX4 cX4_put 13 none wsX4_put p s m args meth c) (hA : ∀ q, s.heap.size ≤ q → A q) (hK : va_K D vwCl (tyL cA) s) {t_head : Int64} {post : Int64 → (Nat → Int64) → Prop} {x1 : Int32} {x2 : Int32} {x5 : Int32} {t_lengths : Int64} {t_rows : (Nat → Int64)} {H : Heap} {locs : List Loc} {ls : Array Slot} (hl : lv_has ls 13 [(0, .ref (a_t 0)), (1, .int x1), (2, .int x2), (5, .int x5)]) (hP : va_P D vwCl (sh_X4 cA a_t t_head t_lengths t_rows) H) (hD : va_D A (sh_X4 cA a_t t_head t_lengths t_rows)) (hS : va_S A s.heap H locs) (hw : wp_X4_put_47 post x1 x2 x5 t_lengths t_rows) : W p l e rm_X4_put s m args below meth c H locs 0 0 (MQ below (q_X4_put D cA A a_t t_head post) args s 0 0 A) (F0 m 47 ls []) := by
  obtain ⟨hx, hb, hr, hts, hown, hlocks, hml⟩ := id C
  unfold wp_X4_put_47 at hw
  refine lv_iconst (v := 4) hx hb dX4_put_47 (by decide) ?_
  refine lv_iload hx hb dX4_put_48 (lv_at hl 3 rfl) ?_
  refine lv_imul hx hb dX4_put_50 ?_
  refine lv_istore (lv' := [(6, .int (4 * x5)), (0, .ref (a_t 0)), (1, .int x1), (2, .int x2), (5, .int x5)]) hx hb dX4_put_51 hl (by decide) rfl (fun ls hl => ?_)
  refine lv_aload_n hx hb dX4_put_53 rfl (lv_at hl 1 rfl) ?_
  refine va_get (D := D) (ci := 4) (v := .ref (a_t 1)) (C := RX4) (T := TX4) (N := 3) hx hb hts fi_X4_put_X4 hown hK hP 0 rfl rfl 2 (by decide) (hts _ fl_X4_put_1) (fun _ h9 => h9) rfl dX4_put_54 ?_
  refine lv_iload_n hx hb dX4_put_57 rfl (lv_at hl 2 rfl) ?_
  obtain ⟨hi3, hw⟩ := hw
  refine va_lald hx hb hK hP 1 1 rfl rfl hi3 dX4_put_58 ?_
  refine lv_topl (fun y4 ey4 => ?_)
  have hw := hw y4 ey4
  refine lv_lstore (lv' := [(7, .long y4), (6, .int (4 * x5)), (0, .ref (a_t 0)), (1, .int x1), (2, .int x2), (5, .int x5)]) hx hb dX4_put_59 hl (by decide) rfl (fun ls hl => ?_)
  refine lv_lload hx hb dX4_put_61 (lv_at hl 0 rfl) ?_
  refine lv_lconst (v := 1) hx hb dX4_put_63 (by decide) ?_
  refine lv_iload hx hb dX4_put_64 (lv_at hl 1 rfl) ?_
  refine lv_lshl hx hb dX4_put_66 rfl ?_
  refine lv_lconst (v := 1) hx hb dX4_put_67 (by decide) ?_
  refine lv_lsub hx hb dX4_put_68 ?_
  refine lv_land hx hb dX4_put_69 ?_
  refine lv_topl (fun y5 ey5 => ?_)
  have hw := hw y5 ey5
  refine lv_lstore (lv' := [(9, .long y5), (7, .long y4), (6, .int (4 * x5)), (0, .ref (a_t 0)), (1, .int x1), (2, .int x2), (5, .int x5)]) hx hb dX4_put_70 hl (by decide) rfl (fun ls hl => ?_)
  refine lv_lload hx hb dX4_put_72 (lv_at hl 1 rfl) ?_
  refine lv_iload hx hb dX4_put_74 (lv_at hl 2 rfl) ?_
  refine lv_lushr hx hb dX4_put_76 rfl ?_
  refine lv_iload hx hb dX4_put_77 (lv_at hl 2 rfl) ?_
  refine lv_lshl hx hb dX4_put_79 rfl ?_
  refine lv_iconst (v := 4) hx hb dX4_put_80 (by decide) ?_
  refine lv_lshl hx hb dX4_put_81 rfl ?_
  refine lv_topl (fun y6 ey6 => ?_)
  have hw := hw y6 ey6
  refine lv_lstore (lv' := [(11, .long y6), (9, .long y5), (7, .long y4), (6, .int (4 * x5)), (0, .ref (a_t 0)), (1, .int x1), (2, .int x2), (5, .int x5)]) hx hb dX4_put_82 hl (by decide) rfl (fun ls hl => ?_)
  refine lv_aload_n hx hb dX4_put_84 rfl (lv_at hl 4 rfl) ?_
  refine va_get (D := D) (ci := 4) (v := .ref (a_t 1)) (C := RX4) (T := TX4) (N := 3) hx hb hts fi_X4_put_X4 hown hK hP 0 rfl rfl 2 (by decide) (hts _ fl_X4_put_1) (fun _ h9 => h9) rfl dX4_put_85 ?_
  refine lv_iload_n hx hb dX4_put_88 rfl (lv_at hl 5 rfl) ?_
  refine lv_lload hx hb dX4_put_89 (lv_at hl 1 rfl) ?_
  refine lv_iload_n hx hb dX4_put_91 rfl (lv_at hl 6 rfl) ?_
  refine lv_i2l hx hb dX4_put_92 rfl ?_
  refine lv_iload hx hb dX4_put_93 (lv_at hl 3 rfl) ?_
  refine lv_lshl hx hb dX4_put_95 rfl ?_
  refine lv_lor hx hb dX4_put_96 ?_
  refine lv_lload hx hb dX4_put_97 (lv_at hl 0 rfl) ?_
  refine lv_lor hx hb dX4_put_99 ?_
  obtain ⟨hi7, hw⟩ := hw
  refine va_last hx hb hK hP hD hS 1 1 rfl rfl hi7 dX4_put_100 (fun H locs hP hD hS => ?_)
  have hP : va_P D vwCl (sh_X4 cA a_t t_head t_lengths (vp_updL t_rows x1.toNatClampNeg ((y5 ||| (x2.toInt64 <<< ((4 * x5).toInt64 &&& 63))) ||| y6))) H := hP
  have hD : va_D A (sh_X4 cA a_t t_head t_lengths (vp_updL t_rows x1.toNatClampNeg ((y5 ||| (x2.toInt64 <<< ((4 * x5).toInt64 &&& 63))) ||| y6))) := hD
  refine lv_aload_n hx hb dX4_put_101 rfl (lv_at hl 4 rfl) ?_
  refine lv_dup hx hb dX4_put_102 rfl ?_
  refine va_get (D := D) (ci := 4) (v := .long t_lengths) (C := RX4) (T := TX4) (N := 3) hx hb hts fi_X4_put_X4 hown hK hP 0 rfl rfl 1 (by decide) (hts _ fl_X4_put_2) (fun _ h9 => h9) rfl dX4_put_103 ?_
  refine lv_lconst (v := 1) hx hb dX4_put_106 (by decide) ?_
  refine lv_iconst (v := 5) hx hb dX4_put_107 (by decide) ?_
  refine lv_iload_n hx hb dX4_put_108 rfl (lv_at hl 5 rfl) ?_
  refine lv_imul hx hb dX4_put_109 ?_
  refine lv_lshl hx hb dX4_put_110 rfl ?_
  refine lv_ladd hx hb dX4_put_111 ?_
  refine va_put (D := D) (ci := 4) (v := .long (t_lengths + ((1 : Int64) <<< ((5 * x1).toInt64 &&& 63)))) (ty := .long) (C := RX4) (T := TX4) (N := 3) hx hb hts fi_X4_put_X4 tyX4 tyX4_ok nmX4 hown hK hP hD hS 0 rfl rfl 1 (by decide) (hts _ fl_X4_put_2) (fun _ h9 => h9) rfl (by decide +kernel) rfl rfl (Nat.le_of_ble_eq_true rfl) dX4_put_112 (fun H locs hP hD hS => ?_)
  have hP : va_P D vwCl (sh_X4 cA a_t t_head (t_lengths + ((1 : Int64) <<< ((5 * x1).toInt64 &&& 63))) (vp_updL t_rows x1.toNatClampNeg ((y5 ||| (x2.toInt64 <<< ((4 * x5).toInt64 &&& 63))) ||| y6))) H := hP
  have hD : va_D A (sh_X4 cA a_t t_head (t_lengths + ((1 : Int64) <<< ((5 * x1).toInt64 &&& 63))) (vp_updL t_rows x1.toNatClampNeg ((y5 ||| (x2.toInt64 <<< ((4 * x5).toInt64 &&& 63))) ||| y6))) := hD
  exact W.vret hx hb hr (fun t ht hW => ⟨⟨((t_lengths + ((1 : Int64) <<< ((5 * x1).toInt64 &&& 63))), (vp_updL t_rows x1.toNatClampNeg ((y5 ||| (x2.toInt64 <<< ((4 * x5).toInt64 &&& 63))) ||| y6))), rfl, hw, by rw [ht]; exact hP, va_K.moved hW.alike hK, hD⟩, hS.F ht⟩) hS.2.2 dX4_put_115
set_option maxHeartbeats 4000000 in
set_option maxRecDepth 100000 in
theorem b_X4_put_23 {p : Program} {l : Launch} {e : Env} {s : State} {m : MethodId} {args : Array Value} {below : List Frame} {meth : Method} {c : Code} {D : va_G} {cA : Nat → ClassId} {A : Nat → Prop} {a_t : Nat → Nat} (C : cxm RX4 cX4_put 13 none wsX4_put p s m args meth c) (hA : ∀ q, s.heap.size ≤ q → A q) (hK : va_K D vwCl (tyL cA) s) {t_head : Int64} {post : Int64 → (Nat → Int64) → Prop} {x1 : Int32} {x2 : Int32} {x5 : Int32} {t_lengths : Int64} {t_rows : (Nat → Int64)} {K23 : Int32 → Prop} (hk23 : ∀ (H : Heap) (locs : List Loc) (ls : Array Slot) (x5 : Int32), lv_has ls 13 [(0, .ref (a_t 0)), (1, .int x1), (2, .int x2), (5, .int x5)] → va_P D vwCl (sh_X4 cA a_t t_head t_lengths t_rows) H → va_D A (sh_X4 cA a_t t_head t_lengths t_rows) → va_S A s.heap H locs → K23 x5 → W p l e rm_X4_put s m args below meth c H locs 0 0 (MQ below (q_X4_put D cA A a_t t_head post) args s 0 0 A) (F0 m 23 ls [])) {H : Heap} {locs : List Loc} {ls : Array Slot} (hl : lv_has ls 13 [(0, .ref (a_t 0)), (1, .int x1), (2, .int x2), (5, .int x5)]) (hP : va_P D vwCl (sh_X4 cA a_t t_head t_lengths t_rows) H) (hD : va_D A (sh_X4 cA a_t t_head t_lengths t_rows)) (hS : va_S A s.heap H locs) (hw : bd_X4_put_23 post K23 x1 x2 x5 t_lengths t_rows) : W p l e rm_X4_put s m args below meth c H locs 0 0 (MQ below (q_X4_put D cA A a_t t_head post) args s 0 0 A) (F0 m 23 ls []) := by
  obtain ⟨hx, hb, hr, hts, hown, hlocks, hml⟩ := id C
  unfold bd_X4_put_23 at hw
  refine lv_iload hx hb dX4_put_23 (lv_at hl 3 rfl) ?_
  refine lv_if_le (tgt := 47) hx hb dX4_put_25 (by decide) (fun hc => ?_) (fun hc => ?_)
  · have hw := hw.1 hc
    exact k_X4_put_47 C hA hK (lv_sub hl [0, 1, 2, 3] rfl) hP hD hS hw
  · have hw := hw.2 hc
    refine lv_aload_n hx hb dX4_put_28 rfl (lv_at hl 0 rfl) ?_
    refine lv_iload_n hx hb dX4_put_29 rfl (lv_at hl 1 rfl) ?_
    refine lv_iload hx hb dX4_put_30 (lv_at hl 3 rfl) ?_
    refine lv_iconst (v := 1) hx hb dX4_put_32 (by decide) ?_
    refine lv_isub hx hb dX4_put_33 ?_
    refine cV_i (As := [.int x1, .int (x5 - 1)]) (rest := []) (wr := []) (w2 := (fun (u : Unit) => sh_X4 cA a_t t_head t_lengths t_rows)) ⟨hx, hb, hml, hown, hts⟩ (c_X4_messageAt l D cA a_t H.size t_head t_lengths t_rows x1 (x5 - 1) _ hw) (cwV 2 hts gX4_put_X4_messageAt rfl rfl rfl (by decide +kernel) ⟨(Nat.le_of_ble_eq_true rfl), (Nat.le_of_ble_eq_true rfl)⟩) hK hP hD hS hA [0, 1] [] [0, 1] rfl rfl rfl rfl (by decide) rfl (fun _ => rfl) rfl rfl rfl hl.1 rfl (Nat.le_of_ble_eq_true rfl) dX4_put_34 ⟨Nat.le_refl _, Nat.le_refl _⟩ (fun r2 u H locs hw hP hD hS => ?_)
    try dsimp only at hw
    have hP : va_P D vwCl (sh_X4 cA a_t t_head t_lengths t_rows) H := hP
    have hD : va_D A (sh_X4 cA a_t t_head t_lengths t_rows) := hD
    refine lv_iload_n hx hb dX4_put_37 rfl (lv_at hl 2 rfl) ?_
    refine lv_icmp_le (tgt := 47) hx hb dX4_put_38 (by decide) (fun hc => ?_) (fun hc => ?_)
    · have hw := hw.1 hc
      exact k_X4_put_47 C hA hK (lv_sub hl [0, 1, 2, 3] rfl) hP hD hS hw
    · have hw := hw.2 hc
      refine lv_iinc (v := (x5 + (-1))) (lv' := [(5, .int (x5 + (-1))), (0, .ref (a_t 0)), (1, .int x1), (2, .int x2)]) hx hb dX4_put_41 hl (k := 3) rfl rfl (by decide) rfl (fun ls hl => ?_)
      refine lv_goto (tgt := 23) hx hb dX4_put_44 (by decide) ?_
      exact hk23 _ _ _ (x5 + (-1)) (lv_sub hl [1, 2, 3, 0] rfl) hP hD hS hw
set_option maxHeartbeats 4000000 in
set_option maxRecDepth 100000 in
theorem k_X4_put_23 {p : Program} {l : Launch} {e : Env} {s : State} {m : MethodId} {args : Array Value} {below : List Frame} {meth : Method} {c : Code} {D : va_G} {cA : Nat → ClassId} {A : Nat → Prop} {a_t : Nat → Nat} (C : cxm RX4 cX4_put 13 none wsX4_put p s m args meth c) (hA : ∀ q, s.heap.size ≤ q → A q) (hK : va_K D vwCl (tyL cA) s) {t_head : Int64} {post : Int64 → (Nat → Int64) → Prop} {x1 : Int32} {x2 : Int32} {x5 : Int32} {t_lengths : Int64} {t_rows : (Nat → Int64)} {H : Heap} {locs : List Loc} {ls : Array Slot} (hl : lv_has ls 13 [(0, .ref (a_t 0)), (1, .int x1), (2, .int x2), (5, .int x5)]) (hP : va_P D vwCl (sh_X4 cA a_t t_head t_lengths t_rows) H) (hD : va_D A (sh_X4 cA a_t t_head t_lengths t_rows)) (hS : va_S A s.heap H locs) (hw : wp_X4_put_23 post x1 x2 x5 t_lengths t_rows) : W p l e rm_X4_put s m args below meth c H locs 0 0 (MQ below (q_X4_put D cA A a_t t_head post) args s 0 0 A) (F0 m 23 ls []) := by
  obtain ⟨I, n, hI, hstep⟩ := hw
  have key : ∀ (n : Nat) (H : Heap) (locs : List Loc) (ls : Array Slot) (x5 : Int32), I n x5 → lv_has ls 13 [(0, .ref (a_t 0)), (1, .int x1), (2, .int x2), (5, .int x5)] → va_P D vwCl (sh_X4 cA a_t t_head t_lengths t_rows) H → va_D A (sh_X4 cA a_t t_head t_lengths t_rows) → va_S A s.heap H locs → W p l e rm_X4_put s m args below meth c H locs 0 0 (MQ below (q_X4_put D cA A a_t t_head post) args s 0 0 A) (F0 m 23 ls []) := by
    intro n
    induction n using Nat.strongRecOn with
    | _ n ih =>
      intro H locs ls x5 hI hl hP hD hS
      exact b_X4_put_23 C hA hK (fun H locs ls x5 hl hP hD hS hw => by obtain ⟨n', hn, hI⟩ := hw; exact ih n' hn H locs ls x5 hI hl hP hD hS) hl hP hD hS (hstep n x5 hI)
  exact key n H locs ls x5 hI hl hP hD hS
set_option maxHeartbeats 4000000 in
set_option maxRecDepth 100000 in
theorem k_X4_put_0 {p : Program} {l : Launch} {e : Env} {s : State} {m : MethodId} {args : Array Value} {below : List Frame} {meth : Method} {c : Code} {D : va_G} {cA : Nat → ClassId} {A : Nat → Prop} {a_t : Nat → Nat} (C : cxm RX4 cX4_put 13 none wsX4_put p s m args meth c) (hA : ∀ q, s.heap.size ≤ q → A q) (hK : va_K D vwCl (tyL cA) s) {t_head : Int64} {post : Int64 → (Nat → Int64) → Prop} {x1 : Int32} {x2 : Int32} {x3 : Int32} {t_lengths : Int64} {t_rows : (Nat → Int64)} {H : Heap} {locs : List Loc} {ls : Array Slot} (hl : lv_has ls 13 [(0, .ref (a_t 0)), (1, .int x1), (2, .int x2), (3, .int x3)]) (hP : va_P D vwCl (sh_X4 cA a_t t_head t_lengths t_rows) H) (hD : va_D A (sh_X4 cA a_t t_head t_lengths t_rows)) (hS : va_S A s.heap H locs) (hw : wp_X4_put_0 post x1 x2 x3 t_lengths t_rows) : W p l e rm_X4_put s m args below meth c H locs 0 0 (MQ below (q_X4_put D cA A a_t t_head post) args s 0 0 A) (F0 m 0 ls []) := by
  obtain ⟨hx, hb, hr, hts, hown, hlocks, hml⟩ := id C
  unfold wp_X4_put_0 at hw
  refine lv_aload_n hx hb dX4_put_0 rfl (lv_at hl 0 rfl) ?_
  refine lv_iload_n hx hb dX4_put_1 rfl (lv_at hl 1 rfl) ?_
  refine cV_i (As := [.int x1]) (rest := []) (wr := []) (w2 := (fun (u : Unit) => sh_X4 cA a_t t_head t_lengths t_rows)) ⟨hx, hb, hml, hown, hts⟩ (c_X4_underWay l D cA a_t H.size t_head t_lengths t_rows x1 _ hw) (cwV 1 hts gX4_put_X4_underWay rfl rfl rfl (by decide +kernel) ⟨(Nat.le_of_ble_eq_true rfl), (Nat.le_of_ble_eq_true rfl)⟩) hK hP hD hS hA [0, 1] [] [0, 1] rfl rfl rfl rfl (by decide) rfl (fun _ => rfl) rfl rfl rfl hl.1 rfl (Nat.le_of_ble_eq_true rfl) dX4_put_2 ⟨Nat.le_refl _, Nat.le_refl _⟩ (fun r1 u H locs hw hP hD hS => ?_)
  try dsimp only at hw
  have hP : va_P D vwCl (sh_X4 cA a_t t_head t_lengths t_rows) H := hP
  have hD : va_D A (sh_X4 cA a_t t_head t_lengths t_rows) := hD
  refine lv_istore (lv' := [(4, .int r1), (0, .ref (a_t 0)), (1, .int x1), (2, .int x2), (3, .int x3)]) hx hb dX4_put_5 hl (by decide) rfl (fun ls hl => ?_)
  refine lv_iload hx hb dX4_put_7 (lv_at hl 0 rfl) ?_
  refine lv_bipush (v := 16) hx hb dX4_put_9 (by decide) ?_
  refine lv_icmp_lt (tgt := 15) hx hb dX4_put_11 (by decide) (fun hc => ?_) (fun hc => ?_)
  · have hw := hw.1 hc
    refine lv_iload hx hb dX4_put_15 (lv_at hl 0 rfl) ?_
    refine lv_istore (lv' := [(5, .int r1), (4, .int r1), (0, .ref (a_t 0)), (1, .int x1), (2, .int x2), (3, .int x3)]) hx hb dX4_put_17 hl (by decide) rfl (fun ls hl => ?_)
    refine lv_iload_n hx hb dX4_put_19 rfl (lv_at hl 5 rfl) ?_
    refine lv_if_ne (tgt := 47) hx hb dX4_put_20 (by decide) (fun hc => ?_) (fun hc => ?_)
    · have hw := hw.1 hc
      exact k_X4_put_47 C hA hK (lv_sub hl [2, 3, 4, 0] rfl) hP hD hS hw
    · have hw := hw.2 hc
      exact k_X4_put_23 C hA hK (lv_sub hl [2, 3, 4, 0] rfl) hP hD hS hw
  · have hw := hw.2 hc
    exact W.vret hx hb hr (fun t ht hW => ⟨⟨(t_lengths, t_rows), rfl, hw, by rw [ht]; exact hP, va_K.moved hW.alike hK, hD⟩, hS.F ht⟩) hS.2.2 dX4_put_14
set_option maxHeartbeats 4000000 in
set_option maxRecDepth 100000 in
theorem c_X4_put (l : Launch) (D : va_G) (cA : Nat → ClassId) (a_t : Nat → Nat) (sz : Nat) (t_head : Int64) (t_lengths : Int64) (t_rows : (Nat → Int64)) (x1 : Int32) (x2 : Int32) (x3 : Int32) (post : Int64 → (Nat → Int64) → Prop) (hw : wp_X4_put t_lengths t_rows x1 x2 x3 post) : Met l yX4_put wsX4_put rm_X4_put (cPre D cA sz [.ref (a_t 0), .int x1, .int x2, .int x3] (sh_X4 cA a_t t_head t_lengths t_rows)) (q_X4_put D cA (va_A (sh_X4 cA a_t t_head t_lengths t_rows) sz) a_t t_head post) 0 0 (va_A (sh_X4 cA a_t t_head t_lengths t_rows) sz) := by
  refine Met.ofW (cc := cX4_put) (maxL := 13) (ret := none) (by decide) rfl ?_
  intro p e s m args below meth c s₁ B hml hv
  obtain ⟨rfl, hsz, hP, hK, hD0⟩ := hv
  have hown : s.vm.findClass RX4 = some m.cls := findClass_of_methodNamed B.named
  subst hsz
  have hD := hD0.self (sz := s.heap.size)
  have hl := lv_entry ([.ref (a_t 0), .int x1, .int x2, .int x3]) (n := 13) (Nat.le_of_ble_eq_true rfl)
  rw [lg_entry_eq]
  exact k_X4_put_0 ⟨B.exec, B.bytes, B.returns, atoms_spec (ws := wsX4_put) B.pre, hown, B.notSynchronized, hml⟩ (fun q h => Or.inr h) hK hl hP hD va_S.rf hw
/-! X4_pending: pending(I)I -/
theorem fi_X4_pending_X4 : ∀ w ∈ wsX40, w ∈ wsX4_pending := by decide +kernel
theorem fl_X4_pending_1 : ((.fieldLink RX4 15 "OrderTests$State" "head" "J") : Cond) ∈ wsX4_pending := by decide +kernel
theorem fl_X4_pending_2 : ((.constantLong RX4 58 (15)) : Cond) ∈ wsX4_pending := by decide +kernel
abbrev rm_X4_pending : Room := { frames := 1, cells := 0, slots := 0, locals := 21 }
abbrev q_X4_pending (D : va_G) (cA : Nat → ClassId) (A : Nat → Prop) (a_t : Nat → Nat) (t_head : Int64) (t_lengths : Int64) (t_rows : (Nat → Int64)) (post : Int32 → Prop) : Array Value → State → Outcome → State → Prop := va_Qi (fun (r : Int32) (u : Unit) => post r) (cOut D cA A (fun (u : Unit) => sh_X4 cA a_t t_head t_lengths t_rows)) A
set_option maxHeartbeats 4000000 in
set_option maxRecDepth 100000 in
theorem b_X4_pending_19 {p : Program} {l : Launch} {e : Env} {s : State} {m : MethodId} {args : Array Value} {below : List Frame} {meth : Method} {c : Code} {D : va_G} {cA : Nat → ClassId} {A : Nat → Prop} {a_t : Nat → Nat} (C : cxm RX4 cX4_pending 4 (some .int) wsX4_pending p s m args meth c) (hA : ∀ q, s.heap.size ≤ q → A q) (hK : va_K D vwCl (tyL cA) s) {t_head : Int64} {t_lengths : Int64} {t_rows : (Nat → Int64)} {post : Int32 → Prop} {x2 : Int32} {x3 : Int32} {K19 : Int32 → Int32 → Prop} (hk19 : ∀ (H : Heap) (locs : List Loc) (ls : Array Slot) (x2 : Int32) (x3 : Int32), lv_has ls 4 [(0, .ref (a_t 0)), (2, .int x2), (3, .int x3)] → va_P D vwCl (sh_X4 cA a_t t_head t_lengths t_rows) H → va_D A (sh_X4 cA a_t t_head t_lengths t_rows) → va_S A s.heap H locs → K19 x2 x3 → W p l e rm_X4_pending s m args below meth c H locs 0 0 (MQ below (q_X4_pending D cA A a_t t_head t_lengths t_rows post) args s 0 0 A) (F0 m 19 ls [])) {H : Heap} {locs : List Loc} {ls : Array Slot} (hl : lv_has ls 4 [(0, .ref (a_t 0)), (2, .int x2), (3, .int x3)]) (hP : va_P D vwCl (sh_X4 cA a_t t_head t_lengths t_rows) H) (hD : va_D A (sh_X4 cA a_t t_head t_lengths t_rows)) (hS : va_S A s.heap H locs) (hw : bd_X4_pending_19 t_head t_lengths post K19 x2 x3) : W p l e rm_X4_pending s m args below meth c H locs 0 0 (MQ below (q_X4_pending D cA A a_t t_head t_lengths t_rows post) args s 0 0 A) (F0 m 19 ls []) := by
  obtain ⟨hx, hb, hr, hts, hown, hlocks, hml⟩ := id C
  unfold bd_X4_pending_19 at hw
  refine lv_iload_n hx hb dX4_pending_19 rfl (lv_at hl 2 rfl) ?_
  refine lv_bipush (v := 8) hx hb dX4_pending_20 (by decide) ?_
  refine lv_icmp_ge (tgt := 39) hx hb dX4_pending_22 (by decide) (fun hc => ?_) (fun hc => ?_)
  · have hw := hw.1 hc
    refine lv_iload_n hx hb dX4_pending_39 rfl (lv_at hl 1 rfl) ?_
    exact W.iret (v := x2) hx hb hr (fun t ht hW => ⟨⟨x2, (), rfl, hw, by rw [ht]; exact hP, va_K.moved hW.alike hK, hD⟩, hS.F ht⟩) hS.2.2 dX4_pending_40
  · have hw := hw.2 hc
    refine lv_iload_n hx hb dX4_pending_25 rfl (lv_at hl 1 rfl) ?_
    refine lv_aload_n hx hb dX4_pending_26 rfl (lv_at hl 0 rfl) ?_
    refine lv_iload_n hx hb dX4_pending_27 rfl (lv_at hl 2 rfl) ?_
    refine cV_i (As := [.int x3]) (rest := [.int x2]) (wr := []) (w2 := (fun (u : Unit) => sh_X4 cA a_t t_head t_lengths t_rows)) ⟨hx, hb, hml, hown, hts⟩ (c_X4_underWay l D cA a_t H.size t_head t_lengths t_rows x3 _ hw) (cwV 1 hts gX4_pending_X4_underWay rfl rfl rfl (by decide +kernel) ⟨(Nat.le_of_ble_eq_true rfl), (Nat.le_of_ble_eq_true rfl)⟩) hK hP hD hS hA [0, 1] [] [0, 1] rfl rfl rfl rfl (by decide) rfl (fun _ => rfl) rfl rfl rfl hl.1 rfl (Nat.le_of_ble_eq_true rfl) dX4_pending_28 ⟨Nat.le_refl _, Nat.le_refl _⟩ (fun r2 u H locs hw hP hD hS => ?_)
    try dsimp only at hw
    have hP : va_P D vwCl (sh_X4 cA a_t t_head t_lengths t_rows) H := hP
    have hD : va_D A (sh_X4 cA a_t t_head t_lengths t_rows) := hD
    refine lv_iadd hx hb dX4_pending_31 ?_
    refine lv_istore_n (lv' := [(2, .int (x2 + r2)), (0, .ref (a_t 0)), (3, .int x3)]) hx hb dX4_pending_32 rfl hl (by decide) rfl (fun ls hl => ?_)
    refine lv_iinc (v := (x3 + 1)) (lv' := [(3, .int (x3 + 1)), (2, .int (x2 + r2)), (0, .ref (a_t 0))]) hx hb dX4_pending_33 hl (k := 2) rfl rfl (by decide) rfl (fun ls hl => ?_)
    refine lv_goto (tgt := 19) hx hb dX4_pending_36 (by decide) ?_
    exact hk19 _ _ _ (x2 + r2) (x3 + 1) (lv_sub hl [2, 1, 0] rfl) hP hD hS hw
set_option maxHeartbeats 4000000 in
set_option maxRecDepth 100000 in
theorem k_X4_pending_19 {p : Program} {l : Launch} {e : Env} {s : State} {m : MethodId} {args : Array Value} {below : List Frame} {meth : Method} {c : Code} {D : va_G} {cA : Nat → ClassId} {A : Nat → Prop} {a_t : Nat → Nat} (C : cxm RX4 cX4_pending 4 (some .int) wsX4_pending p s m args meth c) (hA : ∀ q, s.heap.size ≤ q → A q) (hK : va_K D vwCl (tyL cA) s) {t_head : Int64} {t_lengths : Int64} {t_rows : (Nat → Int64)} {post : Int32 → Prop} {x2 : Int32} {x3 : Int32} {H : Heap} {locs : List Loc} {ls : Array Slot} (hl : lv_has ls 4 [(0, .ref (a_t 0)), (2, .int x2), (3, .int x3)]) (hP : va_P D vwCl (sh_X4 cA a_t t_head t_lengths t_rows) H) (hD : va_D A (sh_X4 cA a_t t_head t_lengths t_rows)) (hS : va_S A s.heap H locs) (hw : wp_X4_pending_19 t_head t_lengths post x2 x3) : W p l e rm_X4_pending s m args below meth c H locs 0 0 (MQ below (q_X4_pending D cA A a_t t_head t_lengths t_rows post) args s 0 0 A) (F0 m 19 ls []) := by
  obtain ⟨I, n, hI, hstep⟩ := hw
  have key : ∀ (n : Nat) (H : Heap) (locs : List Loc) (ls : Array Slot) (x2 : Int32) (x3 : Int32), I n x2 x3 → lv_has ls 4 [(0, .ref (a_t 0)), (2, .int x2), (3, .int x3)] → va_P D vwCl (sh_X4 cA a_t t_head t_lengths t_rows) H → va_D A (sh_X4 cA a_t t_head t_lengths t_rows) → va_S A s.heap H locs → W p l e rm_X4_pending s m args below meth c H locs 0 0 (MQ below (q_X4_pending D cA A a_t t_head t_lengths t_rows post) args s 0 0 A) (F0 m 19 ls []) := by
    intro n
    induction n using Nat.strongRecOn with
    | _ n ih =>
      intro H locs ls x2 x3 hI hl hP hD hS
      exact b_X4_pending_19 C hA hK (fun H locs ls x2 x3 hl hP hD hS hw => by obtain ⟨n', hn, hI⟩ := hw; exact ih n' hn H locs ls x2 x3 hI hl hP hD hS) hl hP hD hS (hstep n x2 x3 hI)
  exact key n H locs ls x2 x3 hI hl hP hD hS
set_option maxHeartbeats 4000000 in
set_option maxRecDepth 100000 in
theorem k_X4_pending_0 {p : Program} {l : Launch} {e : Env} {s : State} {m : MethodId} {args : Array Value} {below : List Frame} {meth : Method} {c : Code} {D : va_G} {cA : Nat → ClassId} {A : Nat → Prop} {a_t : Nat → Nat} (C : cxm RX4 cX4_pending 4 (some .int) wsX4_pending p s m args meth c) (hA : ∀ q, s.heap.size ≤ q → A q) (hK : va_K D vwCl (tyL cA) s) {t_head : Int64} {t_lengths : Int64} {t_rows : (Nat → Int64)} {post : Int32 → Prop} {x1 : Int32} {H : Heap} {locs : List Loc} {ls : Array Slot} (hl : lv_has ls 4 [(0, .ref (a_t 0)), (1, .int x1)]) (hP : va_P D vwCl (sh_X4 cA a_t t_head t_lengths t_rows) H) (hD : va_D A (sh_X4 cA a_t t_head t_lengths t_rows)) (hS : va_S A s.heap H locs) (hw : wp_X4_pending_0 t_head t_lengths post x1) : W p l e rm_X4_pending s m args below meth c H locs 0 0 (MQ below (q_X4_pending D cA A a_t t_head t_lengths t_rows post) args s 0 0 A) (F0 m 0 ls []) := by
  obtain ⟨hx, hb, hr, hts, hown, hlocks, hml⟩ := id C
  unfold wp_X4_pending_0 at hw
  refine lv_iload_n hx hb dX4_pending_0 rfl (lv_at hl 1 rfl) ?_
  refine lv_aload_n hx hb dX4_pending_1 rfl (lv_at hl 0 rfl) ?_
  refine va_get (D := D) (ci := 4) (v := .long t_head) (C := RX4) (T := TX4) (N := 3) hx hb hts fi_X4_pending_X4 hown hK hP 0 rfl rfl 0 (by decide) (hts _ fl_X4_pending_1) (fun _ h9 => h9) rfl dX4_pending_2 ?_
  refine lv_bipush (v := 45) hx hb dX4_pending_5 (by decide) ?_
  refine lv_lushr hx hb dX4_pending_7 rfl ?_
  refine lv_ldc2 (v := 15) hx hb hown (hts _ fl_X4_pending_2) dX4_pending_8 ?_
  refine lv_land hx hb dX4_pending_11 ?_
  refine cS_i (As := [.long (((t_head.toUInt64 >>> ((45 : Int32).toInt64.toUInt64 &&& Int64.toUInt64 63)).toInt64) &&& 15)]) (rest := [.int x1]) (wr := [((a_t 0), .inr (4, [.long t_head, .long t_lengths, .ref (a_t 1)])), ((a_t 1), .inl (cA 1, 8, .inr (.inl t_rows)))]) (w2 := (fun (u : Unit) => sh_X4 cA a_t t_head t_lengths t_rows)) ⟨hx, hb, hml, hown, hts⟩ (c_J13_bitCount_95d88 l D cA H.size (((t_head.toUInt64 >>> ((45 : Int32).toInt64.toUInt64 &&& Int64.toUInt64 63)).toInt64) &&& 15) _ hw) (va_cwS 1 hts gX4_pending_J13_bitCount_95d88 rfl rfl rfl (by decide +kernel) ⟨(Nat.le_of_ble_eq_true rfl), (Nat.le_of_ble_eq_true rfl)⟩) hK hP hD hS hA [] [0, 1] [0, 1] rfl rfl rfl rfl (by decide) rfl (fun _ => rfl) rfl hl.1 rfl (Nat.le_of_ble_eq_true rfl) dX4_pending_12 ⟨Nat.le_refl _, Nat.le_refl _⟩ (fun r1 u H locs hw hP hD hS => ?_)
  try dsimp only at hw
  have hP : va_P D vwCl (sh_X4 cA a_t t_head t_lengths t_rows) H := hP
  have hD : va_D A (sh_X4 cA a_t t_head t_lengths t_rows) := hD
  refine lv_isub hx hb dX4_pending_15 ?_
  refine lv_istore_n (lv' := [(2, .int (x1 - r1)), (0, .ref (a_t 0)), (1, .int x1)]) hx hb dX4_pending_16 rfl hl (by decide) rfl (fun ls hl => ?_)
  refine lv_iconst (v := 0) hx hb dX4_pending_17 (by decide) ?_
  refine lv_istore_n (lv' := [(3, .int 0), (2, .int (x1 - r1)), (0, .ref (a_t 0)), (1, .int x1)]) hx hb dX4_pending_18 rfl hl (by decide) rfl (fun ls hl => ?_)
  exact k_X4_pending_19 C hA hK (lv_sub hl [2, 1, 0] rfl) hP hD hS hw
set_option maxHeartbeats 4000000 in
set_option maxRecDepth 100000 in
theorem c_X4_pending (l : Launch) (D : va_G) (cA : Nat → ClassId) (a_t : Nat → Nat) (sz : Nat) (t_head : Int64) (t_lengths : Int64) (t_rows : (Nat → Int64)) (x1 : Int32) (post : Int32 → Prop) (hw : wp_X4_pending t_head t_lengths x1 post) : Met l yX4_pending wsX4_pending rm_X4_pending (cPre D cA sz [.ref (a_t 0), .int x1] (sh_X4 cA a_t t_head t_lengths t_rows)) (q_X4_pending D cA (va_A (sh_X4 cA a_t t_head t_lengths t_rows) sz) a_t t_head t_lengths t_rows post) 0 0 (va_A (sh_X4 cA a_t t_head t_lengths t_rows) sz) := by
  refine Met.ofW (cc := cX4_pending) (maxL := 4) (ret := (some .int)) (by decide) rfl ?_
  intro p e s m args below meth c s₁ B hml hv
  obtain ⟨rfl, hsz, hP, hK, hD0⟩ := hv
  have hown : s.vm.findClass RX4 = some m.cls := findClass_of_methodNamed B.named
  subst hsz
  have hD := hD0.self (sz := s.heap.size)
  have hl := lv_entry ([.ref (a_t 0), .int x1]) (n := 4) (Nat.le_of_ble_eq_true rfl)
  rw [lg_entry_eq]
  exact k_X4_pending_0 ⟨B.exec, B.bytes, B.returns, atoms_spec (ws := wsX4_pending) B.pre, hown, B.notSynchronized, hml⟩ (fun q h => Or.inr h) hK hl hP hD va_S.rf hw
/-! X4_hash: hash()I -/
theorem fi_X4_hash_X4 : ∀ w ∈ wsX40, w ∈ wsX4_hash := by decide +kernel
theorem fl_X4_hash_1 : ((.fieldLink RX4 15 "OrderTests$State" "head" "J") : Cond) ∈ wsX4_hash := by decide +kernel
theorem fl_X4_hash_2 : ((.fieldLink RX4 29 "OrderTests$State" "lengths" "J") : Cond) ∈ wsX4_hash := by decide +kernel
theorem fl_X4_hash_3 : ((.constantLong RX4 66 (-7046029254386353131)) : Cond) ∈ wsX4_hash := by decide +kernel
theorem fl_X4_hash_4 : ((.fieldLink RX4 11 "OrderTests$State" "rows" "[J") : Cond) ∈ wsX4_hash := by decide +kernel
abbrev rm_X4_hash : Room := { frames := 0, cells := 0, slots := 0, locals := 0 }
abbrev q_X4_hash (D : va_G) (cA : Nat → ClassId) (A : Nat → Prop) (a_t : Nat → Nat) (t_head : Int64) (t_lengths : Int64) (t_rows : (Nat → Int64)) (post : Int32 → Prop) : Array Value → State → Outcome → State → Prop := va_Qi (fun (r : Int32) (u : Unit) => post r) (cOut D cA A (fun (u : Unit) => sh_X4 cA a_t t_head t_lengths t_rows)) A
set_option maxHeartbeats 4000000 in
set_option maxRecDepth 100000 in
theorem b_X4_hash_20 {p : Program} {l : Launch} {e : Env} {s : State} {m : MethodId} {args : Array Value} {below : List Frame} {meth : Method} {c : Code} {D : va_G} {cA : Nat → ClassId} {A : Nat → Prop} {a_t : Nat → Nat} (C : cxm RX4 cX4_hash 4 (some .int) wsX4_hash p s m args meth c) (hA : ∀ q, s.heap.size ≤ q → A q) (hK : va_K D vwCl (tyL cA) s) {t_head : Int64} {t_lengths : Int64} {t_rows : (Nat → Int64)} {post : Int32 → Prop} {x1 : Int64} {x3 : Int32} {K20 : Int64 → Int32 → Prop} (hk20 : ∀ (H : Heap) (locs : List Loc) (ls : Array Slot) (x1 : Int64) (x3 : Int32), lv_has ls 4 [(0, .ref (a_t 0)), (1, .long x1), (3, .int x3)] → va_P D vwCl (sh_X4 cA a_t t_head t_lengths t_rows) H → va_D A (sh_X4 cA a_t t_head t_lengths t_rows) → va_S A s.heap H locs → K20 x1 x3 → W p l e rm_X4_hash s m args below meth c H locs 0 0 (MQ below (q_X4_hash D cA A a_t t_head t_lengths t_rows post) args s 0 0 A) (F0 m 20 ls [])) {H : Heap} {locs : List Loc} {ls : Array Slot} (hl : lv_has ls 4 [(0, .ref (a_t 0)), (1, .long x1), (3, .int x3)]) (hP : va_P D vwCl (sh_X4 cA a_t t_head t_lengths t_rows) H) (hD : va_D A (sh_X4 cA a_t t_head t_lengths t_rows)) (hS : va_S A s.heap H locs) (hw : bd_X4_hash_20 t_head t_lengths t_rows post K20 x1 x3) : W p l e rm_X4_hash s m args below meth c H locs 0 0 (MQ below (q_X4_hash D cA A a_t t_head t_lengths t_rows post) args s 0 0 A) (F0 m 20 ls []) := by
  obtain ⟨hx, hb, hr, hts, hown, hlocks, hml⟩ := id C
  unfold bd_X4_hash_20 at hw
  refine lv_iload_n hx hb dX4_hash_20 rfl (lv_at hl 2 rfl) ?_
  refine lv_bipush (v := 8) hx hb dX4_hash_21 (by decide) ?_
  refine lv_icmp_ge (tgt := 50) hx hb dX4_hash_23 (by decide) (fun hc => ?_) (fun hc => ?_)
  · have hw := hw.1 hc
    refine lv_lload_n hx hb dX4_hash_50 rfl (lv_at hl 1 rfl) ?_
    refine lv_bipush (v := 33) hx hb dX4_hash_51 (by decide) ?_
    refine lv_lushr hx hb dX4_hash_53 rfl ?_
    refine lv_l2i hx hb dX4_hash_54 rfl ?_
    exact W.iret (v := ((x1.toUInt64 >>> ((33 : Int32).toInt64.toUInt64 &&& Int64.toUInt64 63)).toInt64).toInt32) hx hb hr (fun t ht hW => ⟨⟨((x1.toUInt64 >>> ((33 : Int32).toInt64.toUInt64 &&& Int64.toUInt64 63)).toInt64).toInt32, (), rfl, hw, by rw [ht]; exact hP, va_K.moved hW.alike hK, hD⟩, hS.F ht⟩) hS.2.2 dX4_hash_55
  · have hw := hw.2 hc
    refine lv_lload_n hx hb dX4_hash_26 rfl (lv_at hl 1 rfl) ?_
    refine lv_lload_n hx hb dX4_hash_27 rfl (lv_at hl 1 rfl) ?_
    refine lv_bipush (v := 29) hx hb dX4_hash_28 (by decide) ?_
    refine lv_lushr hx hb dX4_hash_30 rfl ?_
    refine lv_lxor hx hb dX4_hash_31 ?_
    refine lv_aload_n hx hb dX4_hash_32 rfl (lv_at hl 0 rfl) ?_
    refine va_get (D := D) (ci := 4) (v := .ref (a_t 1)) (C := RX4) (T := TX4) (N := 3) hx hb hts fi_X4_hash_X4 hown hK hP 0 rfl rfl 2 (by decide) (hts _ fl_X4_hash_4) (fun _ h9 => h9) rfl dX4_hash_33 ?_
    refine lv_iload_n hx hb dX4_hash_36 rfl (lv_at hl 2 rfl) ?_
    obtain ⟨hi2, hw⟩ := hw
    refine va_lald hx hb hK hP 1 1 rfl rfl hi2 dX4_hash_37 ?_
    refine lv_lxor hx hb dX4_hash_38 ?_
    refine lv_ldc2 (v := (-7046029254386353131)) hx hb hown (hts _ fl_X4_hash_3) dX4_hash_39 ?_
    refine lv_lmul hx hb dX4_hash_42 ?_
    refine lv_topl (fun y3 ey3 => ?_)
    have hw := hw y3 ey3
    refine lv_lstore_n (lv' := [(1, .long y3), (0, .ref (a_t 0)), (3, .int x3)]) hx hb dX4_hash_43 rfl hl (by decide) rfl (fun ls hl => ?_)
    refine lv_iinc (v := (x3 + 1)) (lv' := [(3, .int (x3 + 1)), (1, .long y3), (0, .ref (a_t 0))]) hx hb dX4_hash_44 hl (k := 2) rfl rfl (by decide) rfl (fun ls hl => ?_)
    refine lv_goto (tgt := 20) hx hb dX4_hash_47 (by decide) ?_
    exact hk20 _ _ _ y3 (x3 + 1) (lv_sub hl [2, 1, 0] rfl) hP hD hS hw
set_option maxHeartbeats 4000000 in
set_option maxRecDepth 100000 in
theorem k_X4_hash_20 {p : Program} {l : Launch} {e : Env} {s : State} {m : MethodId} {args : Array Value} {below : List Frame} {meth : Method} {c : Code} {D : va_G} {cA : Nat → ClassId} {A : Nat → Prop} {a_t : Nat → Nat} (C : cxm RX4 cX4_hash 4 (some .int) wsX4_hash p s m args meth c) (hA : ∀ q, s.heap.size ≤ q → A q) (hK : va_K D vwCl (tyL cA) s) {t_head : Int64} {t_lengths : Int64} {t_rows : (Nat → Int64)} {post : Int32 → Prop} {x1 : Int64} {x3 : Int32} {H : Heap} {locs : List Loc} {ls : Array Slot} (hl : lv_has ls 4 [(0, .ref (a_t 0)), (1, .long x1), (3, .int x3)]) (hP : va_P D vwCl (sh_X4 cA a_t t_head t_lengths t_rows) H) (hD : va_D A (sh_X4 cA a_t t_head t_lengths t_rows)) (hS : va_S A s.heap H locs) (hw : wp_X4_hash_20 t_head t_lengths t_rows post x1 x3) : W p l e rm_X4_hash s m args below meth c H locs 0 0 (MQ below (q_X4_hash D cA A a_t t_head t_lengths t_rows post) args s 0 0 A) (F0 m 20 ls []) := by
  obtain ⟨I, n, hI, hstep⟩ := hw
  have key : ∀ (n : Nat) (H : Heap) (locs : List Loc) (ls : Array Slot) (x1 : Int64) (x3 : Int32), I n x1 x3 → lv_has ls 4 [(0, .ref (a_t 0)), (1, .long x1), (3, .int x3)] → va_P D vwCl (sh_X4 cA a_t t_head t_lengths t_rows) H → va_D A (sh_X4 cA a_t t_head t_lengths t_rows) → va_S A s.heap H locs → W p l e rm_X4_hash s m args below meth c H locs 0 0 (MQ below (q_X4_hash D cA A a_t t_head t_lengths t_rows post) args s 0 0 A) (F0 m 20 ls []) := by
    intro n
    induction n using Nat.strongRecOn with
    | _ n ih =>
      intro H locs ls x1 x3 hI hl hP hD hS
      exact b_X4_hash_20 C hA hK (fun H locs ls x1 x3 hl hP hD hS hw => by obtain ⟨n', hn, hI⟩ := hw; exact ih n' hn H locs ls x1 x3 hI hl hP hD hS) hl hP hD hS (hstep n x1 x3 hI)
  exact key n H locs ls x1 x3 hI hl hP hD hS
set_option maxHeartbeats 4000000 in
set_option maxRecDepth 100000 in
theorem k_X4_hash_0 {p : Program} {l : Launch} {e : Env} {s : State} {m : MethodId} {args : Array Value} {below : List Frame} {meth : Method} {c : Code} {D : va_G} {cA : Nat → ClassId} {A : Nat → Prop} {a_t : Nat → Nat} (C : cxm RX4 cX4_hash 4 (some .int) wsX4_hash p s m args meth c) (hA : ∀ q, s.heap.size ≤ q → A q) (hK : va_K D vwCl (tyL cA) s) {t_head : Int64} {t_lengths : Int64} {t_rows : (Nat → Int64)} {post : Int32 → Prop} {H : Heap} {locs : List Loc} {ls : Array Slot} (hl : lv_has ls 4 [(0, .ref (a_t 0))]) (hP : va_P D vwCl (sh_X4 cA a_t t_head t_lengths t_rows) H) (hD : va_D A (sh_X4 cA a_t t_head t_lengths t_rows)) (hS : va_S A s.heap H locs) (hw : wp_X4_hash_0 t_head t_lengths t_rows post) : W p l e rm_X4_hash s m args below meth c H locs 0 0 (MQ below (q_X4_hash D cA A a_t t_head t_lengths t_rows post) args s 0 0 A) (F0 m 0 ls []) := by
  obtain ⟨hx, hb, hr, hts, hown, hlocks, hml⟩ := id C
  unfold wp_X4_hash_0 at hw
  refine lv_aload_n hx hb dX4_hash_0 rfl (lv_at hl 0 rfl) ?_
  refine va_get (D := D) (ci := 4) (v := .long t_head) (C := RX4) (T := TX4) (N := 3) hx hb hts fi_X4_hash_X4 hown hK hP 0 rfl rfl 0 (by decide) (hts _ fl_X4_hash_1) (fun _ h9 => h9) rfl dX4_hash_1 ?_
  refine lv_aload_n hx hb dX4_hash_4 rfl (lv_at hl 0 rfl) ?_
  refine va_get (D := D) (ci := 4) (v := .long t_lengths) (C := RX4) (T := TX4) (N := 3) hx hb hts fi_X4_hash_X4 hown hK hP 0 rfl rfl 1 (by decide) (hts _ fl_X4_hash_2) (fun _ h9 => h9) rfl dX4_hash_5 ?_
  refine lv_ldc2 (v := (-7046029254386353131)) hx hb hown (hts _ fl_X4_hash_3) dX4_hash_8 ?_
  refine lv_lmul hx hb dX4_hash_11 ?_
  refine lv_lxor hx hb dX4_hash_12 ?_
  refine lv_ldc2 (v := (-7046029254386353131)) hx hb hown (hts _ fl_X4_hash_3) dX4_hash_13 ?_
  refine lv_lmul hx hb dX4_hash_16 ?_
  refine lv_topl (fun y1 ey1 => ?_)
  have hw := hw y1 ey1
  refine lv_lstore_n (lv' := [(1, .long y1), (0, .ref (a_t 0))]) hx hb dX4_hash_17 rfl hl (by decide) rfl (fun ls hl => ?_)
  refine lv_iconst (v := 0) hx hb dX4_hash_18 (by decide) ?_
  refine lv_istore_n (lv' := [(3, .int 0), (1, .long y1), (0, .ref (a_t 0))]) hx hb dX4_hash_19 rfl hl (by decide) rfl (fun ls hl => ?_)
  exact k_X4_hash_20 C hA hK (lv_sub hl [2, 1, 0] rfl) hP hD hS hw
set_option maxHeartbeats 4000000 in
set_option maxRecDepth 100000 in
theorem c_X4_hash (l : Launch) (D : va_G) (cA : Nat → ClassId) (a_t : Nat → Nat) (sz : Nat) (t_head : Int64) (t_lengths : Int64) (t_rows : (Nat → Int64)) (post : Int32 → Prop) (hw : wp_X4_hash t_head t_lengths t_rows post) : Met l yX4_hash wsX4_hash rm_X4_hash (cPre D cA sz [.ref (a_t 0)] (sh_X4 cA a_t t_head t_lengths t_rows)) (q_X4_hash D cA (va_A (sh_X4 cA a_t t_head t_lengths t_rows) sz) a_t t_head t_lengths t_rows post) 0 0 (va_A (sh_X4 cA a_t t_head t_lengths t_rows) sz) := by
  refine Met.ofW (cc := cX4_hash) (maxL := 4) (ret := (some .int)) (by decide) rfl ?_
  intro p e s m args below meth c s₁ B hml hv
  obtain ⟨rfl, hsz, hP, hK, hD0⟩ := hv
  have hown : s.vm.findClass RX4 = some m.cls := findClass_of_methodNamed B.named
  subst hsz
  have hD := hD0.self (sz := s.heap.size)
  have hl := lv_entry ([.ref (a_t 0)]) (n := 4) (Nat.le_of_ble_eq_true rfl)
  rw [lg_entry_eq]
  exact k_X4_hash_0 ⟨B.exec, B.bytes, B.returns, atoms_spec (ws := wsX4_hash) B.pre, hown, B.notSynchronized, hml⟩ (fun q h => Or.inr h) hK hl hP hD va_S.rf hw
