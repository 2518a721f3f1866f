/-! X5_clear: clear()V -/
theorem fi_X5_clear_X5 : ∀ w ∈ wsX50, w ∈ wsX5_clear := by decide +kernel
theorem fl_X5_clear_1 : ((.fieldLink RX5 25 "OrderTests$States" "count" "I") : Cond) ∈ wsX5_clear := by decide +kernel
theorem fl_X5_clear_2 : ((.fieldLink RX5 21 "OrderTests$States" "slots" "[I") : Cond) ∈ wsX5_clear := by decide +kernel
abbrev rm_X5_clear : Room := { frames := 1, cells := 0, slots := 0, locals := 23 }
abbrev q_X5_clear (D : va_G) (cA : Nat → ClassId) (A : Nat → Prop) (a_f : Nat → Nat) (f_heads : (Nat → Int64)) (f_lengths : (Nat → Int64)) (f_rows : (Nat → Int64)) (post : Int32 → (Nat → Int32) → Prop) : Array Value → State → Outcome → State → Prop := va_Qv (fun (u : Int32 × (Nat → Int32)) => post u.1 u.2) (cOut D cA A (fun (u : Int32 × (Nat → Int32)) => sh_X5 cA a_f u.1 f_heads f_lengths f_rows u.2)) A
set_option maxHeartbeats 4000000 in
set_option maxRecDepth 100000 in
theorem k_X5_clear_0 {p : Program} {l : Launch} {e : Env} {s : State} {m : MethodId} {args : Array Value} {below : List Frame} {meth : Method} {c : Code} {D : va_G} {cA : Nat → ClassId} {A : Nat → Prop} {a_f : Nat → Nat} (C : cxm RX5 cX5_clear 1 none wsX5_clear p s m args meth c) (hA : ∀ q, s.heap.size ≤ q → A q) (hK : va_K D vwCl (tyL cA) s) {f_heads : (Nat → Int64)} {f_lengths : (Nat → Int64)} {f_rows : (Nat → Int64)} {post : Int32 → (Nat → Int32) → Prop} {f_count : Int32} {f_slots : (Nat → Int32)} {H : Heap} {locs : List Loc} {ls : Array Slot} (hl : lv_has ls 1 [(0, .ref (a_f 0))]) (hP : va_P D vwCl (sh_X5 cA a_f f_count f_heads f_lengths f_rows f_slots) H) (hD : va_D A (sh_X5 cA a_f f_count f_heads f_lengths f_rows f_slots)) (hS : va_S A s.heap H locs) (hw : wp_X5_clear_0 post f_count f_slots) : W p l e rm_X5_clear s m args below meth c H locs 0 0 (MQ below (q_X5_clear D cA A a_f f_heads f_lengths f_rows post) args s 0 0 A) (F0 m 0 ls []) := by
  obtain ⟨hx, hb, hr, hts, hown, hlocks, hml⟩ := id C
  unfold wp_X5_clear_0 at hw
  refine lv_aload_n hx hb dX5_clear_0 rfl (lv_at hl 0 rfl) ?_
  refine lv_iconst (v := 0) hx hb dX5_clear_1 (by decide) ?_
  refine va_put (D := D) (ci := 5) (v := .int 0) (ty := .int) (C := RX5) (T := TX5) (N := 5) hx hb hts fi_X5_clear_X5 tyX5 tyX5_ok nmX5 hown hK hP hD hS 0 rfl rfl 0 (by decide) (hts _ fl_X5_clear_1) (fun _ h9 => h9) rfl (by decide +kernel) rfl rfl (Nat.le_of_ble_eq_true rfl) dX5_clear_2 (fun H locs hP hD hS => ?_)
  have hP : va_P D vwCl (sh_X5 cA a_f (0 : Int32) f_heads f_lengths f_rows f_slots) H := hP
  have hD : va_D A (sh_X5 cA a_f (0 : Int32) f_heads f_lengths f_rows f_slots) := hD
  refine lv_aload_n hx hb dX5_clear_5 rfl (lv_at hl 0 rfl) ?_
  refine va_get (D := D) (ci := 5) (v := .ref (a_f 4)) (C := RX5) (T := TX5) (N := 5) hx hb hts fi_X5_clear_X5 hown hK hP 0 rfl rfl 4 (by decide) (hts _ fl_X5_clear_2) (fun _ h9 => h9) rfl dX5_clear_6 ?_
  refine lv_iconst (v := 0) hx hb dX5_clear_9 (by decide) ?_
  refine cS_v (As := [.ref (a_f 4), .int 0]) (rest := []) (wr := [((a_f 0), .inr (5, [.int (0 : Int32), .ref (a_f 1), .ref (a_f 2), .ref (a_f 3), .ref (a_f 4)])), ((a_f 1), .inl (cA 1, 600, .inr (.inl f_heads))), ((a_f 2), .inl (cA 1, 600, .inr (.inl f_lengths))), ((a_f 3), .inl (cA 1, 4800, .inr (.inl f_rows)))]) (w2 := (fun (u : (Nat → Int32)) => sh_X5 cA a_f (0 : Int32) f_heads f_lengths f_rows u)) ⟨hx, hb, hml, hown, hts⟩ (c_J7_fill_53178 l D cA (a_f 4) 1024 H.size f_slots 0 _ hw) (va_cwS 2 hts gX5_clear_J7_fill_53178 rfl rfl rfl (by decide +kernel) ⟨(Nat.le_of_ble_eq_true rfl), (Nat.le_of_ble_eq_true rfl)⟩) hK hP hD hS hA [4] [0, 1, 2, 3] [0, 1, 2, 3, 4] rfl rfl rfl rfl (by decide) rfl (fun _ => rfl) rfl hl.1 rfl (Nat.le_of_ble_eq_true rfl) dX5_clear_10 ⟨Nat.le_refl _, Nat.le_refl _⟩ (fun u H locs hw hP hD hS => ?_)
  obtain ⟨f_slots_1, rfl⟩ : ∃ z, z = u := ⟨_, rfl⟩
  try dsimp only at hw
  have hP : va_P D vwCl (sh_X5 cA a_f (0 : Int32) f_heads f_lengths f_rows f_slots_1) H := hP
  have hD : va_D A (sh_X5 cA a_f (0 : Int32) f_heads f_lengths f_rows f_slots_1) := hD
  exact W.vret hx hb hr (fun t ht hW => ⟨⟨((0 : Int32), f_slots_1), rfl, hw, by rw [ht]; exact hP, va_K.moved hW.alike hK, hD⟩, hS.F ht⟩) hS.2.2 dX5_clear_13
set_option maxHeartbeats 4000000 in
set_option maxRecDepth 100000 in
theorem c_X5_clear (l : Launch) (D : va_G) (cA : Nat → ClassId) (a_f : Nat → Nat) (sz : Nat) (f_count : Int32) (f_heads : (Nat → Int64)) (f_lengths : (Nat → Int64)) (f_rows : (Nat → Int64)) (f_slots : (Nat → Int32)) (post : Int32 → (Nat → Int32) → Prop) (hw : wp_X5_clear f_count f_slots post) : Met l yX5_clear wsX5_clear rm_X5_clear (cPre D cA sz [.ref (a_f 0)] (sh_X5 cA a_f f_count f_heads f_lengths f_rows f_slots)) (q_X5_clear D cA (va_A (sh_X5 cA a_f f_count f_heads f_lengths f_rows f_slots) sz) a_f f_heads f_lengths f_rows post) 0 0 (va_A (sh_X5 cA a_f f_count f_heads f_lengths f_rows f_slots) sz) := by
  refine Met.ofW (cc := cX5_clear) (maxL := 1) (ret := none) (by decide) rfl ?_
  intro p e s m args below meth c s₁ B hml hv
  obtain ⟨rfl, hsz, hP, hK, hD0⟩ := hv
  have hown : s.vm.findClass RX5 = some m.cls := findClass_of_methodNamed B.named
  subst hsz
  have hD := hD0.self (sz := s.heap.size)
  have hl := lv_entry ([.ref (a_f 0)]) (n := 1) (Nat.le_of_ble_eq_true rfl)
  rw [lg_entry_eq]
  exact k_X5_clear_0 ⟨B.exec, B.bytes, B.returns, atoms_spec (ws := wsX5_clear) B.pre, hown, B.notSynchronized, hml⟩ (fun q h => Or.inr h) hK hl hP hD va_S.rf hw
/-! X5_isLike: isLike(ILOrderTests$State;)Z -/
theorem fi_X5_isLike_X5 : ∀ w ∈ wsX50, w ∈ wsX5_isLike := by decide +kernel
theorem fl_X5_isLike_1 : ((.fieldLink RX5 9 "OrderTests$States" "heads" "[J") : Cond) ∈ wsX5_isLike := by decide +kernel
theorem fi_X5_isLike_X4 : ∀ w ∈ wsX40, w ∈ wsX5_isLike := by decide +kernel
theorem fl_X5_isLike_3 : ((.fieldLink RX5 45 "OrderTests$State" "head" "J") : Cond) ∈ wsX5_isLike := by decide +kernel
theorem fl_X5_isLike_4 : ((.fieldLink RX5 15 "OrderTests$States" "lengths" "[J") : Cond) ∈ wsX5_isLike := by decide +kernel
theorem fl_X5_isLike_5 : ((.fieldLink RX5 49 "OrderTests$State" "lengths" "J") : Cond) ∈ wsX5_isLike := by decide +kernel
theorem fl_X5_isLike_6 : ((.fieldLink RX5 18 "OrderTests$States" "rows" "[J") : Cond) ∈ wsX5_isLike := by decide +kernel
theorem fl_X5_isLike_7 : ((.fieldLink RX5 51 "OrderTests$State" "rows" "[J") : Cond) ∈ wsX5_isLike := by decide +kernel
abbrev rm_X5_isLike : Room := { frames := 0, cells := 0, slots := 0, locals := 0 }
abbrev q_X5_isLike (D : va_G) (cA : Nat → ClassId) (A : Nat → Prop) (a_f : Nat → Nat) (a_t : Nat → Nat) (f_count : Int32) (f_heads : (Nat → Int64)) (f_lengths : (Nat → Int64)) (f_rows : (Nat → Int64)) (f_slots : (Nat → Int32)) (t_head : Int64) (t_lengths : Int64) (t_rows : (Nat → Int64)) (post : Int32 → Prop) : Array Value → State → Outcome → State → Prop := va_Qi (fun (r : Int32) (u : Unit) => post r) (cOut D cA A (fun (u : Unit) => sh_X5 cA a_f f_count f_heads f_lengths f_rows f_slots ++ sh_X4 cA a_t t_head t_lengths t_rows)) A
set_option maxHeartbeats 4000000 in
set_option maxRecDepth 100000 in
theorem b_X5_isLike_32 {p : Program} {l : Launch} {e : Env} {s : State} {m : MethodId} {args : Array Value} {below : List Frame} {meth : Method} {c : Code} {D : va_G} {cA : Nat → ClassId} {A : Nat → Prop} {a_f : Nat → Nat} {a_t : Nat → Nat} (C : cxm RX5 cX5_isLike 4 (some .boolean) wsX5_isLike p s m args meth c) (hA : ∀ q, s.heap.size ≤ q → A q) (hK : va_K D vwCl (tyL cA) s) {f_count : Int32} {f_heads : (Nat → Int64)} {f_lengths : (Nat → Int64)} {f_rows : (Nat → Int64)} {f_slots : (Nat → Int32)} {t_head : Int64} {t_lengths : Int64} {t_rows : (Nat → Int64)} {post : Int32 → Prop} {x1 : Int32} {x3 : Int32} {K32 : Int32 → Prop} (hk32 : ∀ (H : Heap) (locs : List Loc) (ls : Array Slot) (x3 : Int32), lv_has ls 4 [(0, .ref (a_f 0)), (1, .int x1), (2, .ref (a_t 0)), (3, .int x3)] → va_P D vwCl (sh_X5 cA a_f f_count f_heads f_lengths f_rows f_slots ++ sh_X4 cA a_t t_head t_lengths t_rows) H → va_D A (sh_X5 cA a_f f_count f_heads f_lengths f_rows f_slots ++ sh_X4 cA a_t t_head t_lengths t_rows) → va_S A s.heap H locs → K32 x3 → W p l e rm_X5_isLike s m args below meth c H locs 0 0 (MQ below (q_X5_isLike D cA A a_f a_t f_count f_heads f_lengths f_rows f_slots t_head t_lengths t_rows post) args s 0 0 A) (F0 m 32 ls [])) {H : Heap} {locs : List Loc} {ls : Array Slot} (hl : lv_has ls 4 [(0, .ref (a_f 0)), (1, .int x1), (2, .ref (a_t 0)), (3, .int x3)]) (hP : va_P D vwCl (sh_X5 cA a_f f_count f_heads f_lengths f_rows f_slots ++ sh_X4 cA a_t t_head t_lengths t_rows) H) (hD : va_D A (sh_X5 cA a_f f_count f_heads f_lengths f_rows f_slots ++ sh_X4 cA a_t t_head t_lengths t_rows)) (hS : va_S A s.heap H locs) (hw : bd_X5_isLike_32 f_heads f_lengths f_rows t_head t_lengths t_rows post K32 x1 x3) : W p l e rm_X5_isLike s m args below meth c H locs 0 0 (MQ below (q_X5_isLike D cA A a_f a_t f_count f_heads f_lengths f_rows f_slots t_head t_lengths t_rows post) args s 0 0 A) (F0 m 32 ls []) := by
  obtain ⟨hx, hb, hr, hts, hown, hlocks, hml⟩ := id C
  unfold bd_X5_isLike_32 at hw
  refine lv_iload_n hx hb dX5_isLike_32 rfl (lv_at hl 3 rfl) ?_
  refine lv_bipush (v := 8) hx hb dX5_isLike_33 (by decide) ?_
  refine lv_icmp_ge (tgt := 67) hx hb dX5_isLike_35 (by decide) (fun hc => ?_) (fun hc => ?_)
  · have hw := hw.1 hc
    refine lv_iconst (v := 1) hx hb dX5_isLike_67 (by decide) ?_
    exact W.zret (v := 1) hx hb hr rfl (fun t ht hW => ⟨⟨1, (), rfl, hw, by rw [ht]; exact hP, va_K.moved hW.alike hK, hD⟩, hS.F ht⟩) hS.2.2 dX5_isLike_68
  · have hw := hw.2 hc
    refine lv_aload_n hx hb dX5_isLike_38 rfl (lv_at hl 0 rfl) ?_
    refine va_get (D := D) (ci := 5) (v := .ref (a_f 3)) (C := RX5) (T := TX5) (N := 5) hx hb hts fi_X5_isLike_X5 hown hK hP 0 rfl rfl 3 (by decide) (hts _ fl_X5_isLike_6) (fun _ h9 => h9) rfl dX5_isLike_39 ?_
    refine lv_iload_n hx hb dX5_isLike_42 rfl (lv_at hl 1 rfl) ?_
    refine lv_bipush (v := 8) hx hb dX5_isLike_43 (by decide) ?_
    refine lv_imul hx hb dX5_isLike_45 ?_
    refine lv_iload_n hx hb dX5_isLike_46 rfl (lv_at hl 3 rfl) ?_
    refine lv_iadd hx hb dX5_isLike_47 ?_
    obtain ⟨hi3, hw⟩ := hw
    refine va_lald hx hb hK hP 3 1 rfl rfl hi3 dX5_isLike_48 ?_
    refine lv_aload_n hx hb dX5_isLike_49 rfl (lv_at hl 2 rfl) ?_
    refine va_get (D := D) (ci := 4) (v := .ref (a_t 1)) (C := RX4) (T := TX4) (N := 3) hx hb hts fi_X5_isLike_X4 hown hK hP 5 rfl rfl 2 (by decide) (hts _ fl_X5_isLike_7) (fun _ h9 => h9) rfl dX5_isLike_50 ?_
    refine lv_iload_n hx hb dX5_isLike_53 rfl (lv_at hl 3 rfl) ?_
    obtain ⟨hi4, hw⟩ := hw
    refine va_lald hx hb hK hP 6 1 rfl rfl hi4 dX5_isLike_54 ?_
    refine W.lcmp hx hb dX5_isLike_55 ?_
    refine lv_if_eq (tgt := 61) hx hb dX5_isLike_56 (by decide) (fun hc => ?_) (fun hc => ?_)
    · have hw := hw.1 hc
      refine lv_iinc (v := (x3 + 1)) (lv' := [(3, .int (x3 + 1)), (0, .ref (a_f 0)), (1, .int x1), (2, .ref (a_t 0))]) hx hb dX5_isLike_61 hl (k := 3) rfl rfl (by decide) rfl (fun ls hl => ?_)
      refine lv_goto (tgt := 32) hx hb dX5_isLike_64 (by decide) ?_
      exact hk32 _ _ _ (x3 + 1) (lv_sub hl [1, 2, 3, 0] rfl) hP hD hS hw
    · have hw := hw.2 hc
      refine lv_iconst (v := 0) hx hb dX5_isLike_59 (by decide) ?_
      exact W.zret (v := 0) hx hb hr rfl (fun t ht hW => ⟨⟨0, (), rfl, hw, by rw [ht]; exact hP, va_K.moved hW.alike hK, hD⟩, hS.F ht⟩) hS.2.2 dX5_isLike_60
set_option maxHeartbeats 4000000 in
set_option maxRecDepth 100000 in
theorem k_X5_isLike_32 {p : Program} {l : Launch} {e : Env} {s : State} {m : MethodId} {args : Array Value} {below : List Frame} {meth : Method} {c : Code} {D : va_G} {cA : Nat → ClassId} {A : Nat → Prop} {a_f : Nat → Nat} {a_t : Nat → Nat} (C : cxm RX5 cX5_isLike 4 (some .boolean) wsX5_isLike p s m args meth c) (hA : ∀ q, s.heap.size ≤ q → A q) (hK : va_K D vwCl (tyL cA) s) {f_count : Int32} {f_heads : (Nat → Int64)} {f_lengths : (Nat → Int64)} {f_rows : (Nat → Int64)} {f_slots : (Nat → Int32)} {t_head : Int64} {t_lengths : Int64} {t_rows : (Nat → Int64)} {post : Int32 → Prop} {x1 : Int32} {x3 : Int32} {H : Heap} {locs : List Loc} {ls : Array Slot} (hl : lv_has ls 4 [(0, .ref (a_f 0)), (1, .int x1), (2, .ref (a_t 0)), (3, .int x3)]) (hP : va_P D vwCl (sh_X5 cA a_f f_count f_heads f_lengths f_rows f_slots ++ sh_X4 cA a_t t_head t_lengths t_rows) H) (hD : va_D A (sh_X5 cA a_f f_count f_heads f_lengths f_rows f_slots ++ sh_X4 cA a_t t_head t_lengths t_rows)) (hS : va_S A s.heap H locs) (hw : wp_X5_isLike_32 f_heads f_lengths f_rows t_head t_lengths t_rows post x1 x3) : W p l e rm_X5_isLike s m args below meth c H locs 0 0 (MQ below (q_X5_isLike D cA A a_f a_t f_count f_heads f_lengths f_rows f_slots t_head t_lengths t_rows post) args s 0 0 A) (F0 m 32 ls []) := by
  obtain ⟨I, n, hI, hstep⟩ := hw
  have key : ∀ (n : Nat) (H : Heap) (locs : List Loc) (ls : Array Slot) (x3 : Int32), I n x3 → lv_has ls 4 [(0, .ref (a_f 0)), (1, .int x1), (2, .ref (a_t 0)), (3, .int x3)] → va_P D vwCl (sh_X5 cA a_f f_count f_heads f_lengths f_rows f_slots ++ sh_X4 cA a_t t_head t_lengths t_rows) H → va_D A (sh_X5 cA a_f f_count f_heads f_lengths f_rows f_slots ++ sh_X4 cA a_t t_head t_lengths t_rows) → va_S A s.heap H locs → W p l e rm_X5_isLike s m args below meth c H locs 0 0 (MQ below (q_X5_isLike D cA A a_f a_t f_count f_heads f_lengths f_rows f_slots t_head t_lengths t_rows post) args s 0 0 A) (F0 m 32 ls []) := by
    intro n
    induction n using Nat.strongRecOn with
    | _ n ih =>
      intro H locs ls x3 hI hl hP hD hS
      exact b_X5_isLike_32 C hA hK (fun H locs ls x3 hl hP hD hS hw => by obtain ⟨n', hn, hI⟩ := hw; exact ih n' hn H locs ls x3 hI hl hP hD hS) hl hP hD hS (hstep n x3 hI)
  exact key n H locs ls x3 hI hl hP hD hS
set_option maxHeartbeats 4000000 in
set_option maxRecDepth 100000 in
theorem k_X5_isLike_0 {p : Program} {l : Launch} {e : Env} {s : State} {m : MethodId} {args : Array Value} {below : List Frame} {meth : Method} {c : Code} {D : va_G} {cA : Nat → ClassId} {A : Nat → Prop} {a_f : Nat → Nat} {a_t : Nat → Nat} (C : cxm RX5 cX5_isLike 4 (some .boolean) wsX5_isLike p s m args meth c) (hA : ∀ q, s.heap.size ≤ q → A q) (hK : va_K D vwCl (tyL cA) s) {f_count : Int32} {f_heads : (Nat → Int64)} {f_lengths : (Nat → Int64)} {f_rows : (Nat → Int64)} {f_slots : (Nat → Int32)} {t_head : Int64} {t_lengths : Int64} {t_rows : (Nat → Int64)} {post : Int32 → Prop} {x1 : Int32} {H : Heap} {locs : List Loc} {ls : Array Slot} (hl : lv_has ls 4 [(0, .ref (a_f 0)), (1, .int x1), (2, .ref (a_t 0))]) (hP : va_P D vwCl (sh_X5 cA a_f f_count f_heads f_lengths f_rows f_slots ++ sh_X4 cA a_t t_head t_lengths t_rows) H) (hD : va_D A (sh_X5 cA a_f f_count f_heads f_lengths f_rows f_slots ++ sh_X4 cA a_t t_head t_lengths t_rows)) (hS : va_S A s.heap H locs) (hw : wp_X5_isLike_0 f_heads f_lengths f_rows t_head t_lengths t_rows post x1) : W p l e rm_X5_isLike s m args below meth c H locs 0 0 (MQ below (q_X5_isLike D cA A a_f a_t f_count f_heads f_lengths f_rows f_slots t_head t_lengths t_rows post) args s 0 0 A) (F0 m 0 ls []) := by
  obtain ⟨hx, hb, hr, hts, hown, hlocks, hml⟩ := id C
  unfold wp_X5_isLike_0 at hw
  refine lv_aload_n hx hb dX5_isLike_0 rfl (lv_at hl 0 rfl) ?_
  refine va_get (D := D) (ci := 5) (v := .ref (a_f 1)) (C := RX5) (T := TX5) (N := 5) hx hb hts fi_X5_isLike_X5 hown hK hP 0 rfl rfl 1 (by decide) (hts _ fl_X5_isLike_1) (fun _ h9 => h9) rfl dX5_isLike_1 ?_
  refine lv_iload_n hx hb dX5_isLike_4 rfl (lv_at hl 1 rfl) ?_
  obtain ⟨hi1, hw⟩ := hw
  refine va_lald hx hb hK hP 1 1 rfl rfl hi1 dX5_isLike_5 ?_
  refine lv_aload_n hx hb dX5_isLike_6 rfl (lv_at hl 2 rfl) ?_
  refine va_get (D := D) (ci := 4) (v := .long t_head) (C := RX4) (T := TX4) (N := 3) hx hb hts fi_X5_isLike_X4 hown hK hP 5 rfl rfl 0 (by decide) (hts _ fl_X5_isLike_3) (fun _ h9 => h9) rfl dX5_isLike_7 ?_
  refine W.lcmp hx hb dX5_isLike_10 ?_
  refine lv_if_ne (tgt := 28) hx hb dX5_isLike_11 (by decide) (fun hc => ?_) (fun hc => ?_)
  · have hw := hw.1 hc
    refine lv_iconst (v := 0) hx hb dX5_isLike_28 (by decide) ?_
    exact W.zret (v := 0) hx hb hr rfl (fun t ht hW => ⟨⟨0, (), rfl, hw, by rw [ht]; exact hP, va_K.moved hW.alike hK, hD⟩, hS.F ht⟩) hS.2.2 dX5_isLike_29
  · have hw := hw.2 hc
    refine lv_aload_n hx hb dX5_isLike_14 rfl (lv_at hl 0 rfl) ?_
    refine va_get (D := D) (ci := 5) (v := .ref (a_f 2)) (C := RX5) (T := TX5) (N := 5) hx hb hts fi_X5_isLike_X5 hown hK hP 0 rfl rfl 2 (by decide) (hts _ fl_X5_isLike_4) (fun _ h9 => h9) rfl dX5_isLike_15 ?_
    refine lv_iload_n hx hb dX5_isLike_18 rfl (lv_at hl 1 rfl) ?_
    obtain ⟨hi2, hw⟩ := hw
    refine va_lald hx hb hK hP 2 1 rfl rfl hi2 dX5_isLike_19 ?_
    refine lv_aload_n hx hb dX5_isLike_20 rfl (lv_at hl 2 rfl) ?_
    refine va_get (D := D) (ci := 4) (v := .long t_lengths) (C := RX4) (T := TX4) (N := 3) hx hb hts fi_X5_isLike_X4 hown hK hP 5 rfl rfl 1 (by decide) (hts _ fl_X5_isLike_5) (fun _ h9 => h9) rfl dX5_isLike_21 ?_
    refine W.lcmp hx hb dX5_isLike_24 ?_
    refine lv_if_eq (tgt := 30) hx hb dX5_isLike_25 (by decide) (fun hc => ?_) (fun hc => ?_)
    · have hw := hw.1 hc
      refine lv_iconst (v := 0) hx hb dX5_isLike_30 (by decide) ?_
      refine lv_istore_n (lv' := [(3, .int 0), (0, .ref (a_f 0)), (1, .int x1), (2, .ref (a_t 0))]) hx hb dX5_isLike_31 rfl hl (by decide) rfl (fun ls hl => ?_)
      exact k_X5_isLike_32 C hA hK (lv_sub hl [1, 2, 3, 0] rfl) hP hD hS hw
    · have hw := hw.2 hc
      refine lv_iconst (v := 0) hx hb dX5_isLike_28 (by decide) ?_
      exact W.zret (v := 0) hx hb hr rfl (fun t ht hW => ⟨⟨0, (), rfl, hw, by rw [ht]; exact hP, va_K.moved hW.alike hK, hD⟩, hS.F ht⟩) hS.2.2 dX5_isLike_29
set_option maxHeartbeats 4000000 in
set_option maxRecDepth 100000 in
theorem c_X5_isLike (l : Launch) (D : va_G) (cA : Nat → ClassId) (a_f : Nat → Nat) (a_t : Nat → Nat) (sz : Nat) (f_count : Int32) (f_heads : (Nat → Int64)) (f_lengths : (Nat → Int64)) (f_rows : (Nat → Int64)) (f_slots : (Nat → Int32)) (t_head : Int64) (t_lengths : Int64) (t_rows : (Nat → Int64)) (x1 : Int32) (post : Int32 → Prop) (hw : wp_X5_isLike f_heads f_lengths f_rows t_head t_lengths t_rows x1 post) : Met l yX5_isLike wsX5_isLike rm_X5_isLike (cPre D cA sz [.ref (a_f 0), .int x1, .ref (a_t 0)] (sh_X5 cA a_f f_count f_heads f_lengths f_rows f_slots ++ sh_X4 cA a_t t_head t_lengths t_rows)) (q_X5_isLike D cA (va_A (sh_X5 cA a_f f_count f_heads f_lengths f_rows f_slots ++ sh_X4 cA a_t t_head t_lengths t_rows) sz) a_f a_t f_count f_heads f_lengths f_rows f_slots t_head t_lengths t_rows post) 0 0 (va_A (sh_X5 cA a_f f_count f_heads f_lengths f_rows f_slots ++ sh_X4 cA a_t t_head t_lengths t_rows) sz) := by
  refine Met.ofW (cc := cX5_isLike) (maxL := 4) (ret := (some .boolean)) (by decide) rfl ?_
  intro p e s m args below meth c s₁ B hml hv
  obtain ⟨rfl, hsz, hP, hK, hD0⟩ := hv
  have hown : s.vm.findClass RX5 = some m.cls := findClass_of_methodNamed B.named
  subst hsz
  have hD := hD0.self (sz := s.heap.size)
  have hl := lv_entry ([.ref (a_f 0), .int x1, .ref (a_t 0)]) (n := 4) (Nat.le_of_ble_eq_true rfl)
  rw [lg_entry_eq]
  exact k_X5_isLike_0 ⟨B.exec, B.bytes, B.returns, atoms_spec (ws := wsX5_isLike) B.pre, hown, B.notSynchronized, hml⟩ (fun q h => Or.inr h) hK hl hP hD va_S.rf hw
/-! X5_freeSlot: freeSlot(LOrderTests$State;)I -/
theorem fi_X5_freeSlot_X5 : ∀ w ∈ wsX50, w ∈ wsX5_freeSlot := by decide +kernel
theorem fl_X5_freeSlot_1 : ((.fieldLink RX5 21 "OrderTests$States" "slots" "[I") : Cond) ∈ wsX5_freeSlot := by decide +kernel
abbrev rm_X5_freeSlot : Room := { frames := 1, cells := 0, slots := 0, locals := 23 }
abbrev q_X5_freeSlot (D : va_G) (cA : Nat → ClassId) (A : Nat → Prop) (a_f : Nat → Nat) (a_t : Nat → Nat) (f_count : Int32) (f_heads : (Nat → Int64)) (f_lengths : (Nat → Int64)) (f_rows : (Nat → Int64)) (f_slots : (Nat → Int32)) (t_head : Int64) (t_lengths : Int64) (t_rows : (Nat → Int64)) (post : Int32 → Prop) : Array Value → State → Outcome → State → Prop := va_Qi (fun (r : Int32) (u : Unit) => post r) (cOut D cA A (fun (u : Unit) => sh_X5 cA a_f f_count f_heads f_lengths f_rows f_slots ++ sh_X4 cA a_t t_head t_lengths t_rows)) A
set_option maxHeartbeats 4000000 in
set_option maxRecDepth 100000 in
theorem b_X5_freeSlot_7 {p : Program} {l : Launch} {e : Env} {s : State} {m : MethodId} {args : Array Value} {below : List Frame} {meth : Method} {c : Code} {D : va_G} {cA : Nat → ClassId} {A : Nat → Prop} {a_f : Nat → Nat} {a_t : Nat → Nat} (C : cxm RX5 cX5_freeSlot 5 (some .int) wsX5_freeSlot p s m args meth c) (hA : ∀ q, s.heap.size ≤ q → A q) (hK : va_K D vwCl (tyL cA) s) {f_count : Int32} {f_heads : (Nat → Int64)} {f_lengths : (Nat → Int64)} {f_rows : (Nat → Int64)} {f_slots : (Nat → Int32)} {t_head : Int64} {t_lengths : Int64} {t_rows : (Nat → Int64)} {post : Int32 → Prop} {x2 : Int32} {x3 : Int32} {K7 : Int32 → Prop} (hk7 : ∀ (H : Heap) (locs : List Loc) (ls : Array Slot) (x3 : Int32), lv_has ls 5 [(0, .ref (a_f 0)), (1, .ref (a_t 0)), (2, .int x2), (3, .int x3)] → va_P D vwCl (sh_X5 cA a_f f_count f_heads f_lengths f_rows f_slots ++ sh_X4 cA a_t t_head t_lengths t_rows) H → va_D A (sh_X5 cA a_f f_count f_heads f_lengths f_rows f_slots ++ sh_X4 cA a_t t_head t_lengths t_rows) → va_S A s.heap H locs → K7 x3 → W p l e rm_X5_freeSlot s m args below meth c H locs 0 0 (MQ below (q_X5_freeSlot D cA A a_f a_t f_count f_heads f_lengths f_rows f_slots t_head t_lengths t_rows post) args s 0 0 A) (F0 m 7 ls [])) {H : Heap} {locs : List Loc} {ls : Array Slot} (hl : lv_has ls 5 [(0, .ref (a_f 0)), (1, .ref (a_t 0)), (2, .int x2), (3, .int x3)]) (hP : va_P D vwCl (sh_X5 cA a_f f_count f_heads f_lengths f_rows f_slots ++ sh_X4 cA a_t t_head t_lengths t_rows) H) (hD : va_D A (sh_X5 cA a_f f_count f_heads f_lengths f_rows f_slots ++ sh_X4 cA a_t t_head t_lengths t_rows)) (hS : va_S A s.heap H locs) (hw : bd_X5_freeSlot_7 f_heads f_lengths f_rows f_slots t_head t_lengths t_rows post K7 x2 x3) : W p l e rm_X5_freeSlot s m args below meth c H locs 0 0 (MQ below (q_X5_freeSlot D cA A a_f a_t f_count f_heads f_lengths f_rows f_slots t_head t_lengths t_rows post) args s 0 0 A) (F0 m 7 ls []) := by
  obtain ⟨hx, hb, hr, hts, hown, hlocks, hml⟩ := id C
  unfold bd_X5_freeSlot_7 at hw
  refine lv_iload_n hx hb dX5_freeSlot_7 rfl (lv_at hl 3 rfl) ?_
  refine lv_sipush (v := 1024) hx hb dX5_freeSlot_8 (by decide) ?_
  refine lv_icmp_ge (tgt := 61) hx hb dX5_freeSlot_11 (by decide) (fun hc => ?_) (fun hc => ?_)
  · have hw := hw.1 hc
    refine lv_iconst (v := (-1)) hx hb dX5_freeSlot_61 (by decide) ?_
    exact W.iret (v := (-1)) hx hb hr (fun t ht hW => ⟨⟨(-1), (), rfl, hw, by rw [ht]; exact hP, va_K.moved hW.alike hK, hD⟩, hS.F ht⟩) hS.2.2 dX5_freeSlot_62
  · have hw := hw.2 hc
    refine lv_iload_n hx hb dX5_freeSlot_14 rfl (lv_at hl 2 rfl) ?_
    refine lv_iload_n hx hb dX5_freeSlot_15 rfl (lv_at hl 3 rfl) ?_
    refine lv_iadd hx hb dX5_freeSlot_16 ?_
    refine lv_sipush (v := 1023) hx hb dX5_freeSlot_17 (by decide) ?_
    refine lv_iand hx hb dX5_freeSlot_20 ?_
    refine lv_istore (lv' := [(4, .int ((x2 + x3) &&& 1023)), (0, .ref (a_f 0)), (1, .ref (a_t 0)), (2, .int x2), (3, .int x3)]) hx hb dX5_freeSlot_21 hl (by decide) rfl (fun ls hl => ?_)
    refine lv_aload_n hx hb dX5_freeSlot_23 rfl (lv_at hl 1 rfl) ?_
    refine va_get (D := D) (ci := 5) (v := .ref (a_f 4)) (C := RX5) (T := TX5) (N := 5) hx hb hts fi_X5_freeSlot_X5 hown hK hP 0 rfl rfl 4 (by decide) (hts _ fl_X5_freeSlot_1) (fun _ h9 => h9) rfl dX5_freeSlot_24 ?_
    refine lv_iload hx hb dX5_freeSlot_27 (lv_at hl 0 rfl) ?_
    obtain ⟨hi2, hw⟩ := hw
    refine va_iald hx hb hK hP 4 0 rfl rfl hi2 dX5_freeSlot_29 ?_
    refine lv_if_ne (tgt := 36) hx hb dX5_freeSlot_30 (by decide) (fun hc => ?_) (fun hc => ?_)
    · have hw := hw.1 hc
      refine lv_aload_n hx hb dX5_freeSlot_36 rfl (lv_at hl 1 rfl) ?_
      refine lv_aload_n hx hb dX5_freeSlot_37 rfl (lv_at hl 1 rfl) ?_
      refine va_get (D := D) (ci := 5) (v := .ref (a_f 4)) (C := RX5) (T := TX5) (N := 5) hx hb hts fi_X5_freeSlot_X5 hown hK hP 0 rfl rfl 4 (by decide) (hts _ fl_X5_freeSlot_1) (fun _ h9 => h9) rfl dX5_freeSlot_38 ?_
      refine lv_iload hx hb dX5_freeSlot_41 (lv_at hl 0 rfl) ?_
      obtain ⟨hi3, hw⟩ := hw
      refine va_iald hx hb hK hP 4 0 rfl rfl hi3 dX5_freeSlot_43 ?_
      refine lv_iconst (v := 1) hx hb dX5_freeSlot_44 (by decide) ?_
      refine lv_isub hx hb dX5_freeSlot_45 ?_
      refine lv_aload_n hx hb dX5_freeSlot_46 rfl (lv_at hl 2 rfl) ?_
      refine cV_i (As := [.int ((f_slots ((x2 + x3) &&& 1023).toNatClampNeg) - 1), .ref (a_t 0)]) (rest := []) (wr := []) (w2 := (fun (u : Unit) => sh_X5 cA a_f f_count f_heads f_lengths f_rows f_slots ++ sh_X4 cA a_t t_head t_lengths t_rows)) ⟨hx, hb, hml, hown, hts⟩ (c_X5_isLike l D cA a_f a_t H.size f_count f_heads f_lengths f_rows f_slots t_head t_lengths t_rows ((f_slots ((x2 + x3) &&& 1023).toNatClampNeg) - 1) _ hw) (cwV 2 hts gX5_freeSlot_X5_isLike rfl rfl rfl (by decide +kernel) ⟨(Nat.le_of_ble_eq_true rfl), (Nat.le_of_ble_eq_true rfl)⟩) hK hP hD hS hA [0, 1, 2, 3, 4, 5, 6] [] [0, 1, 2, 3, 4, 5, 6] rfl rfl rfl rfl (by decide) rfl (fun _ => rfl) rfl rfl rfl hl.1 rfl (Nat.le_of_ble_eq_true rfl) dX5_freeSlot_47 ⟨Nat.le_refl _, Nat.le_refl _⟩ (fun r4 u H locs hw hP hD hS => ?_)
      try dsimp only at hw
      have hP : va_P D vwCl (sh_X5 cA a_f f_count f_heads f_lengths f_rows f_slots ++ sh_X4 cA a_t t_head t_lengths t_rows) H := hP
      have hD : va_D A (sh_X5 cA a_f f_count f_heads f_lengths f_rows f_slots ++ sh_X4 cA a_t t_head t_lengths t_rows) := hD
      refine lv_if_eq (tgt := 55) hx hb dX5_freeSlot_50 (by decide) (fun hc => ?_) (fun hc => ?_)
      · have hw := hw.1 hc
        refine lv_iinc (v := (x3 + 1)) (lv' := [(3, .int (x3 + 1)), (4, .int ((x2 + x3) &&& 1023)), (0, .ref (a_f 0)), (1, .ref (a_t 0)), (2, .int x2)]) hx hb dX5_freeSlot_55 hl (k := 4) rfl rfl (by decide) rfl (fun ls hl => ?_)
        refine lv_goto (tgt := 7) hx hb dX5_freeSlot_58 (by decide) ?_
        exact hk7 _ _ _ (x3 + 1) (lv_sub hl [2, 3, 4, 0] rfl) hP hD hS hw
      · have hw := hw.2 hc
        refine lv_iconst (v := (-1)) hx hb dX5_freeSlot_53 (by decide) ?_
        exact W.iret (v := (-1)) hx hb hr (fun t ht hW => ⟨⟨(-1), (), rfl, hw, by rw [ht]; exact hP, va_K.moved hW.alike hK, hD⟩, hS.F ht⟩) hS.2.2 dX5_freeSlot_54
    · have hw := hw.2 hc
      refine lv_iload hx hb dX5_freeSlot_33 (lv_at hl 0 rfl) ?_
      exact W.iret (v := ((x2 + x3) &&& 1023)) hx hb hr (fun t ht hW => ⟨⟨((x2 + x3) &&& 1023), (), rfl, hw, by rw [ht]; exact hP, va_K.moved hW.alike hK, hD⟩, hS.F ht⟩) hS.2.2 dX5_freeSlot_35
set_option maxHeartbeats 4000000 in
set_option maxRecDepth 100000 in
theorem k_X5_freeSlot_7 {p : Program} {l : Launch} {e : Env} {s : State} {m : MethodId} {args : Array Value} {below : List Frame} {meth : Method} {c : Code} {D : va_G} {cA : Nat → ClassId} {A : Nat → Prop} {a_f : Nat → Nat} {a_t : Nat → Nat} (C : cxm RX5 cX5_freeSlot 5 (some .int) wsX5_freeSlot p s m args meth c) (hA : ∀ q, s.heap.size ≤ q → A q) (hK : va_K D vwCl (tyL cA) s) {f_count : Int32} {f_heads : (Nat → Int64)} {f_lengths : (Nat → Int64)} {f_rows : (Nat → Int64)} {f_slots : (Nat → Int32)} {t_head : Int64} {t_lengths : Int64} {t_rows : (Nat → Int64)} {post : Int32 → Prop} {x2 : Int32} {x3 : Int32} {H : Heap} {locs : List Loc} {ls : Array Slot} (hl : lv_has ls 5 [(0, .ref (a_f 0)), (1, .ref (a_t 0)), (2, .int x2), (3, .int x3)]) (hP : va_P D vwCl (sh_X5 cA a_f f_count f_heads f_lengths f_rows f_slots ++ sh_X4 cA a_t t_head t_lengths t_rows) H) (hD : va_D A (sh_X5 cA a_f f_count f_heads f_lengths f_rows f_slots ++ sh_X4 cA a_t t_head t_lengths t_rows)) (hS : va_S A s.heap H locs) (hw : wp_X5_freeSlot_7 f_heads f_lengths f_rows f_slots t_head t_lengths t_rows post x2 x3) : W p l e rm_X5_freeSlot s m args below meth c H locs 0 0 (MQ below (q_X5_freeSlot D cA A a_f a_t f_count f_heads f_lengths f_rows f_slots t_head t_lengths t_rows post) args s 0 0 A) (F0 m 7 ls []) := by
  obtain ⟨I, n, hI, hstep⟩ := hw
  have key : ∀ (n : Nat) (H : Heap) (locs : List Loc) (ls : Array Slot) (x3 : Int32), I n x3 → lv_has ls 5 [(0, .ref (a_f 0)), (1, .ref (a_t 0)), (2, .int x2), (3, .int x3)] → va_P D vwCl (sh_X5 cA a_f f_count f_heads f_lengths f_rows f_slots ++ sh_X4 cA a_t t_head t_lengths t_rows) H → va_D A (sh_X5 cA a_f f_count f_heads f_lengths f_rows f_slots ++ sh_X4 cA a_t t_head t_lengths t_rows) → va_S A s.heap H locs → W p l e rm_X5_freeSlot s m args below meth c H locs 0 0 (MQ below (q_X5_freeSlot D cA A a_f a_t f_count f_heads f_lengths f_rows f_slots t_head t_lengths t_rows post) args s 0 0 A) (F0 m 7 ls []) := by
    intro n
    induction n using Nat.strongRecOn with
    | _ n ih =>
      intro H locs ls x3 hI hl hP hD hS
      exact b_X5_freeSlot_7 C hA hK (fun H locs ls x3 hl hP hD hS hw => by obtain ⟨n', hn, hI⟩ := hw; exact ih n' hn H locs ls x3 hI hl hP hD hS) hl hP hD hS (hstep n x3 hI)
  exact key n H locs ls x3 hI hl hP hD hS
set_option maxHeartbeats 4000000 in
set_option maxRecDepth 100000 in
theorem k_X5_freeSlot_0 {p : Program} {l : Launch} {e : Env} {s : State} {m : MethodId} {args : Array Value} {below : List Frame} {meth : Method} {c : Code} {D : va_G} {cA : Nat → ClassId} {A : Nat → Prop} {a_f : Nat → Nat} {a_t : Nat → Nat} (C : cxm RX5 cX5_freeSlot 5 (some .int) wsX5_freeSlot p s m args meth c) (hA : ∀ q, s.heap.size ≤ q → A q) (hK : va_K D vwCl (tyL cA) s) {f_count : Int32} {f_heads : (Nat → Int64)} {f_lengths : (Nat → Int64)} {f_rows : (Nat → Int64)} {f_slots : (Nat → Int32)} {t_head : Int64} {t_lengths : Int64} {t_rows : (Nat → Int64)} {post : Int32 → Prop} {H : Heap} {locs : List Loc} {ls : Array Slot} (hl : lv_has ls 5 [(0, .ref (a_f 0)), (1, .ref (a_t 0))]) (hP : va_P D vwCl (sh_X5 cA a_f f_count f_heads f_lengths f_rows f_slots ++ sh_X4 cA a_t t_head t_lengths t_rows) H) (hD : va_D A (sh_X5 cA a_f f_count f_heads f_lengths f_rows f_slots ++ sh_X4 cA a_t t_head t_lengths t_rows)) (hS : va_S A s.heap H locs) (hw : wp_X5_freeSlot_0 f_heads f_lengths f_rows f_slots t_head t_lengths t_rows post) : W p l e rm_X5_freeSlot s m args below meth c H locs 0 0 (MQ below (q_X5_freeSlot D cA A a_f a_t f_count f_heads f_lengths f_rows f_slots t_head t_lengths t_rows post) args s 0 0 A) (F0 m 0 ls []) := by
  obtain ⟨hx, hb, hr, hts, hown, hlocks, hml⟩ := id C
  unfold wp_X5_freeSlot_0 at hw
  refine lv_aload_n hx hb dX5_freeSlot_0 rfl (lv_at hl 1 rfl) ?_
  refine cV_i (As := []) (rest := []) (wr := [((a_f 0), .inr (5, [.int f_count, .ref (a_f 1), .ref (a_f 2), .ref (a_f 3), .ref (a_f 4)])), ((a_f 1), .inl (cA 1, 600, .inr (.inl f_heads))), ((a_f 2), .inl (cA 1, 600, .inr (.inl f_lengths))), ((a_f 3), .inl (cA 1, 4800, .inr (.inl f_rows))), ((a_f 4), .inl (cA 0, 1024, .inl f_slots))]) (w2 := (fun (u : Unit) => sh_X5 cA a_f f_count f_heads f_lengths f_rows f_slots ++ sh_X4 cA a_t t_head t_lengths t_rows)) ⟨hx, hb, hml, hown, hts⟩ (c_X4_hash l D cA a_t H.size t_head t_lengths t_rows _ hw) (cwV 0 hts gX5_freeSlot_X4_hash rfl rfl rfl (by decide +kernel) ⟨(Nat.le_of_ble_eq_true rfl), (Nat.le_of_ble_eq_true rfl)⟩) hK hP hD hS hA [5, 6] [0, 1, 2, 3, 4] [0, 1, 2, 3, 4, 5, 6] rfl rfl rfl rfl (by decide) rfl (fun _ => rfl) rfl rfl rfl hl.1 rfl (Nat.le_of_ble_eq_true rfl) dX5_freeSlot_1 ⟨Nat.le_refl _, Nat.le_refl _⟩ (fun r1 u H locs hw hP hD hS => ?_)
  try dsimp only at hw
  have hP : va_P D vwCl (sh_X5 cA a_f f_count f_heads f_lengths f_rows f_slots ++ sh_X4 cA a_t t_head t_lengths t_rows) H := hP
  have hD : va_D A (sh_X5 cA a_f f_count f_heads f_lengths f_rows f_slots ++ sh_X4 cA a_t t_head t_lengths t_rows) := hD
  refine lv_istore_n (lv' := [(2, .int r1), (0, .ref (a_f 0)), (1, .ref (a_t 0))]) hx hb dX5_freeSlot_4 rfl hl (by decide) rfl (fun ls hl => ?_)
  refine lv_iconst (v := 0) hx hb dX5_freeSlot_5 (by decide) ?_
  refine lv_istore_n (lv' := [(3, .int 0), (2, .int r1), (0, .ref (a_f 0)), (1, .ref (a_t 0))]) hx hb dX5_freeSlot_6 rfl hl (by decide) rfl (fun ls hl => ?_)
  exact k_X5_freeSlot_7 C hA hK (lv_sub hl [2, 3, 1, 0] rfl) hP hD hS hw
set_option maxHeartbeats 4000000 in
set_option maxRecDepth 100000 in
theorem c_X5_freeSlot (l : Launch) (D : va_G) (cA : Nat → ClassId) (a_f : Nat → Nat) (a_t : Nat → Nat) (sz : Nat) (f_count : Int32) (f_heads : (Nat → Int64)) (f_lengths : (Nat → Int64)) (f_rows : (Nat → Int64)) (f_slots : (Nat → Int32)) (t_head : Int64) (t_lengths : Int64) (t_rows : (Nat → Int64)) (post : Int32 → Prop) (hw : wp_X5_freeSlot f_heads f_lengths f_rows f_slots t_head t_lengths t_rows post) : Met l yX5_freeSlot wsX5_freeSlot rm_X5_freeSlot (cPre D cA sz [.ref (a_f 0), .ref (a_t 0)] (sh_X5 cA a_f f_count f_heads f_lengths f_rows f_slots ++ sh_X4 cA a_t t_head t_lengths t_rows)) (q_X5_freeSlot D cA (va_A (sh_X5 cA a_f f_count f_heads f_lengths f_rows f_slots ++ sh_X4 cA a_t t_head t_lengths t_rows) sz) a_f a_t f_count f_heads f_lengths f_rows f_slots t_head t_lengths t_rows post) 0 0 (va_A (sh_X5 cA a_f f_count f_heads f_lengths f_rows f_slots ++ sh_X4 cA a_t t_head t_lengths t_rows) sz) := by
  refine Met.ofW (cc := cX5_freeSlot) (maxL := 5) (ret := (some .int)) (by decide) rfl ?_
  intro p e s m args below meth c s₁ B hml hv
  obtain ⟨rfl, hsz, hP, hK, hD0⟩ := hv
  have hown : s.vm.findClass RX5 = some m.cls := findClass_of_methodNamed B.named
  subst hsz
  have hD := hD0.self (sz := s.heap.size)
  have hl := lv_entry ([.ref (a_f 0), .ref (a_t 0)]) (n := 5) (Nat.le_of_ble_eq_true rfl)
  rw [lg_entry_eq]
  exact k_X5_freeSlot_0 ⟨B.exec, B.bytes, B.returns, atoms_spec (ws := wsX5_freeSlot) B.pre, hown, B.notSynchronized, hml⟩ (fun q h => Or.inr h) hK hl hP hD va_S.rf hw
/-! X5_add: add(LOrderTests$State;I)V -/
theorem fi_X5_add_X5 : ∀ w ∈ wsX50, w ∈ wsX5_add := by decide +kernel
theorem fl_X5_add_1 : ((.fieldLink RX5 25 "OrderTests$States" "count" "I") : Cond) ∈ wsX5_add := by decide +kernel
theorem fl_X5_add_2 : ((.fieldLink RX5 9 "OrderTests$States" "heads" "[J") : Cond) ∈ wsX5_add := by decide +kernel
theorem fi_X5_add_X4 : ∀ w ∈ wsX40, w ∈ wsX5_add := by decide +kernel
theorem fl_X5_add_4 : ((.fieldLink RX5 45 "OrderTests$State" "head" "J") : Cond) ∈ wsX5_add := by decide +kernel
theorem fl_X5_add_5 : ((.fieldLink RX5 15 "OrderTests$States" "lengths" "[J") : Cond) ∈ wsX5_add := by decide +kernel
theorem fl_X5_add_6 : ((.fieldLink RX5 49 "OrderTests$State" "lengths" "J") : Cond) ∈ wsX5_add := by decide +kernel
theorem fl_X5_add_7 : ((.fieldLink RX5 51 "OrderTests$State" "rows" "[J") : Cond) ∈ wsX5_add := by decide +kernel
theorem fl_X5_add_8 : ((.fieldLink RX5 18 "OrderTests$States" "rows" "[J") : Cond) ∈ wsX5_add := by decide +kernel
theorem fl_X5_add_9 : ((.methodLink RX5 52 arraycopyName) : Cond) ∈ wsX5_add := by decide +kernel
theorem fl_X5_add_10 : ((.native arraycopyName) : Cond) ∈ wsX5_add := by decide +kernel
theorem fl_X5_add_11 : ((.static arraycopyName) : Cond) ∈ wsX5_add := by decide +kernel
theorem fl_X5_add_12 : ((.initialized "java/lang/System") : Cond) ∈ wsX5_add := by decide +kernel
theorem fl_X5_add_13 : ((.fieldLink RX5 21 "OrderTests$States" "slots" "[I") : Cond) ∈ wsX5_add := by decide +kernel
abbrev rm_X5_add : Room := { frames := 1, cells := 0, slots := 0, locals := 26 }
abbrev q_X5_add (D : va_G) (cA : Nat → ClassId) (A : Nat → Prop) (a_f : Nat → Nat) (a_t : Nat → Nat) (t_head : Int64) (t_lengths : Int64) (t_rows : (Nat → Int64)) (post : Int32 → (Nat → Int64) → (Nat → Int64) → (Nat → Int64) → (Nat → Int32) → Prop) : Array Value → State → Outcome → State → Prop := va_Qv (fun (u : Int32 × (Nat → Int64) × (Nat → Int64) × (Nat → Int64) × (Nat → Int32)) => post u.1 u.2.1 u.2.2.1 u.2.2.2.1 u.2.2.2.2) (cOut D cA A (fun (u : Int32 × (Nat → Int64) × (Nat → Int64) × (Nat → Int64) × (Nat → Int32)) => sh_X5 cA a_f u.1 u.2.1 u.2.2.1 u.2.2.2.1 u.2.2.2.2 ++ sh_X4 cA a_t t_head t_lengths t_rows)) A
set_option maxHeartbeats 4000000 in
set_option maxRecDepth 100000 in
theorem k_X5_add_0 {p : Program} {l : Launch} {e : Env} {s : State} {m : MethodId} {args : Array Value} {below : List Frame} {meth : Method} {c : Code} {D : va_G} {cA : Nat → ClassId} {A : Nat → Prop} {a_f : Nat → Nat} {a_t : Nat → Nat} (C : cxm RX5 cX5_add 3 none wsX5_add p s m args meth c) (hA : ∀ q, s.heap.size ≤ q → A q) (hK : va_K D vwCl (tyL cA) s) {t_head : Int64} {t_lengths : Int64} {t_rows : (Nat → Int64)} {post : Int32 → (Nat → Int64) → (Nat → Int64) → (Nat → Int64) → (Nat → Int32) → Prop} {x2 : Int32} {f_count : Int32} {f_heads : (Nat → Int64)} {f_lengths : (Nat → Int64)} {f_rows : (Nat → Int64)} {f_slots : (Nat → Int32)} {H : Heap} {locs : List Loc} {ls : Array Slot} (hl : lv_has ls 3 [(0, .ref (a_f 0)), (1, .ref (a_t 0)), (2, .int x2)]) (hP : va_P D vwCl (sh_X5 cA a_f f_count f_heads f_lengths f_rows f_slots ++ sh_X4 cA a_t t_head t_lengths t_rows) H) (hD : va_D A (sh_X5 cA a_f f_count f_heads f_lengths f_rows f_slots ++ sh_X4 cA a_t t_head t_lengths t_rows)) (hS : va_S A s.heap H locs) (hw : wp_X5_add_0 t_head t_lengths t_rows post x2 f_count f_heads f_lengths f_rows f_slots) : W p l e rm_X5_add s m args below meth c H locs 0 0 (MQ below (q_X5_add D cA A a_f a_t t_head t_lengths t_rows post) args s 0 0 A) (F0 m 0 ls []) := by
  obtain ⟨hx, hb, hr, hts, hown, hlocks, hml⟩ := id C
  unfold wp_X5_add_0 at hw
  refine lv_aload_n hx hb dX5_add_0 rfl (lv_at hl 0 rfl) ?_
  refine va_get (D := D) (ci := 5) (v := .int f_count) (C := RX5) (T := TX5) (N := 5) hx hb hts fi_X5_add_X5 hown hK hP 0 rfl rfl 0 (by decide) (hts _ fl_X5_add_1) (fun _ h9 => h9) rfl dX5_add_1 ?_
  refine lv_sipush (v := 600) hx hb dX5_add_4 (by decide) ?_
  refine lv_icmp_lt (tgt := 11) hx hb dX5_add_7 (by decide) (fun hc => ?_) (fun hc => ?_)
  · have hw := hw.1 hc
    refine lv_aload_n hx hb dX5_add_11 rfl (lv_at hl 0 rfl) ?_
    refine va_get (D := D) (ci := 5) (v := .ref (a_f 1)) (C := RX5) (T := TX5) (N := 5) hx hb hts fi_X5_add_X5 hown hK hP 0 rfl rfl 1 (by decide) (hts _ fl_X5_add_2) (fun _ h9 => h9) rfl dX5_add_12 ?_
    refine lv_aload_n hx hb dX5_add_15 rfl (lv_at hl 0 rfl) ?_
    refine va_get (D := D) (ci := 5) (v := .int f_count) (C := RX5) (T := TX5) (N := 5) hx hb hts fi_X5_add_X5 hown hK hP 0 rfl rfl 0 (by decide) (hts _ fl_X5_add_1) (fun _ h9 => h9) rfl dX5_add_16 ?_
    refine lv_aload_n hx hb dX5_add_19 rfl (lv_at hl 1 rfl) ?_
    refine va_get (D := D) (ci := 4) (v := .long t_head) (C := RX4) (T := TX4) (N := 3) hx hb hts fi_X5_add_X4 hown hK hP 5 rfl rfl 0 (by decide) (hts _ fl_X5_add_4) (fun _ h9 => h9) rfl dX5_add_20 ?_
    obtain ⟨hi1, hw⟩ := hw
    refine va_last hx hb hK hP hD hS 1 1 rfl rfl hi1 dX5_add_23 (fun H locs hP hD hS => ?_)
    have hP : va_P D vwCl (sh_X5 cA a_f f_count (vp_updL f_heads f_count.toNatClampNeg t_head) f_lengths f_rows f_slots ++ sh_X4 cA a_t t_head t_lengths t_rows) H := hP
    have hD : va_D A (sh_X5 cA a_f f_count (vp_updL f_heads f_count.toNatClampNeg t_head) f_lengths f_rows f_slots ++ sh_X4 cA a_t t_head t_lengths t_rows) := hD
    refine lv_aload_n hx hb dX5_add_24 rfl (lv_at hl 0 rfl) ?_
    refine va_get (D := D) (ci := 5) (v := .ref (a_f 2)) (C := RX5) (T := TX5) (N := 5) hx hb hts fi_X5_add_X5 hown hK hP 0 rfl rfl 2 (by decide) (hts _ fl_X5_add_5) (fun _ h9 => h9) rfl dX5_add_25 ?_
    refine lv_aload_n hx hb dX5_add_28 rfl (lv_at hl 0 rfl) ?_
    refine va_get (D := D) (ci := 5) (v := .int f_count) (C := RX5) (T := TX5) (N := 5) hx hb hts fi_X5_add_X5 hown hK hP 0 rfl rfl 0 (by decide) (hts _ fl_X5_add_1) (fun _ h9 => h9) rfl dX5_add_29 ?_
    refine lv_aload_n hx hb dX5_add_32 rfl (lv_at hl 1 rfl) ?_
    refine va_get (D := D) (ci := 4) (v := .long t_lengths) (C := RX4) (T := TX4) (N := 3) hx hb hts fi_X5_add_X4 hown hK hP 5 rfl rfl 1 (by decide) (hts _ fl_X5_add_6) (fun _ h9 => h9) rfl dX5_add_33 ?_
    obtain ⟨hi2, hw⟩ := hw
    refine va_last hx hb hK hP hD hS 2 1 rfl rfl hi2 dX5_add_36 (fun H locs hP hD hS => ?_)
    have hP : va_P D vwCl (sh_X5 cA a_f f_count (vp_updL f_heads f_count.toNatClampNeg t_head) (vp_updL f_lengths f_count.toNatClampNeg t_lengths) f_rows f_slots ++ sh_X4 cA a_t t_head t_lengths t_rows) H := hP
    have hD : va_D A (sh_X5 cA a_f f_count (vp_updL f_heads f_count.toNatClampNeg t_head) (vp_updL f_lengths f_count.toNatClampNeg t_lengths) f_rows f_slots ++ sh_X4 cA a_t t_head t_lengths t_rows) := hD
    refine lv_aload_n hx hb dX5_add_37 rfl (lv_at hl 1 rfl) ?_
    refine va_get (D := D) (ci := 4) (v := .ref (a_t 1)) (C := RX4) (T := TX4) (N := 3) hx hb hts fi_X5_add_X4 hown hK hP 5 rfl rfl 2 (by decide) (hts _ fl_X5_add_7) (fun _ h9 => h9) rfl dX5_add_38 ?_
    refine lv_iconst (v := 0) hx hb dX5_add_41 (by decide) ?_
    refine lv_aload_n hx hb dX5_add_42 rfl (lv_at hl 0 rfl) ?_
    refine va_get (D := D) (ci := 5) (v := .ref (a_f 3)) (C := RX5) (T := TX5) (N := 5) hx hb hts fi_X5_add_X5 hown hK hP 0 rfl rfl 3 (by decide) (hts _ fl_X5_add_8) (fun _ h9 => h9) rfl dX5_add_43 ?_
    refine lv_aload_n hx hb dX5_add_46 rfl (lv_at hl 0 rfl) ?_
    refine va_get (D := D) (ci := 5) (v := .int f_count) (C := RX5) (T := TX5) (N := 5) hx hb hts fi_X5_add_X5 hown hK hP 0 rfl rfl 0 (by decide) (hts _ fl_X5_add_1) (fun _ h9 => h9) rfl dX5_add_47 ?_
    refine lv_bipush (v := 8) hx hb dX5_add_50 (by decide) ?_
    refine lv_imul hx hb dX5_add_52 ?_
    refine lv_bipush (v := 8) hx hb dX5_add_53 (by decide) ?_
    obtain ⟨ha3, ha4, ha5, ha6, ha7, hw⟩ := hw
    refine va_copyl hx hb (by rw [hml]; exact hl.1.symm) hown (hts _ fl_X5_add_9) (hts _ fl_X5_add_10) (hts _ fl_X5_add_11) (hts _ fl_X5_add_12) hK hP hD hS 6 3 1 1 rfl rfl rfl rfl rfl ha3 ha4 ha5 ha6 ha7 (fun _ _ => rfl) (Nat.le_of_ble_eq_true rfl) (Nat.le_of_ble_eq_true rfl) dX5_add_55 (fun H locs hP hD hS => ?_)
    have hP : va_P D vwCl (sh_X5 cA a_f f_count (vp_updL f_heads f_count.toNatClampNeg t_head) (vp_updL f_lengths f_count.toNatClampNeg t_lengths) (va_cpy t_rows f_rows (0 : Int32).toNatClampNeg (f_count * 8).toNatClampNeg (8 : Int32).toNatClampNeg) f_slots ++ sh_X4 cA a_t t_head t_lengths t_rows) H := hP
    have hD : va_D A (sh_X5 cA a_f f_count (vp_updL f_heads f_count.toNatClampNeg t_head) (vp_updL f_lengths f_count.toNatClampNeg t_lengths) (va_cpy t_rows f_rows (0 : Int32).toNatClampNeg (f_count * 8).toNatClampNeg (8 : Int32).toNatClampNeg) f_slots ++ sh_X4 cA a_t t_head t_lengths t_rows) := hD
    refine lv_aload_n hx hb dX5_add_58 rfl (lv_at hl 0 rfl) ?_
    refine lv_dup hx hb dX5_add_59 rfl ?_
    refine va_get (D := D) (ci := 5) (v := .int f_count) (C := RX5) (T := TX5) (N := 5) hx hb hts fi_X5_add_X5 hown hK hP 0 rfl rfl 0 (by decide) (hts _ fl_X5_add_1) (fun _ h9 => h9) rfl dX5_add_60 ?_
    refine lv_iconst (v := 1) hx hb dX5_add_63 (by decide) ?_
    refine lv_iadd hx hb dX5_add_64 ?_
    refine va_put (D := D) (ci := 5) (v := .int (f_count + 1)) (ty := .int) (C := RX5) (T := TX5) (N := 5) hx hb hts fi_X5_add_X5 tyX5 tyX5_ok nmX5 hown hK hP hD hS 0 rfl rfl 0 (by decide) (hts _ fl_X5_add_1) (fun _ h9 => h9) rfl (by decide +kernel) rfl rfl (Nat.le_of_ble_eq_true rfl) dX5_add_65 (fun H locs hP hD hS => ?_)
    have hP : va_P D vwCl (sh_X5 cA a_f (f_count + 1) (vp_updL f_heads f_count.toNatClampNeg t_head) (vp_updL f_lengths f_count.toNatClampNeg t_lengths) (va_cpy t_rows f_rows (0 : Int32).toNatClampNeg (f_count * 8).toNatClampNeg (8 : Int32).toNatClampNeg) f_slots ++ sh_X4 cA a_t t_head t_lengths t_rows) H := hP
    have hD : va_D A (sh_X5 cA a_f (f_count + 1) (vp_updL f_heads f_count.toNatClampNeg t_head) (vp_updL f_lengths f_count.toNatClampNeg t_lengths) (va_cpy t_rows f_rows (0 : Int32).toNatClampNeg (f_count * 8).toNatClampNeg (8 : Int32).toNatClampNeg) f_slots ++ sh_X4 cA a_t t_head t_lengths t_rows) := hD
    refine lv_aload_n hx hb dX5_add_68 rfl (lv_at hl 0 rfl) ?_
    refine va_get (D := D) (ci := 5) (v := .ref (a_f 4)) (C := RX5) (T := TX5) (N := 5) hx hb hts fi_X5_add_X5 hown hK hP 0 rfl rfl 4 (by decide) (hts _ fl_X5_add_13) (fun _ h9 => h9) rfl dX5_add_69 ?_
    refine lv_iload_n hx hb dX5_add_72 rfl (lv_at hl 2 rfl) ?_
    refine lv_aload_n hx hb dX5_add_73 rfl (lv_at hl 0 rfl) ?_
    refine va_get (D := D) (ci := 5) (v := .int (f_count + 1)) (C := RX5) (T := TX5) (N := 5) hx hb hts fi_X5_add_X5 hown hK hP 0 rfl rfl 0 (by decide) (hts _ fl_X5_add_1) (fun _ h9 => h9) rfl dX5_add_74 ?_
    obtain ⟨hi8, hw⟩ := hw
    refine va_iast hx hb hK hP hD hS 4 0 rfl rfl hi8 dX5_add_77 (fun H locs hP hD hS => ?_)
    have hP : va_P D vwCl (sh_X5 cA a_f (f_count + 1) (vp_updL f_heads f_count.toNatClampNeg t_head) (vp_updL f_lengths f_count.toNatClampNeg t_lengths) (va_cpy t_rows f_rows (0 : Int32).toNatClampNeg (f_count * 8).toNatClampNeg (8 : Int32).toNatClampNeg) (upd f_slots x2.toNatClampNeg (f_count + 1)) ++ sh_X4 cA a_t t_head t_lengths t_rows) H := hP
    have hD : va_D A (sh_X5 cA a_f (f_count + 1) (vp_updL f_heads f_count.toNatClampNeg t_head) (vp_updL f_lengths f_count.toNatClampNeg t_lengths) (va_cpy t_rows f_rows (0 : Int32).toNatClampNeg (f_count * 8).toNatClampNeg (8 : Int32).toNatClampNeg) (upd f_slots x2.toNatClampNeg (f_count + 1)) ++ sh_X4 cA a_t t_head t_lengths t_rows) := hD
    exact W.vret hx hb hr (fun t ht hW => ⟨⟨((f_count + 1), (vp_updL f_heads f_count.toNatClampNeg t_head), (vp_updL f_lengths f_count.toNatClampNeg t_lengths), (va_cpy t_rows f_rows (0 : Int32).toNatClampNeg (f_count * 8).toNatClampNeg (8 : Int32).toNatClampNeg), (upd f_slots x2.toNatClampNeg (f_count + 1))), rfl, hw, by rw [ht]; exact hP, va_K.moved hW.alike hK, hD⟩, hS.F ht⟩) hS.2.2 dX5_add_78
  · have hw := hw.2 hc
    exact W.vret hx hb hr (fun t ht hW => ⟨⟨(f_count, f_heads, f_lengths, f_rows, f_slots), rfl, hw, by rw [ht]; exact hP, va_K.moved hW.alike hK, hD⟩, hS.F ht⟩) hS.2.2 dX5_add_10
set_option maxHeartbeats 4000000 in
set_option maxRecDepth 100000 in
theorem c_X5_add (l : Launch) (D : va_G) (cA : Nat → ClassId) (a_f : Nat → Nat) (a_t : Nat → Nat) (sz : Nat) (f_count : Int32) (f_heads : (Nat → Int64)) (f_lengths : (Nat → Int64)) (f_rows : (Nat → Int64)) (f_slots : (Nat → Int32)) (t_head : Int64) (t_lengths : Int64) (t_rows : (Nat → Int64)) (x2 : Int32) (post : Int32 → (Nat → Int64) → (Nat → Int64) → (Nat → Int64) → (Nat → Int32) → Prop) (hw : wp_X5_add f_count f_heads f_lengths f_rows f_slots t_head t_lengths t_rows x2 post) : Met l yX5_add wsX5_add rm_X5_add (cPre D cA sz [.ref (a_f 0), .ref (a_t 0), .int x2] (sh_X5 cA a_f f_count f_heads f_lengths f_rows f_slots ++ sh_X4 cA a_t t_head t_lengths t_rows)) (q_X5_add D cA (va_A (sh_X5 cA a_f f_count f_heads f_lengths f_rows f_slots ++ sh_X4 cA a_t t_head t_lengths t_rows) sz) a_f a_t t_head t_lengths t_rows post) 0 0 (va_A (sh_X5 cA a_f f_count f_heads f_lengths f_rows f_slots ++ sh_X4 cA a_t t_head t_lengths t_rows) sz) := by
  refine Met.ofW (cc := cX5_add) (maxL := 3) (ret := none) (by decide) rfl ?_
  intro p e s m args below meth c s₁ B hml hv
  obtain ⟨rfl, hsz, hP, hK, hD0⟩ := hv
  have hown : s.vm.findClass RX5 = some m.cls := findClass_of_methodNamed B.named
  subst hsz
  have hD := hD0.self (sz := s.heap.size)
  have hl := lv_entry ([.ref (a_f 0), .ref (a_t 0), .int x2]) (n := 3) (Nat.le_of_ble_eq_true rfl)
  rw [lg_entry_eq]
  exact k_X5_add_0 ⟨B.exec, B.bytes, B.returns, atoms_spec (ws := wsX5_add) B.pre, hown, B.notSynchronized, hml⟩ (fun q h => Or.inr h) hK hl hP hD va_S.rf hw
/-! X5_load: load(ILOrderTests$State;)V -/
theorem fi_X5_load_X5 : ∀ w ∈ wsX50, w ∈ wsX5_load := by decide +kernel
theorem fl_X5_load_1 : ((.fieldLink RX5 9 "OrderTests$States" "heads" "[J") : Cond) ∈ wsX5_load := by decide +kernel
theorem fi_X5_load_X4 : ∀ w ∈ wsX40, w ∈ wsX5_load := by decide +kernel
theorem fl_X5_load_3 : ((.fieldLink RX5 45 "OrderTests$State" "head" "J") : Cond) ∈ wsX5_load := by decide +kernel
theorem fl_X5_load_4 : ((.fieldLink RX5 15 "OrderTests$States" "lengths" "[J") : Cond) ∈ wsX5_load := by decide +kernel
theorem fl_X5_load_5 : ((.fieldLink RX5 49 "OrderTests$State" "lengths" "J") : Cond) ∈ wsX5_load := by decide +kernel
theorem fl_X5_load_6 : ((.fieldLink RX5 18 "OrderTests$States" "rows" "[J") : Cond) ∈ wsX5_load := by decide +kernel
theorem fl_X5_load_7 : ((.fieldLink RX5 51 "OrderTests$State" "rows" "[J") : Cond) ∈ wsX5_load := by decide +kernel
theorem fl_X5_load_8 : ((.methodLink RX5 52 arraycopyName) : Cond) ∈ wsX5_load := by decide +kernel
theorem fl_X5_load_9 : ((.native arraycopyName) : Cond) ∈ wsX5_load := by decide +kernel
theorem fl_X5_load_10 : ((.static arraycopyName) : Cond) ∈ wsX5_load := by decide +kernel
theorem fl_X5_load_11 : ((.initialized "java/lang/System") : Cond) ∈ wsX5_load := by decide +kernel
abbrev rm_X5_load : Room := { frames := 1, cells := 0, slots := 0, locals := 26 }
abbrev q_X5_load (D : va_G) (cA : Nat → ClassId) (A : Nat → Prop) (a_f : Nat → Nat) (a_t : Nat → Nat) (f_count : Int32) (f_heads : (Nat → Int64)) (f_lengths : (Nat → Int64)) (f_rows : (Nat → Int64)) (f_slots : (Nat → Int32)) (post : Int64 → Int64 → (Nat → Int64) → Prop) : Array Value → State → Outcome → State → Prop := va_Qv (fun (u : Int64 × Int64 × (Nat → Int64)) => post u.1 u.2.1 u.2.2) (cOut D cA A (fun (u : Int64 × Int64 × (Nat → Int64)) => sh_X5 cA a_f f_count f_heads f_lengths f_rows f_slots ++ sh_X4 cA a_t u.1 u.2.1 u.2.2)) A
set_option maxHeartbeats 4000000 in
set_option maxRecDepth 100000 in
theorem k_X5_load_0 {p : Program} {l : Launch} {e : Env} {s : State} {m : MethodId} {args : Array Value} {below : List Frame} {meth : Method} {c : Code} {D : va_G} {cA : Nat → ClassId} {A : Nat → Prop} {a_f : Nat → Nat} {a_t : Nat → Nat} (C : cxm RX5 cX5_load 3 none wsX5_load p s m args meth c) (hA : ∀ q, s.heap.size ≤ q → A q) (hK : va_K D vwCl (tyL cA) s) {f_count : Int32} {f_heads : (Nat → Int64)} {f_lengths : (Nat → Int64)} {f_rows : (Nat → Int64)} {f_slots : (Nat → Int32)} {post : Int64 → Int64 → (Nat → Int64) → Prop} {x1 : Int32} {t_head : Int64} {t_lengths : Int64} {t_rows : (Nat → Int64)} {H : Heap} {locs : List Loc} {ls : Array Slot} (hl : lv_has ls 3 [(0, .ref (a_f 0)), (1, .int x1), (2, .ref (a_t 0))]) (hP : va_P D vwCl (sh_X5 cA a_f f_count f_heads f_lengths f_rows f_slots ++ sh_X4 cA a_t t_head t_lengths t_rows) H) (hD : va_D A (sh_X5 cA a_f f_count f_heads f_lengths f_rows f_slots ++ sh_X4 cA a_t t_head t_lengths t_rows)) (hS : va_S A s.heap H locs) (hw : wp_X5_load_0 f_heads f_lengths f_rows post x1 t_head t_lengths t_rows) : W p l e rm_X5_load s m args below meth c H locs 0 0 (MQ below (q_X5_load D cA A a_f a_t f_count f_heads f_lengths f_rows f_slots post) args s 0 0 A) (F0 m 0 ls []) := by
  obtain ⟨hx, hb, hr, hts, hown, hlocks, hml⟩ := id C
  unfold wp_X5_load_0 at hw
  refine lv_aload_n hx hb dX5_load_0 rfl (lv_at hl 2 rfl) ?_
  refine lv_aload_n hx hb dX5_load_1 rfl (lv_at hl 0 rfl) ?_
  refine va_get (D := D) (ci := 5) (v := .ref (a_f 1)) (C := RX5) (T := TX5) (N := 5) hx hb hts fi_X5_load_X5 hown hK hP 0 rfl rfl 1 (by decide) (hts _ fl_X5_load_1) (fun _ h9 => h9) rfl dX5_load_2 ?_
  refine lv_iload_n hx hb dX5_load_5 rfl (lv_at hl 1 rfl) ?_
  obtain ⟨hi1, hw⟩ := hw
  refine va_lald hx hb hK hP 1 1 rfl rfl hi1 dX5_load_6 ?_
  refine va_put (D := D) (ci := 4) (v := .long (f_heads x1.toNatClampNeg)) (ty := .long) (C := RX4) (T := TX4) (N := 3) hx hb hts fi_X5_load_X4 tyX4 tyX4_ok nmX4 hown hK hP hD hS 5 rfl rfl 0 (by decide) (hts _ fl_X5_load_3) (fun _ h9 => h9) rfl (by decide +kernel) rfl rfl (Nat.le_of_ble_eq_true rfl) dX5_load_7 (fun H locs hP hD hS => ?_)
  have hP : va_P D vwCl (sh_X5 cA a_f f_count f_heads f_lengths f_rows f_slots ++ sh_X4 cA a_t (f_heads x1.toNatClampNeg) t_lengths t_rows) H := hP
  have hD : va_D A (sh_X5 cA a_f f_count f_heads f_lengths f_rows f_slots ++ sh_X4 cA a_t (f_heads x1.toNatClampNeg) t_lengths t_rows) := hD
  refine lv_aload_n hx hb dX5_load_10 rfl (lv_at hl 2 rfl) ?_
  refine lv_aload_n hx hb dX5_load_11 rfl (lv_at hl 0 rfl) ?_
  refine va_get (D := D) (ci := 5) (v := .ref (a_f 2)) (C := RX5) (T := TX5) (N := 5) hx hb hts fi_X5_load_X5 hown hK hP 0 rfl rfl 2 (by decide) (hts _ fl_X5_load_4) (fun _ h9 => h9) rfl dX5_load_12 ?_
  refine lv_iload_n hx hb dX5_load_15 rfl (lv_at hl 1 rfl) ?_
  obtain ⟨hi2, hw⟩ := hw
  refine va_lald hx hb hK hP 2 1 rfl rfl hi2 dX5_load_16 ?_
  refine va_put (D := D) (ci := 4) (v := .long (f_lengths x1.toNatClampNeg)) (ty := .long) (C := RX4) (T := TX4) (N := 3) hx hb hts fi_X5_load_X4 tyX4 tyX4_ok nmX4 hown hK hP hD hS 5 rfl rfl 1 (by decide) (hts _ fl_X5_load_5) (fun _ h9 => h9) rfl (by decide +kernel) rfl rfl (Nat.le_of_ble_eq_true rfl) dX5_load_17 (fun H locs hP hD hS => ?_)
  have hP : va_P D vwCl (sh_X5 cA a_f f_count f_heads f_lengths f_rows f_slots ++ sh_X4 cA a_t (f_heads x1.toNatClampNeg) (f_lengths x1.toNatClampNeg) t_rows) H := hP
  have hD : va_D A (sh_X5 cA a_f f_count f_heads f_lengths f_rows f_slots ++ sh_X4 cA a_t (f_heads x1.toNatClampNeg) (f_lengths x1.toNatClampNeg) t_rows) := hD
  refine lv_aload_n hx hb dX5_load_20 rfl (lv_at hl 0 rfl) ?_
  refine va_get (D := D) (ci := 5) (v := .ref (a_f 3)) (C := RX5) (T := TX5) (N := 5) hx hb hts fi_X5_load_X5 hown hK hP 0 rfl rfl 3 (by decide) (hts _ fl_X5_load_6) (fun _ h9 => h9) rfl dX5_load_21 ?_
  refine lv_iload_n hx hb dX5_load_24 rfl (lv_at hl 1 rfl) ?_
  refine lv_bipush (v := 8) hx hb dX5_load_25 (by decide) ?_
  refine lv_imul hx hb dX5_load_27 ?_
  refine lv_aload_n hx hb dX5_load_28 rfl (lv_at hl 2 rfl) ?_
  refine va_get (D := D) (ci := 4) (v := .ref (a_t 1)) (C := RX4) (T := TX4) (N := 3) hx hb hts fi_X5_load_X4 hown hK hP 5 rfl rfl 2 (by decide) (hts _ fl_X5_load_7) (fun _ h9 => h9) rfl dX5_load_29 ?_
  refine lv_iconst (v := 0) hx hb dX5_load_32 (by decide) ?_
  refine lv_bipush (v := 8) hx hb dX5_load_33 (by decide) ?_
  obtain ⟨ha3, ha4, ha5, ha6, ha7, hw⟩ := hw
  refine va_copyl hx hb (by rw [hml]; exact hl.1.symm) hown (hts _ fl_X5_load_8) (hts _ fl_X5_load_9) (hts _ fl_X5_load_10) (hts _ fl_X5_load_11) hK hP hD hS 3 6 1 1 rfl rfl rfl rfl rfl ha3 ha4 ha5 ha6 ha7 (fun _ _ => rfl) (Nat.le_of_ble_eq_true rfl) (Nat.le_of_ble_eq_true rfl) dX5_load_35 (fun H locs hP hD hS => ?_)
  have hP : va_P D vwCl (sh_X5 cA a_f f_count f_heads f_lengths f_rows f_slots ++ sh_X4 cA a_t (f_heads x1.toNatClampNeg) (f_lengths x1.toNatClampNeg) (va_cpy f_rows t_rows (x1 * 8).toNatClampNeg (0 : Int32).toNatClampNeg (8 : Int32).toNatClampNeg)) H := hP
  have hD : va_D A (sh_X5 cA a_f f_count f_heads f_lengths f_rows f_slots ++ sh_X4 cA a_t (f_heads x1.toNatClampNeg) (f_lengths x1.toNatClampNeg) (va_cpy f_rows t_rows (x1 * 8).toNatClampNeg (0 : Int32).toNatClampNeg (8 : Int32).toNatClampNeg)) := hD
  exact W.vret hx hb hr (fun t ht hW => ⟨⟨((f_heads x1.toNatClampNeg), (f_lengths x1.toNatClampNeg), (va_cpy f_rows t_rows (x1 * 8).toNatClampNeg (0 : Int32).toNatClampNeg (8 : Int32).toNatClampNeg)), rfl, hw, by rw [ht]; exact hP, va_K.moved hW.alike hK, hD⟩, hS.F ht⟩) hS.2.2 dX5_load_38
set_option maxHeartbeats 4000000 in
set_option maxRecDepth 100000 in
theorem c_X5_load (l : Launch) (D : va_G) (cA : Nat → ClassId) (a_f : Nat → Nat) (a_t : Nat → Nat) (sz : Nat) (f_count : Int32) (f_heads : (Nat → Int64)) (f_lengths : (Nat → Int64)) (f_rows : (Nat → Int64)) (f_slots : (Nat → Int32)) (t_head : Int64) (t_lengths : Int64) (t_rows : (Nat → Int64)) (x1 : Int32) (post : Int64 → Int64 → (Nat → Int64) → Prop) (hw : wp_X5_load f_heads f_lengths f_rows t_head t_lengths t_rows x1 post) : Met l yX5_load wsX5_load rm_X5_load (cPre D cA sz [.ref (a_f 0), .int x1, .ref (a_t 0)] (sh_X5 cA a_f f_count f_heads f_lengths f_rows f_slots ++ sh_X4 cA a_t t_head t_lengths t_rows)) (q_X5_load D cA (va_A (sh_X5 cA a_f f_count f_heads f_lengths f_rows f_slots ++ sh_X4 cA a_t t_head t_lengths t_rows) sz) a_f a_t f_count f_heads f_lengths f_rows f_slots post) 0 0 (va_A (sh_X5 cA a_f f_count f_heads f_lengths f_rows f_slots ++ sh_X4 cA a_t t_head t_lengths t_rows) sz) := by
  refine Met.ofW (cc := cX5_load) (maxL := 3) (ret := none) (by decide) rfl ?_
  intro p e s m args below meth c s₁ B hml hv
  obtain ⟨rfl, hsz, hP, hK, hD0⟩ := hv
  have hown : s.vm.findClass RX5 = some m.cls := findClass_of_methodNamed B.named
  subst hsz
  have hD := hD0.self (sz := s.heap.size)
  have hl := lv_entry ([.ref (a_f 0), .int x1, .ref (a_t 0)]) (n := 3) (Nat.le_of_ble_eq_true rfl)
  rw [lg_entry_eq]
  exact k_X5_load_0 ⟨B.exec, B.bytes, B.returns, atoms_spec (ws := wsX5_load) B.pre, hown, B.notSynchronized, hml⟩ (fun q h => Or.inr h) hK hl hP hD va_S.rf hw
