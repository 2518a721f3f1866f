/-! the law's walk from its entry to its loop -/
abbrev z32 : Nat → Int32 := fun _ => (0 : Int32)
abbrev z64 : Nat → Int64 := fun _ => (0 : Int64)
abbrev set0 : Nat → Int32 := upd (upd (upd (upd (upd (upd (fun _ => (0 : Int32)) (0 : Int32).toNatClampNeg 0) (1 : Int32).toNatClampNeg 0) (2 : Int32).toNatClampNeg 0) (3 : Int32).toNatClampNeg 1) (4 : Int32).toNatClampNeg 0) (5 : Int32).toNatClampNeg 0
theorem set0_ok : ∀ i, i < 6 → set0 i = if i = 3 then 1 else 0 := by
  intro i hi
  rcases (show i = 0 ∨ i = 1 ∨ i = 2 ∨ i = 3 ∨ i = 4 ∨ i = 5 by omega) with e | e | e | e | e | e <;> subst e <;> rfl
abbrev w7 (cA : Nat → ClassId) (a_ot a_g a_r a_se a_f a_h a_n a_l a_t : Nat → Nat) : va_W := sh_X7 cA a_ot (a_g 0) (a_r 0) (a_se 0) (a_l 0) (a_t 0) ++ sh_X1 cA a_g 0 0 0 z32 z32 z32 z32 z32 z32 ++ sh_X2 cA a_r set0 z32 ++ sh_X3 cA a_se (a_g 0) (a_r 0) (a_f 0) (a_h 0) (a_n 0) (a_t 0) 0 0 0 ++ sh_X5 cA a_f 0 z64 z64 z64 z32 ++ sh_X4 cA a_h 0 0 z64 ++ sh_X4 cA a_n 0 0 z64 ++ sh_X0 cA a_l 0 0 0 0 0 0 z32 z32 z32 z32 ++ sh_X0 cA a_t 0 0 0 0 0 0 z32 z32 z32 z32
abbrev fs8 : List Value := [.int 0, .null, .int 0, .null, .null, .null, .int 0, .null, .null, .null, .null, .null, .int 0, .null, .null, .int 0, .int 0, .int 0, .int 0, .int 0, .int 0, .null, .null, .null, .null, .null, .null, .int 0, .int 0]
theorem st_c7 : Cond.classLink R_law 7 RX7 ∈ lw_tbl := by decide +kernel
theorem st_c8 : Cond.classLink R_law 10 RX8 ∈ lw_tbl := by decide +kernel
theorem st_i8 : Cond.initialized RX8 ∈ lw_tbl := by decide +kernel
theorem st_m7 : Cond.methodLink R_law 9 yX7_init ∈ lw_tbl := by decide +kernel
theorem st_m8 : Cond.methodLink R_law 12 yX8_init ∈ lw_tbl := by decide +kernel
theorem st_n7 : Cond.instanceMethod yX7_init ∈ lw_tbl := by decide +kernel
theorem st_n8 : Cond.instanceMethod yX8_init ∈ lw_tbl := by decide +kernel
theorem st_k1 : Cond.methodLinkNest RX7 9 yX1_init RX7 ∈ lw_tbl := by decide +kernel
theorem st_k2 : Cond.methodLinkNest RX7 18 yX2_init RX7 ∈ lw_tbl := by decide +kernel
theorem st_k3 : Cond.methodLinkNest RX7 25 yX0_init RX7 ∈ lw_tbl := by decide +kernel
theorem st_k4 : Cond.methodLinkNest RX3 11 yX5_init RX7 ∈ lw_tbl := by decide +kernel
theorem st_k5 : Cond.methodLinkNest RX3 20 yX4_init RX7 ∈ lw_tbl := by decide +kernel
theorem st_N {s : State} {args : Array Value} (hts : ∀ w ∈ lw_tbl, w.before args s = true) : nN7 s := ⟨⟨va_Nw.of rfl (hts _ st_k1), va_Nw.of rfl (hts _ st_k2), va_Nw.of rfl (hts _ st_k3)⟩, va_Nw.of rfl (hts _ st_k4), va_Nw.of rfl (hts _ st_k5)⟩
set_option maxHeartbeats 16000000 in
set_option maxRecDepth 100000 in
theorem st_loop {p : Program} {e : Env} {s : State} {m : MethodId} {below : List Frame} {meth : Method} {c : Code} {l : Launch} {b L : Nat} {xs : Nat → Int32} (hL : L ≤ 2048) (C : lw_At p s m meth c b L xs) {D : va_G} {cA : Nat → ClassId} (hK : va_K D vwCl (tyL cA) s) {a_ot a_g a_r a_se a_f a_h a_n a_l a_t a_m : Nat → Nat} {H : Heap} {locs : List Loc} {ls : Array Slot} (hl : lv_has ls 4 [(0, .ref b), (1, .ref (a_ot 0)), (2, .ref (a_m 0)), (3, .int 0)])
    (hP : va_P D vwCl (w7 cA a_ot a_g a_r a_se a_f a_h a_n a_l a_t ++ sh_X8 cA a_m 0 z32 0 z32 z32 z32 0 z32 z32 set0 z32 z32 0 z32 z32 0 0 0 0 0 0 z32 z32 z32 z32 z32 z32 0 0) H) (hD : va_D (fun q => s.heap.size ≤ q) (w7 cA a_ot a_g a_r a_se a_f a_h a_n a_l a_t ++ sh_X8 cA a_m 0 z32 0 z32 z32 z32 0 z32 z32 set0 z32 z32 0 z32 z32 0 0 0 0 0 0 z32 z32 z32 z32 z32 z32 0 0)) (hS : va_S (fun q => s.heap.size ≤ q) s.heap H locs) : W p l e room_1 s m #[Value.ref b] below meth c H locs 49 109519 (lw_Z below #[Value.ref b] s) (F0 m 18 ls []) := by
  obtain ⟨hz1, hz2⟩ := st_Z C.2.2.2.2.2.1 C.2.2.2.2.2.2.2.2.2
  refine k_L_law_18 C hK hz1 hz2 hl hP hD hS ?_
  exact t_law18 (c := c0) (o := none) hL ⟨c0_ok, trivial, c0_g, c0_r set0_ok (fun _ _ => rfl), c0_g, c0_r set0_ok (fun _ _ => rfl), ⟨rfl, rfl⟩, rfl⟩
set_option maxHeartbeats 16000000 in
set_option maxRecDepth 100000 in
theorem whole_start {p : Program} {e : Env} {s : State} {m : MethodId} {below : List Frame} {meth : Method} {c : Code} (l : Launch) {b L : Nat} {xs : Nat → Int32} (hL : L ≤ 2048) (C0 : lw_At p s m meth c b L xs) : W p l e room_1 s m #[Value.ref b] below meth c s.heap [] 0 0 (lw_Z below #[Value.ref b] s) (entryFrame m ([Value.ref b] : List Value).toArray 4) := by
  obtain ⟨hx, hb, hr, hml, hown, ht0, hX, hbl, hlocks, hgv⟩ := id C0
  have hts := fun w h => ht0 w (wsL_law_in w h)
  have hA : ∀ q : Nat, s.heap.size ≤ q → (fun q : Nat => s.heap.size ≤ q) q := fun _ h => h
  obtain ⟨D, cA, hK⟩ := st_K ht0
  have hN := st_N ht0
  have hS : va_S (fun q : Nat => s.heap.size ≤ q) s.heap s.heap [] := va_S.rf
  have hP : va_P D vwCl [] s.heap := fun k q h => by simp at h
  have hD : va_D (fun q : Nat => s.heap.size ≤ q) [] := ⟨fun i j p q h => by simp at h, fun k q h => by simp at h⟩
  have hl := lv_entry ([.ref b]) (n := 4) (Nat.le_of_ble_eq_true rfl)
  rw [lg_entry_eq]
  generalize (lg_sl ([.ref b]) ++ List.replicate (4 - (lg_sl ([.ref b])).length) Slot.unset).toArray = ls at hl ⊢
  have hl : lv_has ls 4 [(0, .ref b)] := hl
  refine va_new (ci := 6) (fs := [.null, .null, .null, .null, .null]) (C := RX7) (T := TX7) (N := 5) hx hb ht0 inX7 tyX7 tyX7_ok hown (ht0 _ st_c7) (ht0 _ st_w7) (ht0 _ st_i7) hK hP hD hS hA rfl (fun j hj => by rcases (show j = 0 ∨ j = 1 ∨ j = 2 ∨ j = 3 ∨ j = 4 by omega) with rfl | rfl | rfl | rfl | rfl <;> rfl) (Nat.le_of_ble_eq_true rfl) (Nat.le_of_ble_eq_true rfl) dL_law_0 (fun q1_ H hP hD hS => ?_)
  have hP : va_P D vwCl [(q1_, .inr (6, [.null, .null, .null, .null, .null]))] H := hP
  have hD : va_D (fun q : Nat => s.heap.size ≤ q) [(q1_, .inr (6, [.null, .null, .null, .null, .null]))] := hD
  refine W.widen (k := 1) (n := 5) (Nat.le_of_ble_eq_true rfl) (Nat.le_of_ble_eq_true rfl) ?_
  refine lv_dup hx hb dL_law_3 rfl ?_
  refine cI_v (b := q1_) (As := []) (rest := [.ref q1_]) (wr := []) ⟨hx, hb, hml, hown, hts⟩ (c_X7_init l D cA q1_ H.size) (cwI 0 hts gL_law_X7_init rfl rfl rfl (ht0 _ st_i7) (ht0 _ st_m7) (ht0 _ st_n7) rfl (by decide +kernel) ⟨(Nat.le_of_ble_eq_true rfl), (Nat.le_of_ble_eq_true rfl)⟩) hP hD hS hA [0] [] rfl rfl rfl rfl (by decide) (fun hPc hDc => cPreSN hN (fun u U h q => nN7.same h q) (fun U hW q => nN7.warm hW q) hK hPc hDc) rfl hl.1 rfl (Nat.le_of_ble_eq_true rfl) dL_law_4 ⟨(Nat.le_of_ble_eq_true rfl), (Nat.le_of_ble_eq_true rfl)⟩ (fun u H2 locs2 hw hP2 hD2 hS2 => ?_)
  obtain ⟨a_ot, a_g, a_r, a_se, a_f, a_h, a_n, a_l, a_t⟩ := u
  have hw : a_ot 0 = q1_ := hw
  subst hw
  have hP : va_P D vwCl (w7 cA a_ot a_g a_r a_se a_f a_h a_n a_l a_t) H2 := hP2
  have hD : va_D (fun q : Nat => s.heap.size ≤ q) (w7 cA a_ot a_g a_r a_se a_f a_h a_n a_l a_t) := hD2
  have hS := hS2
  clear hP2 hD2 hS2
  generalize H2 = H at hP hS ⊢
  generalize locs2 = locs at hS ⊢
  refine W.widen (k := 31) (n := 12195) (Nat.le_of_ble_eq_true rfl) (Nat.le_of_ble_eq_true rfl) ?_
  refine lv_astore_n (lv' := [(1, .ref (a_ot 0)), (0, .ref b)]) hx hb dL_law_7 rfl hl (by decide) rfl (fun ls hl => ?_)
  refine va_new (ci := 7) (fs := fs8) (C := RX8) (T := TX8) (N := 29) hx hb ht0 inX8 tyX8 tyX8_ok hown (ht0 _ st_c8) (ht0 _ st_w8) (ht0 _ st_i8) hK hP hD hS hA rfl (fun j hj => by
    match j, hj with
    | 0, _ => rfl
    | 1, _ => rfl
    | 2, _ => rfl
    | 3, _ => rfl
    | 4, _ => rfl
    | 5, _ => rfl
    | 6, _ => rfl
    | 7, _ => rfl
    | 8, _ => rfl
    | 9, _ => rfl
    | 10, _ => rfl
    | 11, _ => rfl
    | 12, _ => rfl
    | 13, _ => rfl
    | 14, _ => rfl
    | 15, _ => rfl
    | 16, _ => rfl
    | 17, _ => rfl
    | 18, _ => rfl
    | 19, _ => rfl
    | 20, _ => rfl
    | 21, _ => rfl
    | 22, _ => rfl
    | 23, _ => rfl
    | 24, _ => rfl
    | 25, _ => rfl
    | 26, _ => rfl
    | 27, _ => rfl
    | 28, _ => rfl
    | j + 29, hj => exact absurd hj (by omega)) (Nat.le_of_ble_eq_true rfl) (Nat.le_of_ble_eq_true rfl) dL_law_8 (fun q2_ H hP hD hS => ?_)
  have hP : va_P D vwCl (w7 cA a_ot a_g a_r a_se a_f a_h a_n a_l a_t ++ [(q2_, .inr (7, fs8))]) H := hP
  have hD : va_D (fun q : Nat => s.heap.size ≤ q) (w7 cA a_ot a_g a_r a_se a_f a_h a_n a_l a_t ++ [(q2_, .inr (7, fs8))]) := hD
  refine W.widen (k := 32) (n := 12224) (Nat.le_of_ble_eq_true rfl) (Nat.le_of_ble_eq_true rfl) ?_
  refine lv_dup hx hb dL_law_11 rfl ?_
  refine cI_v (b := q2_) (As := []) (rest := [.ref q2_]) (wr := w7 cA a_ot a_g a_r a_se a_f a_h a_n a_l a_t) ⟨hx, hb, hml, hown, hts⟩ (c_X8_init l D cA q2_ H.size) (cwI 0 hts gL_law_X8_init rfl rfl rfl (ht0 _ st_i8) (ht0 _ st_m8) (ht0 _ st_n8) rfl (by decide +kernel) ⟨(Nat.le_of_ble_eq_true rfl), (Nat.le_of_ble_eq_true rfl)⟩) hP hD hS hA [31] [0, 1, 2, 3, 4, 5, 6, 7, 8, 9, 10, 11, 12, 13, 14, 15, 16, 17, 18, 19, 20, 21, 22, 23, 24, 25, 26, 27, 28, 29, 30] rfl rfl rfl rfl (by decide) (fun hPc hDc => cPreS hK hPc hDc) rfl hl.1 rfl (Nat.le_of_ble_eq_true rfl) dL_law_12 ⟨(Nat.le_of_ble_eq_true rfl), (Nat.le_of_ble_eq_true rfl)⟩ (fun a_m H2 locs2 hw hP2 hD2 hS2 => ?_)
  have hw : a_m 0 = q2_ := hw
  subst hw
  have hP : va_P D vwCl (w7 cA a_ot a_g a_r a_se a_f a_h a_n a_l a_t ++ sh_X8 cA a_m 0 z32 0 z32 z32 z32 0 z32 z32 set0 z32 z32 0 z32 z32 0 0 0 0 0 0 z32 z32 z32 z32 z32 z32 0 0) H2 := hP2
  have hD : va_D (fun q : Nat => s.heap.size ≤ q) (w7 cA a_ot a_g a_r a_se a_f a_h a_n a_l a_t ++ sh_X8 cA a_m 0 z32 0 z32 z32 z32 0 z32 z32 set0 z32 z32 0 z32 z32 0 0 0 0 0 0 z32 z32 z32 z32 z32 z32 0 0) := hD2
  have hS := hS2
  clear hP2 hD2 hS2
  generalize H2 = H at hP hS ⊢
  generalize locs2 = locs at hS ⊢
  refine W.widen (k := 49) (n := 109519) (Nat.le_of_ble_eq_true rfl) (Nat.le_of_ble_eq_true rfl) ?_
  refine lv_astore_n (lv' := [(2, .ref (a_m 0)), (1, .ref (a_ot 0)), (0, .ref b)]) hx hb dL_law_15 rfl hl (by decide) rfl (fun ls hl => ?_)
  refine lv_iconst (v := 0) hx hb dL_law_16 (by decide) ?_
  refine lv_istore_n (lv' := [(3, .int 0), (2, .ref (a_m 0)), (1, .ref (a_ot 0)), (0, .ref b)]) hx hb dL_law_17 rfl hl (by decide) rfl (fun ls hl => ?_)
  exact st_loop hL C0 hK (lv_sub hl [3, 2, 1, 0] rfl) hP hD hS
