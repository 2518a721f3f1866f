section
-- ===== PART A: goes FIRST, ahead of the names: the tables' words, and 'selects' of the private methods out of them =====
/-- a private method of a class that the tables say can be made, by its rows of tables_1 -/
def lw_okq (q : MethodName × Nat) : Prop := (q.1.cls ≠ "java/lang/invoke/MethodHandle" ∧ q.1.cls ≠ "java/lang/invoke/VarHandle") ∧ Cond.instantiable q.1.cls q.2 ∈ tables_1 ∧ Cond.privateMethod q.1 ∈ tables_1 ∧ Cond.instanceMethod q.1 ∈ tables_1
theorem lw_p0 : lw_okq (⟨"OrderTests$Search", "keepNext", "(II)V"⟩, 9) := ⟨⟨by decide +kernel, by decide +kernel⟩, List.mem_of_getElem? (i := 132) (by decide +kernel), List.mem_of_getElem? (i := 349) (by decide +kernel), List.mem_of_getElem? (i := 350) (by decide +kernel)⟩
theorem lw_p1 : lw_okq (⟨"OrderTests$States", "isLike", "(ILOrderTests$State;)Z"⟩, 5) := ⟨⟨by decide +kernel, by decide +kernel⟩, List.mem_of_getElem? (i := 138) (by decide +kernel), List.mem_of_getElem? (i := 362) (by decide +kernel), List.mem_of_getElem? (i := 363) (by decide +kernel)⟩
theorem lw_p2 : lw_okq (⟨"OrderTests$Findings", "noteEnd", "(I)V"⟩, 10) := ⟨⟨by decide +kernel, by decide +kernel⟩, List.mem_of_getElem? (i := 87) (by decide +kernel), List.mem_of_getElem? (i := 398) (by decide +kernel), List.mem_of_getElem? (i := 399) (by decide +kernel)⟩
theorem lw_p3 : lw_okq (⟨"OrderTests$Search", "goThrough", "(I)V"⟩, 9) := ⟨⟨by decide +kernel, by decide +kernel⟩, List.mem_of_getElem? (i := 132) (by decide +kernel), List.mem_of_getElem? (i := 402) (by decide +kernel), List.mem_of_getElem? (i := 403) (by decide +kernel)⟩
theorem lw_p4 : lw_okq (⟨"OrderTests$Search", "take", "(IIII)V"⟩, 9) := ⟨⟨by decide +kernel, by decide +kernel⟩, List.mem_of_getElem? (i := 132) (by decide +kernel), List.mem_of_getElem? (i := 418) (by decide +kernel), List.mem_of_getElem? (i := 419) (by decide +kernel)⟩
theorem lw_p5 : lw_okq (⟨"OrderTests$Search", "deliver", "(II)V"⟩, 9) := ⟨⟨by decide +kernel, by decide +kernel⟩, List.mem_of_getElem? (i := 132) (by decide +kernel), List.mem_of_getElem? (i := 444) (by decide +kernel), List.mem_of_getElem? (i := 445) (by decide +kernel)⟩
theorem lw_p6 : lw_okq (⟨"OrderTests$Search", "isStep", "(II)Z"⟩, 9) := ⟨⟨by decide +kernel, by decide +kernel⟩, List.mem_of_getElem? (i := 132) (by decide +kernel), List.mem_of_getElem? (i := 476) (by decide +kernel), List.mem_of_getElem? (i := 477) (by decide +kernel)⟩
theorem lw_p7 : lw_okq (⟨"OrderTestsModel", "folded", "(II)I"⟩, 29) := ⟨⟨by decide +kernel, by decide +kernel⟩, List.mem_of_getElem? (i := 517) (by decide +kernel), List.mem_of_getElem? (i := 647) (by decide +kernel), List.mem_of_getElem? (i := 648) (by decide +kernel)⟩
theorem lw_p8 : lw_okq (⟨"OrderTestsModel", "outOf", "(II)I"⟩, 29) := ⟨⟨by decide +kernel, by decide +kernel⟩, List.mem_of_getElem? (i := 517) (by decide +kernel), List.mem_of_getElem? (i := 655) (by decide +kernel), List.mem_of_getElem? (i := 656) (by decide +kernel)⟩
theorem lw_p9 : lw_okq (⟨"OrderTestsModel", "holds", "(IIII)Z"⟩, 29) := ⟨⟨by decide +kernel, by decide +kernel⟩, List.mem_of_getElem? (i := 517) (by decide +kernel), List.mem_of_getElem? (i := 663) (by decide +kernel), List.mem_of_getElem? (i := 664) (by decide +kernel)⟩
theorem lw_p10 : lw_okq (⟨"OrderTestsModel", "search", "(II)Z"⟩, 29) := ⟨⟨by decide +kernel, by decide +kernel⟩, List.mem_of_getElem? (i := 517) (by decide +kernel), List.mem_of_getElem? (i := 675) (by decide +kernel), List.mem_of_getElem? (i := 676) (by decide +kernel)⟩
theorem lw_p11 : lw_okq (⟨"OrderTestsModel", "find", "(I)I"⟩, 29) := ⟨⟨by decide +kernel, by decide +kernel⟩, List.mem_of_getElem? (i := 517) (by decide +kernel), List.mem_of_getElem? (i := 679) (by decide +kernel), List.mem_of_getElem? (i := 680) (by decide +kernel)⟩
theorem lw_p12 : lw_okq (⟨"OrderTestsModel", "isSame", "(I)Z"⟩, 29) := ⟨⟨by decide +kernel, by decide +kernel⟩, List.mem_of_getElem? (i := 517) (by decide +kernel), List.mem_of_getElem? (i := 686) (by decide +kernel), List.mem_of_getElem? (i := 687) (by decide +kernel)⟩
theorem lw_p13 : lw_okq (⟨"OrderTestsModel", "goOn", "(III)V"⟩, 29) := ⟨⟨by decide +kernel, by decide +kernel⟩, List.mem_of_getElem? (i := 517) (by decide +kernel), List.mem_of_getElem? (i := 690) (by decide +kernel), List.mem_of_getElem? (i := 691) (by decide +kernel)⟩
theorem lw_p14 : lw_okq (⟨"OrderTestsModel", "stepBoth", "(IIIII)V"⟩, 29) := ⟨⟨by decide +kernel, by decide +kernel⟩, List.mem_of_getElem? (i := 517) (by decide +kernel), List.mem_of_getElem? (i := 694) (by decide +kernel), List.mem_of_getElem? (i := 695) (by decide +kernel)⟩
theorem lw_p15 : lw_okq (⟨"OrderTestsModel", "step", "(IIIZII)V"⟩, 29) := ⟨⟨by decide +kernel, by decide +kernel⟩, List.mem_of_getElem? (i := 517) (by decide +kernel), List.mem_of_getElem? (i := 698) (by decide +kernel), List.mem_of_getElem? (i := 699) (by decide +kernel)⟩
def lw_privs_1 : List (MethodName × Nat) := [(⟨"OrderTests$Search", "keepNext", "(II)V"⟩, 9), (⟨"OrderTests$States", "isLike", "(ILOrderTests$State;)Z"⟩, 5), (⟨"OrderTests$Findings", "noteEnd", "(I)V"⟩, 10), (⟨"OrderTests$Search", "goThrough", "(I)V"⟩, 9), (⟨"OrderTests$Search", "take", "(IIII)V"⟩, 9), (⟨"OrderTests$Search", "deliver", "(II)V"⟩, 9), (⟨"OrderTests$Search", "isStep", "(II)Z"⟩, 9), (⟨"OrderTestsModel", "folded", "(II)I"⟩, 29), (⟨"OrderTestsModel", "outOf", "(II)I"⟩, 29), (⟨"OrderTestsModel", "holds", "(IIII)Z"⟩, 29), (⟨"OrderTestsModel", "search", "(II)Z"⟩, 29), (⟨"OrderTestsModel", "find", "(I)I"⟩, 29), (⟨"OrderTestsModel", "isSame", "(I)Z"⟩, 29), (⟨"OrderTestsModel", "goOn", "(III)V"⟩, 29), (⟨"OrderTestsModel", "stepBoth", "(IIIII)V"⟩, 29), (⟨"OrderTestsModel", "step", "(IIIZII)V"⟩, 29)]
theorem lw_r1 : ∀ q ∈ lw_privs_1, lw_okq q := List.forall_mem_cons.mpr ⟨lw_p0, List.forall_mem_cons.mpr ⟨lw_p1, List.forall_mem_cons.mpr ⟨lw_p2, List.forall_mem_cons.mpr ⟨lw_p3, List.forall_mem_cons.mpr ⟨lw_p4, List.forall_mem_cons.mpr ⟨lw_p5, List.forall_mem_cons.mpr ⟨lw_p6, List.forall_mem_cons.mpr ⟨lw_p7, List.forall_mem_cons.mpr ⟨lw_p8, List.forall_mem_cons.mpr ⟨lw_p9, List.forall_mem_cons.mpr ⟨lw_p10, List.forall_mem_cons.mpr ⟨lw_p11, List.forall_mem_cons.mpr ⟨lw_p12, List.forall_mem_cons.mpr ⟨lw_p13, List.forall_mem_cons.mpr ⟨lw_p14, List.forall_mem_cons.mpr ⟨lw_p15, fun _ h => absurd h List.not_mem_nil⟩⟩⟩⟩⟩⟩⟩⟩⟩⟩⟩⟩⟩⟩⟩⟩
theorem lw_p16 : lw_okq (⟨"OrderTestsModel", "load", "(I)V"⟩, 29) := ⟨⟨by decide +kernel, by decide +kernel⟩, List.mem_of_getElem? (i := 517) (by decide +kernel), List.mem_of_getElem? (i := 702) (by decide +kernel), List.mem_of_getElem? (i := 703) (by decide +kernel)⟩
theorem lw_p17 : lw_okq (⟨"OrderTestsModel", "takeOff", "(II)V"⟩, 29) := ⟨⟨by decide +kernel, by decide +kernel⟩, List.mem_of_getElem? (i := 517) (by decide +kernel), List.mem_of_getElem? (i := 709) (by decide +kernel), List.mem_of_getElem? (i := 710) (by decide +kernel)⟩
theorem lw_p18 : lw_okq (⟨"OrderTestsModel", "comes", "(III)V"⟩, 29) := ⟨⟨by decide +kernel, by decide +kernel⟩, List.mem_of_getElem? (i := 517) (by decide +kernel), List.mem_of_getElem? (i := 713) (by decide +kernel), List.mem_of_getElem? (i := 714) (by decide +kernel)⟩
theorem lw_p19 : lw_okq (⟨"OrderTestsModel", "send", "(II)V"⟩, 29) := ⟨⟨by decide +kernel, by decide +kernel⟩, List.mem_of_getElem? (i := 517) (by decide +kernel), List.mem_of_getElem? (i := 717) (by decide +kernel), List.mem_of_getElem? (i := 718) (by decide +kernel)⟩
theorem lw_p20 : lw_okq (⟨"OrderTestsModel", "openIn", "(I)I"⟩, 29) := ⟨⟨by decide +kernel, by decide +kernel⟩, List.mem_of_getElem? (i := 517) (by decide +kernel), List.mem_of_getElem? (i := 721) (by decide +kernel), List.mem_of_getElem? (i := 722) (by decide +kernel)⟩
theorem lw_p21 : lw_okq (⟨"OrderTestsModel", "isFirstOf", "(I)Z"⟩, 29) := ⟨⟨by decide +kernel, by decide +kernel⟩, List.mem_of_getElem? (i := 517) (by decide +kernel), List.mem_of_getElem? (i := 725) (by decide +kernel), List.mem_of_getElem? (i := 726) (by decide +kernel)⟩
theorem lw_p22 : lw_okq (⟨"OrderTestsModel", "isLike", "(II)Z"⟩, 29) := ⟨⟨by decide +kernel, by decide +kernel⟩, List.mem_of_getElem? (i := 517) (by decide +kernel), List.mem_of_getElem? (i := 729) (by decide +kernel), List.mem_of_getElem? (i := 730) (by decide +kernel)⟩
theorem lw_p23 : lw_okq (⟨"OrderTestsModel", "countEnds", "()I"⟩, 29) := ⟨⟨by decide +kernel, by decide +kernel⟩, List.mem_of_getElem? (i := 517) (by decide +kernel), List.mem_of_getElem? (i := 749) (by decide +kernel), List.mem_of_getElem? (i := 750) (by decide +kernel)⟩
def lw_privs_2 : List (MethodName × Nat) := [(⟨"OrderTestsModel", "load", "(I)V"⟩, 29), (⟨"OrderTestsModel", "takeOff", "(II)V"⟩, 29), (⟨"OrderTestsModel", "comes", "(III)V"⟩, 29), (⟨"OrderTestsModel", "send", "(II)V"⟩, 29), (⟨"OrderTestsModel", "openIn", "(I)I"⟩, 29), (⟨"OrderTestsModel", "isFirstOf", "(I)Z"⟩, 29), (⟨"OrderTestsModel", "isLike", "(II)Z"⟩, 29), (⟨"OrderTestsModel", "countEnds", "()I"⟩, 29)]
theorem lw_r2 : ∀ q ∈ lw_privs_2, lw_okq q := List.forall_mem_cons.mpr ⟨lw_p16, List.forall_mem_cons.mpr ⟨lw_p17, List.forall_mem_cons.mpr ⟨lw_p18, List.forall_mem_cons.mpr ⟨lw_p19, List.forall_mem_cons.mpr ⟨lw_p20, List.forall_mem_cons.mpr ⟨lw_p21, List.forall_mem_cons.mpr ⟨lw_p22, List.forall_mem_cons.mpr ⟨lw_p23, fun _ h => absurd h List.not_mem_nil⟩⟩⟩⟩⟩⟩⟩⟩
def lw_privs : List (MethodName × Nat) := lw_privs_1 ++ (lw_privs_2)
def lw_tbl : List Cond := k2_sels lw_privs ++ tables_1
theorem lw_privs_ok : ∀ q ∈ lw_privs, lw_okq q := by
  show ∀ q ∈ lw_privs_1 ++ (lw_privs_2), lw_okq q
  exact List.forall_mem_append.mpr ⟨lw_r1, lw_r2⟩
end
section
/-! ===== BEGIN words of one list among another's, by their places ===== -/
theorem goodIn_r {big : List Cond} (ws : List Cond) (ps : List Nat) (hp : ws = ps.filterMap (fun i => big[i]?)) (h : ws.all goodWord = true) : GoodIn big ws := by
  intro w hw
  have h1 := List.all_eq_true.mp h w hw
  rw [hp] at hw
  obtain ⟨i, -, hi⟩ := List.mem_filterMap.mp hw
  have hm : w ∈ big := by first | exact List.mem_of_getElem? hi | exact List.getElem?_mem hi
  exact ⟨hm, good_of_word h1⟩
theorem goodIn_app {big a b : List Cond} (ha : GoodIn big a) (hb : GoodIn big b) : GoodIn big (a ++ b) := fun w h => (List.mem_append.mp h).elim (ha w) (hb w)
theorem goodIn_ca {big a b : List Cond} {c : Cond} (ha : GoodIn big (c :: a)) (hb : GoodIn big b) : GoodIn big (c :: (a ++ b)) := fun w h => (List.mem_cons.mp h).elim (fun e => ha w (List.mem_cons.mpr (Or.inl e))) (fun h => (List.mem_append.mp h).elim (fun h => ha w (List.mem_cons.mpr (Or.inr h))) (hb w))
theorem goodIn_sub {big ws : List Cond} (hm : ∀ w ∈ ws, w ∈ big) (h : ws.all goodWord = true) : GoodIn big ws := fun w hw => ⟨hm w hw, good_of_word (List.all_eq_true.mp h w hw)⟩
/-! ===== END ===== -/

/-! ===== BEGIN printed: names, fields, word lists, decode rows ===== -/
def RX0 : String := "OrderTests$Findings"
def TX0 : u_T := fun k => match k with
  | 0 => ("OrderTests$Findings", "states", "I", false)
  | 1 => ("OrderTests$Findings", "vertices", "I", false)
  | 2 => ("OrderTests$Findings", "ends", "I", false)
  | 3 => ("OrderTests$Findings", "stepless", "I", false)
  | 4 => ("OrderTests$Findings", "mostPending", "I", false)
  | 5 => ("OrderTests$Findings", "whole", "Z", false)
  | 6 => ("OrderTests$Findings", "endValues", "[I", true)
  | 7 => ("OrderTests$Findings", "endStates", "[I", true)
  | 8 => ("OrderTests$Findings", "parents", "[I", true)
  | _ => ("OrderTests$Findings", "steps", "[I", true)
def tyX0 : Nat → FieldType := fun k => match k with
  | 0 => .int
  | 1 => .int
  | 2 => .int
  | 3 => .int
  | 4 => .int
  | 5 => .boolean
  | 6 => .array .int
  | 7 => .array .int
  | 8 => .array .int
  | _ => .array .int
abbrev wsX00 : List Cond := u_ws RX0 TX0 10
theorem nmX0 : ∀ a, a < 10 → ∀ b, b < 10 → a ≠ b → (TX0 a).2.1 ≠ (TX0 b).2.1 := by decide +kernel
theorem tyX0_ok : ∀ k, k < 10 → parseFieldDescriptor (TX0 k).2.2.1 = some (tyX0 k) := by decide +kernel
abbrev cX0_init : ByteArray := prog_2_method_1_code
def yX0_init : MethodName := ⟨RX0, "<init>", "()V"⟩
abbrev cX0_clear : ByteArray := prog_2_method_2_code
def yX0_clear : MethodName := ⟨RX0, "clear", "(I)V"⟩
abbrev cX0_note : ByteArray := prog_2_method_3_code
def yX0_note : MethodName := ⟨RX0, "note", "(IIII)V"⟩
abbrev cX0_noteEnd : ByteArray := prog_2_method_4_code
def yX0_noteEnd : MethodName := ⟨RX0, "noteEnd", "(I)V"⟩
abbrev cX0_hasEnd : ByteArray := prog_2_method_5_code
def yX0_hasEnd : MethodName := ⟨RX0, "hasEnd", "(I)Z"⟩
abbrev cX0_wayLength : ByteArray := prog_2_method_6_code
def yX0_wayLength : MethodName := ⟨RX0, "wayLength", "(I)I"⟩
abbrev cX0_stepBefore : ByteArray := prog_2_method_7_code
def yX0_stepBefore : MethodName := ⟨RX0, "stepBefore", "(II)I"⟩
def RX1 : String := "OrderTests$Graph"
def TX1 : u_T := fun k => match k with
  | 0 => ("OrderTests$Graph", "vertices", "I", false)
  | 1 => ("OrderTests$Graph", "arcs", "I", false)
  | 2 => ("OrderTests$Graph", "firsts", "I", false)
  | 3 => ("OrderTests$Graph", "begins", "[I", true)
  | 4 => ("OrderTests$Graph", "arcFrom", "[I", true)
  | 5 => ("OrderTests$Graph", "arcTo", "[I", true)
  | 6 => ("OrderTests$Graph", "weights", "[I", true)
  | 7 => ("OrderTests$Graph", "firstTo", "[I", true)
  | _ => ("OrderTests$Graph", "firstValue", "[I", true)
def tyX1 : Nat → FieldType := fun k => match k with
  | 0 => .int
  | 1 => .int
  | 2 => .int
  | 3 => .array .int
  | 4 => .array .int
  | 5 => .array .int
  | 6 => .array .int
  | 7 => .array .int
  | _ => .array .int
abbrev wsX10 : List Cond := u_ws RX1 TX1 9
theorem nmX1 : ∀ a, a < 9 → ∀ b, b < 9 → a ≠ b → (TX1 a).2.1 ≠ (TX1 b).2.1 := by decide +kernel
theorem tyX1_ok : ∀ k, k < 9 → parseFieldDescriptor (TX1 k).2.2.1 = some (tyX1 k) := by decide +kernel
abbrev cX1_init : ByteArray := prog_3_method_1_code
def yX1_init : MethodName := ⟨RX1, "<init>", "()V"⟩
abbrev cX1_hasVertex : ByteArray := prog_3_method_2_code
def yX1_hasVertex : MethodName := ⟨RX1, "hasVertex", "(I)Z"⟩
abbrev cX1_allArcs : ByteArray := prog_3_method_3_code
def yX1_allArcs : MethodName := ⟨RX1, "allArcs", "()I"⟩
abbrev cX1_addVertex : ByteArray := prog_3_method_4_code
def yX1_addVertex : MethodName := ⟨RX1, "addVertex", "(I)I"⟩
abbrev cX1_addArc : ByteArray := prog_3_method_5_code
def yX1_addArc : MethodName := ⟨RX1, "addArc", "(III)I"⟩
abbrev cX1_addFirst : ByteArray := prog_3_method_6_code
def yX1_addFirst : MethodName := ⟨RX1, "addFirst", "(II)I"⟩
def RX2 : String := "OrderTests$Rules"
def TX2 : u_T := fun k => match k with
  | 0 => ("OrderTests$Rules", "settings", "[I", true)
  | _ => ("OrderTests$Rules", "told", "[I", true)
def tyX2 : Nat → FieldType := fun k => match k with
  | 0 => .array .int
  | _ => .array .int
abbrev wsX20 : List Cond := u_ws RX2 TX2 2
theorem nmX2 : ∀ a, a < 2 → ∀ b, b < 2 → a ≠ b → (TX2 a).2.1 ≠ (TX2 b).2.1 := by decide +kernel
theorem tyX2_ok : ∀ k, k < 2 → parseFieldDescriptor (TX2 k).2.2.1 = some (tyX2 k) := by decide +kernel
abbrev cX2_init : ByteArray := prog_4_method_1_code
def yX2_init : MethodName := ⟨RX2, "<init>", "()V"⟩
abbrev cX2_cell : ByteArray := prog_4_method_2_code
def yX2_cell : MethodName := ⟨RX2, "cell", "(II)I"⟩
abbrev cX2_tell : ByteArray := prog_4_method_3_code
def yX2_tell : MethodName := ⟨RX2, "tell", "(III)I"⟩
abbrev cX2_folded : ByteArray := prog_4_method_4_code
def yX2_folded : MethodName := ⟨RX2, "folded", "(II)I"⟩
abbrev cX2_sentOut : ByteArray := prog_4_method_5_code
def yX2_sentOut : MethodName := ⟨RX2, "sentOut", "(II)I"⟩
abbrev cX2_lawHolds : ByteArray := prog_4_method_6_code
def yX2_lawHolds : MethodName := ⟨RX2, "lawHolds", "(IIII)Z"⟩
def RX3 : String := "OrderTests$Search"
def TX3 : u_T := fun k => match k with
  | 0 => ("OrderTests$Search", "graph", "LOrderTests$Graph;", true)
  | 1 => ("OrderTests$Search", "rules", "LOrderTests$Rules;", true)
  | 2 => ("OrderTests$Search", "found", "LOrderTests$States;", true)
  | 3 => ("OrderTests$Search", "here", "LOrderTests$State;", true)
  | 4 => ("OrderTests$Search", "next", "LOrderTests$State;", true)
  | 5 => ("OrderTests$Search", "findings", "LOrderTests$Findings;", false)
  | 6 => ("OrderTests$Search", "limit", "I", false)
  | 7 => ("OrderTests$Search", "staying", "I", false)
  | _ => ("OrderTests$Search", "isFull", "Z", false)
def tyX3 : Nat → FieldType := fun k => match k with
  | 0 => .object "OrderTests$Graph"
  | 1 => .object "OrderTests$Rules"
  | 2 => .object "OrderTests$States"
  | 3 => .object "OrderTests$State"
  | 4 => .object "OrderTests$State"
  | 5 => .object "OrderTests$Findings"
  | 6 => .int
  | 7 => .int
  | _ => .boolean
abbrev wsX30 : List Cond := u_ws RX3 TX3 9
theorem nmX3 : ∀ a, a < 9 → ∀ b, b < 9 → a ≠ b → (TX3 a).2.1 ≠ (TX3 b).2.1 := by decide +kernel
theorem tyX3_ok : ∀ k, k < 9 → parseFieldDescriptor (TX3 k).2.2.1 = some (tyX3 k) := by decide +kernel
abbrev cX3_init : ByteArray := prog_5_method_1_code
def yX3_init : MethodName := ⟨RX3, "<init>", "(LOrderTests$Graph;LOrderTests$Rules;LOrderTests$Findings;)V"⟩
abbrev cX3_run : ByteArray := prog_5_method_2_code
def yX3_run : MethodName := ⟨RX3, "run", "(IILOrderTests$Findings;)V"⟩
abbrev cX3_goThrough : ByteArray := prog_5_method_3_code
def yX3_goThrough : MethodName := ⟨RX3, "goThrough", "(I)V"⟩
abbrev cX3_isStep : ByteArray := prog_5_method_4_code
def yX3_isStep : MethodName := ⟨RX3, "isStep", "(II)Z"⟩
abbrev cX3_take : ByteArray := prog_5_method_5_code
def yX3_take : MethodName := ⟨RX3, "take", "(IIII)V"⟩
abbrev cX3_deliver : ByteArray := prog_5_method_6_code
def yX3_deliver : MethodName := ⟨RX3, "deliver", "(II)V"⟩
abbrev cX3_keepNext : ByteArray := prog_5_method_7_code
def yX3_keepNext : MethodName := ⟨RX3, "keepNext", "(II)V"⟩
def RX4 : String := "OrderTests$State"
def TX4 : u_T := fun k => match k with
  | 0 => ("OrderTests$State", "head", "J", false)
  | 1 => ("OrderTests$State", "lengths", "J", false)
  | _ => ("OrderTests$State", "rows", "[J", true)
def tyX4 : Nat → FieldType := fun k => match k with
  | 0 => .long
  | 1 => .long
  | _ => .array .long
abbrev wsX40 : List Cond := u_ws RX4 TX4 3
theorem nmX4 : ∀ a, a < 3 → ∀ b, b < 3 → a ≠ b → (TX4 a).2.1 ≠ (TX4 b).2.1 := by decide +kernel
theorem tyX4_ok : ∀ k, k < 3 → parseFieldDescriptor (TX4 k).2.2.1 = some (tyX4 k) := by decide +kernel
abbrev cX4_init : ByteArray := prog_6_method_1_code
def yX4_init : MethodName := ⟨RX4, "<init>", "()V"⟩
abbrev cX4_begin : ByteArray := prog_6_method_2_code
def yX4_begin : MethodName := ⟨RX4, "begin", "(LOrderTests$Graph;I)V"⟩
abbrev cX4_copy : ByteArray := prog_6_method_3_code
def yX4_copy : MethodName := ⟨RX4, "copy", "(LOrderTests$State;)V"⟩
abbrev cX4_allValues : ByteArray := prog_6_method_4_code
def yX4_allValues : MethodName := ⟨RX4, "allValues", "()I"⟩
abbrev cX4_valueOf : ByteArray := prog_6_method_5_code
def yX4_valueOf : MethodName := ⟨RX4, "valueOf", "(I)I"⟩
abbrev cX4_change : ByteArray := prog_6_method_6_code
def yX4_change : MethodName := ⟨RX4, "change", "(II)V"⟩
abbrev cX4_sentBy : ByteArray := prog_6_method_7_code
def yX4_sentBy : MethodName := ⟨RX4, "sentBy", "(I)I"⟩
abbrev cX4_countSend : ByteArray := prog_6_method_8_code
def yX4_countSend : MethodName := ⟨RX4, "countSend", "(I)V"⟩
abbrev cX4_hasCome : ByteArray := prog_6_method_9_code
def yX4_hasCome : MethodName := ⟨RX4, "hasCome", "(I)Z"⟩
abbrev cX4_markCome : ByteArray := prog_6_method_10_code
def yX4_markCome : MethodName := ⟨RX4, "markCome", "(I)V"⟩
abbrev cX4_doublesLeft : ByteArray := prog_6_method_11_code
def yX4_doublesLeft : MethodName := ⟨RX4, "doublesLeft", "()I"⟩
abbrev cX4_useDouble : ByteArray := prog_6_method_12_code
def yX4_useDouble : MethodName := ⟨RX4, "useDouble", "()V"⟩
abbrev cX4_underWay : ByteArray := prog_6_method_13_code
def yX4_underWay : MethodName := ⟨RX4, "underWay", "(I)I"⟩
abbrev cX4_messageAt : ByteArray := prog_6_method_14_code
def yX4_messageAt : MethodName := ⟨RX4, "messageAt", "(II)I"⟩
abbrev cX4_take : ByteArray := prog_6_method_15_code
def yX4_take : MethodName := ⟨RX4, "take", "(II)V"⟩
abbrev cX4_put : ByteArray := prog_6_method_16_code
def yX4_put : MethodName := ⟨RX4, "put", "(IIZ)V"⟩
abbrev cX4_pending : ByteArray := prog_6_method_17_code
def yX4_pending : MethodName := ⟨RX4, "pending", "(I)I"⟩
abbrev cX4_hash : ByteArray := prog_6_method_18_code
def yX4_hash : MethodName := ⟨RX4, "hash", "()I"⟩
def RX5 : String := "OrderTests$States"
def TX5 : u_T := fun k => match k with
  | 0 => ("OrderTests$States", "count", "I", false)
  | 1 => ("OrderTests$States", "heads", "[J", true)
  | 2 => ("OrderTests$States", "lengths", "[J", true)
  | 3 => ("OrderTests$States", "rows", "[J", true)
  | _ => ("OrderTests$States", "slots", "[I", true)
def tyX5 : Nat → FieldType := fun k => match k with
  | 0 => .int
  | 1 => .array .long
  | 2 => .array .long
  | 3 => .array .long
  | _ => .array .int
abbrev wsX50 : List Cond := u_ws RX5 TX5 5
theorem nmX5 : ∀ a, a < 5 → ∀ b, b < 5 → a ≠ b → (TX5 a).2.1 ≠ (TX5 b).2.1 := by decide +kernel
theorem tyX5_ok : ∀ k, k < 5 → parseFieldDescriptor (TX5 k).2.2.1 = some (tyX5 k) := by decide +kernel
abbrev cX5_init : ByteArray := prog_7_method_1_code
def yX5_init : MethodName := ⟨RX5, "<init>", "()V"⟩
abbrev cX5_clear : ByteArray := prog_7_method_2_code
def yX5_clear : MethodName := ⟨RX5, "clear", "()V"⟩
abbrev cX5_freeSlot : ByteArray := prog_7_method_3_code
def yX5_freeSlot : MethodName := ⟨RX5, "freeSlot", "(LOrderTests$State;)I"⟩
abbrev cX5_isLike : ByteArray := prog_7_method_4_code
def yX5_isLike : MethodName := ⟨RX5, "isLike", "(ILOrderTests$State;)Z"⟩
abbrev cX5_add : ByteArray := prog_7_method_5_code
def yX5_add : MethodName := ⟨RX5, "add", "(LOrderTests$State;I)V"⟩
abbrev cX5_load : ByteArray := prog_7_method_6_code
def yX5_load : MethodName := ⟨RX5, "load", "(ILOrderTests$State;)V"⟩
def RX6 : String := "OrderTests$Step"
def TX6 : u_T := fun k => match k with
  | _ => ("", "", "", false)
def tyX6 : Nat → FieldType := fun k => match k with
  | _ => .int
abbrev wsX60 : List Cond := u_ws RX6 TX6 0
theorem nmX6 : ∀ a, a < 0 → ∀ b, b < 0 → a ≠ b → (TX6 a).2.1 ≠ (TX6 b).2.1 := by decide +kernel
theorem tyX6_ok : ∀ k, k < 0 → parseFieldDescriptor (TX6 k).2.2.1 = some (tyX6 k) := by decide +kernel
abbrev cX6_of : ByteArray := prog_8_method_2_code
def yX6_of : MethodName := ⟨RX6, "of", "(III)I"⟩
abbrev cX6_source : ByteArray := prog_8_method_3_code
def yX6_source : MethodName := ⟨RX6, "source", "(I)I"⟩
abbrev cX6_message : ByteArray := prog_8_method_4_code
def yX6_message : MethodName := ⟨RX6, "message", "(I)I"⟩
abbrev cX6_doubled : ByteArray := prog_8_method_5_code
def yX6_doubled : MethodName := ⟨RX6, "doubled", "(I)I"⟩
def RX7 : String := "OrderTests"
def TX7 : u_T := fun k => match k with
  | 0 => ("OrderTests", "graph", "LOrderTests$Graph;", true)
  | 1 => ("OrderTests", "rules", "LOrderTests$Rules;", true)
  | 2 => ("OrderTests", "search", "LOrderTests$Search;", true)
  | 3 => ("OrderTests", "latest", "LOrderTests$Findings;", true)
  | _ => ("OrderTests", "trial", "LOrderTests$Findings;", true)
def tyX7 : Nat → FieldType := fun k => match k with
  | 0 => .object "OrderTests$Graph"
  | 1 => .object "OrderTests$Rules"
  | 2 => .object "OrderTests$Search"
  | 3 => .object "OrderTests$Findings"
  | _ => .object "OrderTests$Findings"
abbrev wsX70 : List Cond := u_ws RX7 TX7 5
theorem nmX7 : ∀ a, a < 5 → ∀ b, b < 5 → a ≠ b → (TX7 a).2.1 ≠ (TX7 b).2.1 := by decide +kernel
theorem tyX7_ok : ∀ k, k < 5 → parseFieldDescriptor (TX7 k).2.2.1 = some (tyX7 k) := by decide +kernel
abbrev cX7_init : ByteArray := prog_1_method_1_code
def yX7_init : MethodName := ⟨RX7, "<init>", "()V"⟩
abbrev cX7_vertex : ByteArray := prog_1_method_2_code
def yX7_vertex : MethodName := ⟨RX7, "vertex", "(I)I"⟩
abbrev cX7_arc : ByteArray := prog_1_method_3_code
def yX7_arc : MethodName := ⟨RX7, "arc", "(III)I"⟩
abbrev cX7_first : ByteArray := prog_1_method_4_code
def yX7_first : MethodName := ⟨RX7, "first", "(II)I"⟩
abbrev cX7_set : ByteArray := prog_1_method_5_code
def yX7_set : MethodName := ⟨RX7, "set", "(II)I"⟩
abbrev cX7_table : ByteArray := prog_1_method_6_code
def yX7_table : MethodName := ⟨RX7, "table", "(III)I"⟩
abbrev cX7_value : ByteArray := prog_1_method_7_code
def yX7_value : MethodName := ⟨RX7, "value", "(II)I"⟩
abbrev cX7_fold : ByteArray := prog_1_method_8_code
def yX7_fold : MethodName := ⟨RX7, "fold", "(II)I"⟩
abbrev cX7_out : ByteArray := prog_1_method_9_code
def yX7_out : MethodName := ⟨RX7, "out", "(II)I"⟩
abbrev cX7_law : ByteArray := prog_1_method_10_code
def yX7_law : MethodName := ⟨RX7, "law", "(I)I"⟩
abbrev cX7_about : ByteArray := prog_1_method_11_code
def yX7_about : MethodName := ⟨RX7, "about", "(I)I"⟩
abbrev cX7_look : ByteArray := prog_1_method_12_code
def yX7_look : MethodName := ⟨RX7, "look", "(I)I"⟩
abbrev cX7_looked : ByteArray := prog_1_method_13_code
def yX7_looked : MethodName := ⟨RX7, "looked", "(I)I"⟩
abbrev cX7_end : ByteArray := prog_1_method_14_code
def yX7_end : MethodName := ⟨RX7, "end", "(II)I"⟩
abbrev cX7_way : ByteArray := prog_1_method_15_code
def yX7_way : MethodName := ⟨RX7, "way", "(III)I"⟩
abbrev cX7_shrink : ByteArray := prog_1_method_16_code
def yX7_shrink : MethodName := ⟨RX7, "shrink", "(I)I"⟩
abbrev cX7_isWithin : ByteArray := prog_1_method_17_code
def yX7_isWithin : MethodName := ⟨RX7, "isWithin", "(III)Z"⟩
abbrev cX7_isValue : ByteArray := prog_1_method_18_code
def yX7_isValue : MethodName := ⟨RX7, "isValue", "(I)Z"⟩
def RX8 : String := "OrderTestsModel"
def TX8 : u_T := fun k => match k with
  | 0 => ("OrderTestsModel", "vertices", "I", false)
  | 1 => ("OrderTestsModel", "begins", "[I", true)
  | 2 => ("OrderTestsModel", "arcs", "I", false)
  | 3 => ("OrderTestsModel", "arcFrom", "[I", true)
  | 4 => ("OrderTestsModel", "arcTo", "[I", true)
  | 5 => ("OrderTestsModel", "arcWeight", "[I", true)
  | 6 => ("OrderTestsModel", "firsts", "I", false)
  | 7 => ("OrderTestsModel", "firstTo", "[I", true)
  | 8 => ("OrderTestsModel", "firstValue", "[I", true)
  | 9 => ("OrderTestsModel", "settings", "[I", true)
  | 10 => ("OrderTestsModel", "tells", "[I", true)
  | 11 => ("OrderTestsModel", "found", "[B", true)
  | 12 => ("OrderTestsModel", "states", "I", false)
  | 13 => ("OrderTestsModel", "places", "[I", true)
  | 14 => ("OrderTestsModel", "at", "[B", true)
  | 15 => ("OrderTestsModel", "hasLook", "Z", false)
  | 16 => ("OrderTestsModel", "wasWhole", "Z", false)
  | 17 => ("OrderTestsModel", "lookedVertices", "I", false)
  | 18 => ("OrderTestsModel", "deadMany", "I", false)
  | 19 => ("OrderTestsModel", "greatest", "I", false)
  | 20 => ("OrderTestsModel", "ends", "I", false)
  | 21 => ("OrderTestsModel", "endState", "[I", true)
  | 22 => ("OrderTestsModel", "endValues", "[B", true)
  | 23 => ("OrderTestsModel", "parent", "[I", true)
  | 24 => ("OrderTestsModel", "stepBy", "[I", true)
  | 25 => ("OrderTestsModel", "stepValue", "[I", true)
  | 26 => ("OrderTestsModel", "stepDouble", "[I", true)
  | 27 => ("OrderTestsModel", "keepsSteps", "Z", false)
  | _ => ("OrderTestsModel", "isOver", "Z", false)
def tyX8 : Nat → FieldType := fun k => match k with
  | 0 => .int
  | 1 => .array .int
  | 2 => .int
  | 3 => .array .int
  | 4 => .array .int
  | 5 => .array .int
  | 6 => .int
  | 7 => .array .int
  | 8 => .array .int
  | 9 => .array .int
  | 10 => .array .int
  | 11 => .array .byte
  | 12 => .int
  | 13 => .array .int
  | 14 => .array .byte
  | 15 => .boolean
  | 16 => .boolean
  | 17 => .int
  | 18 => .int
  | 19 => .int
  | 20 => .int
  | 21 => .array .int
  | 22 => .array .byte
  | 23 => .array .int
  | 24 => .array .int
  | 25 => .array .int
  | 26 => .array .int
  | 27 => .boolean
  | _ => .boolean
abbrev wsX80 : List Cond := u_ws RX8 TX8 29
theorem nmX8 : ∀ a, a < 29 → ∀ b, b < 29 → a ≠ b → (TX8 a).2.1 ≠ (TX8 b).2.1 := by decide +kernel
theorem tyX8_ok : ∀ k, k < 29 → parseFieldDescriptor (TX8 k).2.2.1 = some (tyX8 k) := by decide +kernel
abbrev cX8_init : ByteArray := prog_10_method_1_code
def yX8_init : MethodName := ⟨RX8, "<init>", "()V"⟩
abbrev cX8_in : ByteArray := prog_10_method_2_code
def yX8_in : MethodName := ⟨RX8, "in", "(III)Z"⟩
abbrev cX8_vertex : ByteArray := prog_10_method_3_code
def yX8_vertex : MethodName := ⟨RX8, "vertex", "(I)I"⟩
abbrev cX8_arc : ByteArray := prog_10_method_4_code
def yX8_arc : MethodName := ⟨RX8, "arc", "(III)I"⟩
abbrev cX8_first : ByteArray := prog_10_method_5_code
def yX8_first : MethodName := ⟨RX8, "first", "(II)I"⟩
abbrev cX8_greatestOf : ByteArray := prog_10_method_6_code
def yX8_greatestOf : MethodName := ⟨RX8, "greatestOf", "(I)I"⟩
abbrev cX8_set : ByteArray := prog_10_method_7_code
def yX8_set : MethodName := ⟨RX8, "set", "(II)I"⟩
abbrev cX8_table : ByteArray := prog_10_method_8_code
def yX8_table : MethodName := ⟨RX8, "table", "(III)I"⟩
abbrev cX8_value : ByteArray := prog_10_method_9_code
def yX8_value : MethodName := ⟨RX8, "value", "(II)I"⟩
abbrev cX8_folded : ByteArray := prog_10_method_10_code
def yX8_folded : MethodName := ⟨RX8, "folded", "(II)I"⟩
abbrev cX8_outOf : ByteArray := prog_10_method_11_code
def yX8_outOf : MethodName := ⟨RX8, "outOf", "(II)I"⟩
abbrev cX8_fold : ByteArray := prog_10_method_12_code
def yX8_fold : MethodName := ⟨RX8, "fold", "(II)I"⟩
abbrev cX8_out : ByteArray := prog_10_method_13_code
def yX8_out : MethodName := ⟨RX8, "out", "(II)I"⟩
abbrev cX8_holds : ByteArray := prog_10_method_14_code
def yX8_holds : MethodName := ⟨RX8, "holds", "(IIII)Z"⟩
abbrev cX8_law : ByteArray := prog_10_method_15_code
def yX8_law : MethodName := ⟨RX8, "law", "(I)I"⟩
abbrev cX8_about : ByteArray := prog_10_method_16_code
def yX8_about : MethodName := ⟨RX8, "about", "(I)I"⟩
abbrev cX8_rowOf : ByteArray := prog_10_method_17_code
def yX8_rowOf : MethodName := ⟨RX8, "rowOf", "(I)I"⟩
abbrev cX8_load : ByteArray := prog_10_method_18_code
def yX8_load : MethodName := ⟨RX8, "load", "(I)V"⟩
abbrev cX8_send : ByteArray := prog_10_method_19_code
def yX8_send : MethodName := ⟨RX8, "send", "(II)V"⟩
abbrev cX8_takeOff : ByteArray := prog_10_method_20_code
def yX8_takeOff : MethodName := ⟨RX8, "takeOff", "(II)V"⟩
abbrev cX8_comes : ByteArray := prog_10_method_21_code
def yX8_comes : MethodName := ⟨RX8, "comes", "(III)V"⟩
abbrev cX8_hash : ByteArray := prog_10_method_22_code
def yX8_hash : MethodName := ⟨RX8, "hash", "([B)I"⟩
abbrev cX8_isSame : ByteArray := prog_10_method_23_code
def yX8_isSame : MethodName := ⟨RX8, "isSame", "(I)Z"⟩
abbrev cX8_find : ByteArray := prog_10_method_24_code
def yX8_find : MethodName := ⟨RX8, "find", "(I)I"⟩
abbrev cX8_step : ByteArray := prog_10_method_25_code
def yX8_step : MethodName := ⟨RX8, "step", "(IIIZII)V"⟩
abbrev cX8_stepBoth : ByteArray := prog_10_method_26_code
def yX8_stepBoth : MethodName := ⟨RX8, "stepBoth", "(IIIII)V"⟩
abbrev cX8_goOn : ByteArray := prog_10_method_27_code
def yX8_goOn : MethodName := ⟨RX8, "goOn", "(III)V"⟩
abbrev cX8_openIn : ByteArray := prog_10_method_28_code
def yX8_openIn : MethodName := ⟨RX8, "openIn", "(I)I"⟩
abbrev cX8_search : ByteArray := prog_10_method_29_code
def yX8_search : MethodName := ⟨RX8, "search", "(II)Z"⟩
abbrev cX8_isLike : ByteArray := prog_10_method_30_code
def yX8_isLike : MethodName := ⟨RX8, "isLike", "(II)Z"⟩
abbrev cX8_isFirstOf : ByteArray := prog_10_method_31_code
def yX8_isFirstOf : MethodName := ⟨RX8, "isFirstOf", "(I)Z"⟩
abbrev cX8_countEnds : ByteArray := prog_10_method_32_code
def yX8_countEnds : MethodName := ⟨RX8, "countEnds", "()I"⟩
abbrev cX8_look : ByteArray := prog_10_method_33_code
def yX8_look : MethodName := ⟨RX8, "look", "(I)I"⟩
abbrev cX8_looked : ByteArray := prog_10_method_34_code
def yX8_looked : MethodName := ⟨RX8, "looked", "(I)I"⟩
abbrev cX8_end : ByteArray := prog_10_method_35_code
def yX8_end : MethodName := ⟨RX8, "end", "(II)I"⟩
abbrev cX8_way : ByteArray := prog_10_method_36_code
def yX8_way : MethodName := ⟨RX8, "way", "(III)I"⟩
abbrev cX8_shrink : ByteArray := prog_10_method_37_code
def yX8_shrink : MethodName := ⟨RX8, "shrink", "(I)I"⟩
def RJ13 : String := "java/lang/Long"
def TJ13 : u_T := fun k => match k with
  | _ => ("", "", "", false)
def tyJ13 : Nat → FieldType := fun k => match k with
  | _ => .int
abbrev wsJ130 : List Cond := u_ws RJ13 TJ13 0
theorem nmJ13 : ∀ a, a < 0 → ∀ b, b < 0 → a ≠ b → (TJ13 a).2.1 ≠ (TJ13 b).2.1 := by decide +kernel
theorem tyJ13_ok : ∀ k, k < 0 → parseFieldDescriptor (TJ13 k).2.2.1 = some (tyJ13 k) := by decide +kernel
abbrev cJ13_bitCount_95d88 : ByteArray := prog_11_method_50_code
def yJ13_bitCount_95d88 : MethodName := ⟨RJ13, "bitCount", "(J)I"⟩
def RJ9 : String := "java/lang/Math"
def TJ9 : u_T := fun k => match k with
  | _ => ("", "", "", false)
def tyJ9 : Nat → FieldType := fun k => match k with
  | _ => .int
abbrev wsJ90 : List Cond := u_ws RJ9 TJ9 0
theorem nmJ9 : ∀ a, a < 0 → ∀ b, b < 0 → a ≠ b → (TJ9 a).2.1 ≠ (TJ9 b).2.1 := by decide +kernel
theorem tyJ9_ok : ∀ k, k < 0 → parseFieldDescriptor (TJ9 k).2.2.1 = some (tyJ9 k) := by decide +kernel
abbrev cJ9_max_7cf53 : ByteArray := prog_12_method_65_code
def yJ9_max_7cf53 : MethodName := ⟨RJ9, "max", "(II)I"⟩
abbrev cJ9_min_7cf53 : ByteArray := prog_12_method_69_code
def yJ9_min_7cf53 : MethodName := ⟨RJ9, "min", "(II)I"⟩
def RJ10 : String := "java/lang/System"
def TJ10 : u_T := fun k => match k with
  | _ => ("", "", "", false)
def tyJ10 : Nat → FieldType := fun k => match k with
  | _ => .int
abbrev wsJ100 : List Cond := u_ws RJ10 TJ10 0
theorem nmJ10 : ∀ a, a < 0 → ∀ b, b < 0 → a ≠ b → (TJ10 a).2.1 ≠ (TJ10 b).2.1 := by decide +kernel
theorem tyJ10_ok : ∀ k, k < 0 → parseFieldDescriptor (TJ10 k).2.2.1 = some (tyJ10 k) := by decide +kernel
def RJ7 : String := "java/util/Arrays"
def TJ7 : u_T := fun k => match k with
  | _ => ("", "", "", false)
def tyJ7 : Nat → FieldType := fun k => match k with
  | _ => .int
abbrev wsJ70 : List Cond := u_ws RJ7 TJ7 0
theorem nmJ7 : ∀ a, a < 0 → ∀ b, b < 0 → a ≠ b → (TJ7 a).2.1 ≠ (TJ7 b).2.1 := by decide +kernel
theorem tyJ7_ok : ∀ k, k < 0 → parseFieldDescriptor (TJ7 k).2.2.1 = some (tyJ7 k) := by decide +kernel
abbrev cJ7_fill_d0a16 : ByteArray := prog_14_method_101_code
def yJ7_fill_d0a16 : MethodName := ⟨RJ7, "fill", "([JJ)V"⟩
abbrev cJ7_fill_53178 : ByteArray := prog_14_method_103_code
def yJ7_fill_53178 : MethodName := ⟨RJ7, "fill", "([II)V"⟩
def RL : String := "OrderTestsLaw"
abbrev cL_law : ByteArray := code
def yL_law : MethodName := ⟨RL, "law", "([I)Z"⟩
def wsX0_init : List Cond := .code yX0_init cX0_init 1 none :: ([.methodLink RX0 3 objectInit, .instanceMethod objectInit, .code objectInit ⟨#[0xb1]⟩ 1 none, .arrayClass .int, .fieldLink RX0 9 "OrderTests$Findings" "endValues" "[I", .fieldLink RX0 15 "OrderTests$Findings" "endStates" "[I", .fieldLink RX0 18 "OrderTests$Findings" "parents" "[I", .fieldLink RX0 21 "OrderTests$Findings" "steps" "[I"] ++ wsX00)
def wsX0_clear : List Cond := .code yX0_clear cX0_clear 2 none :: ([.fieldLink RX0 24 "OrderTests$Findings" "states" "I", .fieldLink RX0 28 "OrderTests$Findings" "vertices" "I", .fieldLink RX0 31 "OrderTests$Findings" "ends" "I", .fieldLink RX0 34 "OrderTests$Findings" "stepless" "I", .fieldLink RX0 37 "OrderTests$Findings" "mostPending" "I", .fieldLink RX0 40 "OrderTests$Findings" "whole" "Z"] ++ wsX00)
def wsX0_noteEnd : List Cond := .code yX0_noteEnd cX0_noteEnd 3 none :: ([.fieldLink RX0 31 "OrderTests$Findings" "ends" "I", .fieldLink RX0 9 "OrderTests$Findings" "endValues" "[I", .fieldLink RX0 15 "OrderTests$Findings" "endStates" "[I", .fieldLink RX0 24 "OrderTests$Findings" "states" "I"] ++ wsX00)
def wsX0_note : List Cond := .code yX0_note cX0_note 5 none :: ([.fieldLink RX0 24 "OrderTests$Findings" "states" "I", .fieldLink RX0 18 "OrderTests$Findings" "parents" "[I", .fieldLink RX0 21 "OrderTests$Findings" "steps" "[I", .fieldLink RX0 37 "OrderTests$Findings" "mostPending" "I", .methodLink RX0 44 Lib.Math.max.name, .static Lib.Math.max.name, .initialized "java/lang/Math", .code Lib.Math.max.name Lib.Math.max.code 2 (some .int), .fieldLink RX0 34 "OrderTests$Findings" "stepless" "I", .methodLink RX0 50 yX0_noteEnd, .instanceMethod yX0_noteEnd, .selects RX0 yX0_noteEnd yX0_noteEnd, .initialized RX0, .code yX0_noteEnd cX0_noteEnd 3 none, .fieldLink RX0 31 "OrderTests$Findings" "ends" "I", .fieldLink RX0 9 "OrderTests$Findings" "endValues" "[I", .fieldLink RX0 15 "OrderTests$Findings" "endStates" "[I"] ++ wsX00)
def wsX0_hasEnd : List Cond := .code yX0_hasEnd cX0_hasEnd 2 (some .boolean) :: ([.fieldLink RX0 31 "OrderTests$Findings" "ends" "I"] ++ wsX00)
def wsX0_wayLength : List Cond := .code yX0_wayLength cX0_wayLength 4 (some .int) :: ([.fieldLink RX0 15 "OrderTests$Findings" "endStates" "[I", .fieldLink RX0 18 "OrderTests$Findings" "parents" "[I"] ++ wsX00)
def wsX0_stepBefore : List Cond := .code yX0_stepBefore cX0_stepBefore 5 (some .int) :: ([.fieldLink RX0 15 "OrderTests$Findings" "endStates" "[I", .fieldLink RX0 18 "OrderTests$Findings" "parents" "[I", .fieldLink RX0 21 "OrderTests$Findings" "steps" "[I"] ++ wsX00)
def wsX1_init : List Cond := .code yX1_init cX1_init 1 none :: ([.methodLink RX1 3 objectInit, .instanceMethod objectInit, .code objectInit ⟨#[0xb1]⟩ 1 none, .arrayClass .int, .fieldLink RX1 9 "OrderTests$Graph" "begins" "[I", .fieldLink RX1 15 "OrderTests$Graph" "arcFrom" "[I", .fieldLink RX1 18 "OrderTests$Graph" "arcTo" "[I", .fieldLink RX1 21 "OrderTests$Graph" "weights" "[I", .fieldLink RX1 24 "OrderTests$Graph" "firstTo" "[I", .fieldLink RX1 27 "OrderTests$Graph" "firstValue" "[I"] ++ wsX10)
def wsX1_hasVertex : List Cond := .code yX1_hasVertex cX1_hasVertex 2 (some .boolean) :: ([.fieldLink RX1 30 "OrderTests$Graph" "vertices" "I"] ++ wsX10)
def wsX1_allArcs : List Cond := .code yX1_allArcs cX1_allArcs 1 (some .int) :: ([.fieldLink RX1 34 "OrderTests$Graph" "arcs" "I"] ++ wsX10)
def wsX1_addVertex : List Cond := .code yX1_addVertex cX1_addVertex 2 (some .int) :: ([.fieldLink RX1 30 "OrderTests$Graph" "vertices" "I", .fieldLink RX1 9 "OrderTests$Graph" "begins" "[I"] ++ wsX10)
def wsX1_addArc : List Cond := .code yX1_addArc cX1_addArc 4 (some .int) :: ([.fieldLink RX1 34 "OrderTests$Graph" "arcs" "I", .fieldLink RX1 15 "OrderTests$Graph" "arcFrom" "[I", .fieldLink RX1 18 "OrderTests$Graph" "arcTo" "[I", .fieldLink RX1 21 "OrderTests$Graph" "weights" "[I"] ++ wsX10)
def wsX1_addFirst : List Cond := .code yX1_addFirst cX1_addFirst 3 (some .int) :: ([.fieldLink RX1 37 "OrderTests$Graph" "firsts" "I", .fieldLink RX1 24 "OrderTests$Graph" "firstTo" "[I", .fieldLink RX1 27 "OrderTests$Graph" "firstValue" "[I"] ++ wsX10)
def wsX2_init : List Cond := .code yX2_init cX2_init 1 none :: ([.methodLink RX2 3 objectInit, .instanceMethod objectInit, .code objectInit ⟨#[0xb1]⟩ 1 none, .arrayClass .int, .fieldLink RX2 9 "OrderTests$Rules" "settings" "[I", .fieldLink RX2 15 "OrderTests$Rules" "told" "[I"] ++ wsX20)
def wsX2_cell : List Cond := .code yX2_cell cX2_cell 2 (some .int) :: ([])
def wsX2_tell : List Cond := .code yX2_tell cX2_tell 5 (some .int) :: ([.fieldLink RX2 15 "OrderTests$Rules" "told" "[I", .methodLink RX2 18 yX2_cell, .static yX2_cell, .initialized RX2, .code yX2_cell cX2_cell 2 (some .int)] ++ wsX20)
def wsX2_folded : List Cond := .code yX2_folded cX2_folded 3 (some .int) :: ([.fieldLink RX2 9 "OrderTests$Rules" "settings" "[I", .methodLink RX2 22 Lib.Math.min.name, .static Lib.Math.min.name, .initialized "java/lang/Math", .code Lib.Math.min.name Lib.Math.min.code 2 (some .int), .methodLink RX2 27 Lib.Math.max.name, .static Lib.Math.max.name, .code Lib.Math.max.name Lib.Math.max.code 2 (some .int), .fieldLink RX2 15 "OrderTests$Rules" "told" "[I", .methodLink RX2 18 yX2_cell, .static yX2_cell, .initialized RX2, .code yX2_cell cX2_cell 2 (some .int)] ++ wsX20)
def wsX2_sentOut : List Cond := .code yX2_sentOut cX2_sentOut 3 (some .int) :: ([.fieldLink RX2 9 "OrderTests$Rules" "settings" "[I", .methodLink RX2 22 Lib.Math.min.name, .static Lib.Math.min.name, .initialized "java/lang/Math", .code Lib.Math.min.name Lib.Math.min.code 2 (some .int), .methodLink RX2 27 Lib.Math.max.name, .static Lib.Math.max.name, .code Lib.Math.max.name Lib.Math.max.code 2 (some .int)] ++ wsX20)
def wsX2_lawHolds : List Cond := .code yX2_lawHolds cX2_lawHolds 5 (some .boolean) :: ([.methodLink RX2 30 yX2_folded, .instanceMethod yX2_folded, .selects RX2 yX2_folded yX2_folded, .initialized RX2, .code yX2_folded cX2_folded 3 (some .int), .fieldLink RX2 9 "OrderTests$Rules" "settings" "[I", .methodLink RX2 22 Lib.Math.min.name, .static Lib.Math.min.name, .initialized "java/lang/Math", .code Lib.Math.min.name Lib.Math.min.code 2 (some .int), .methodLink RX2 27 Lib.Math.max.name, .static Lib.Math.max.name, .code Lib.Math.max.name Lib.Math.max.code 2 (some .int), .fieldLink RX2 15 "OrderTests$Rules" "told" "[I", .methodLink RX2 18 yX2_cell, .static yX2_cell, .code yX2_cell cX2_cell 2 (some .int)] ++ wsX20)
def wsX5_init : List Cond := .code yX5_init cX5_init 1 none :: ([.methodLink RX5 3 objectInit, .instanceMethod objectInit, .code objectInit ⟨#[0xb1]⟩ 1 none, .arrayClass .long, .fieldLink RX5 9 "OrderTests$States" "heads" "[J", .fieldLink RX5 15 "OrderTests$States" "lengths" "[J", .fieldLink RX5 18 "OrderTests$States" "rows" "[J", .arrayClass .int, .fieldLink RX5 21 "OrderTests$States" "slots" "[I"] ++ wsX50)
def wsX4_init : List Cond := .code yX4_init cX4_init 1 none :: ([.methodLink RX4 5 objectInit, .instanceMethod objectInit, .code objectInit ⟨#[0xb1]⟩ 1 none, .arrayClass .long, .fieldLink RX4 11 "OrderTests$State" "rows" "[J"] ++ wsX40)
def wsX3_init_r1 : List Cond := [Cond.methodLink RX3 3 objectInit, Cond.instanceMethod objectInit, Cond.code objectInit ⟨#[0xb1]⟩ 1 none, Cond.classLink RX3 9 RX5, Cond.instantiable RX5 5, Cond.initialized RX5, Cond.fieldLink RX3 12 "OrderTests$Search" "found" "LOrderTests$States;", Cond.classLink RX3 18 RX4, Cond.instantiable RX4 3, Cond.initialized RX4, Cond.fieldLink RX3 21 "OrderTests$Search" "here" "LOrderTests$State;", Cond.fieldLink RX3 25 "OrderTests$Search" "next" "LOrderTests$State;", Cond.fieldLink RX3 28 "OrderTests$Search" "graph" "LOrderTests$Graph;", Cond.fieldLink RX3 32 "OrderTests$Search" "rules" "LOrderTests$Rules;", Cond.fieldLink RX3 36 "OrderTests$Search" "findings" "LOrderTests$Findings;", Cond.instanceMethod yX5_init, Cond.code yX5_init cX5_init 1 none, Cond.methodLink RX5 3 objectInit, Cond.arrayClass .long, Cond.fieldLink RX5 9 "OrderTests$States" "heads" "[J", Cond.fieldLink RX5 15 "OrderTests$States" "lengths" "[J", Cond.fieldLink RX5 18 "OrderTests$States" "rows" "[J", Cond.arrayClass .int, Cond.fieldLink RX5 21 "OrderTests$States" "slots" "[I"]
def wsX3_init_r2 : List Cond := [Cond.instanceMethod yX4_init, Cond.code yX4_init cX4_init 1 none, Cond.methodLink RX4 5 objectInit, Cond.fieldLink RX4 11 "OrderTests$State" "rows" "[J"]
def wsX3_init : List Cond := .code yX3_init cX3_init 4 none :: ((wsX3_init_r1 ++ wsX3_init_r2) ++ wsX50 ++ wsX30 ++ wsX40)
def wsJ7_fill_53178 : List Cond := .code yJ7_fill_53178 cJ7_fill_53178 4 none :: ([])
def wsX5_clear : List Cond := .code yX5_clear cX5_clear 1 none :: ([.fieldLink RX5 25 "OrderTests$States" "count" "I", .fieldLink RX5 21 "OrderTests$States" "slots" "[I", .methodLink RX5 29 yJ7_fill_53178, .static yJ7_fill_53178, .initialized RJ7, .code yJ7_fill_53178 cJ7_fill_53178 4 none] ++ wsX50)
def wsJ7_fill_d0a16 : List Cond := .code yJ7_fill_d0a16 cJ7_fill_d0a16 5 none :: ([])
def wsX4_begin : List Cond := .code yX4_begin cX4_begin 4 none :: ([.fieldLink RX4 15 "OrderTests$State" "head" "J", .fieldLink RX4 19 "OrderTests$Graph" "vertices" "I", .fieldLink RX4 25 "OrderTests$Graph" "begins" "[I", .fieldLink RX4 29 "OrderTests$State" "lengths" "J", .fieldLink RX4 11 "OrderTests$State" "rows" "[J", .methodLink RX4 32 yJ7_fill_d0a16, .static yJ7_fill_d0a16, .initialized RJ7, .code yJ7_fill_d0a16 cJ7_fill_d0a16 5 none] ++ wsX40 ++ wsX10)
def wsX4_hash : List Cond := .code yX4_hash cX4_hash 4 (some .int) :: ([.fieldLink RX4 15 "OrderTests$State" "head" "J", .fieldLink RX4 29 "OrderTests$State" "lengths" "J", .constantLong RX4 66 (-7046029254386353131), .fieldLink RX4 11 "OrderTests$State" "rows" "[J"] ++ wsX40)
def wsX5_isLike : List Cond := .code yX5_isLike cX5_isLike 4 (some .boolean) :: ([.fieldLink RX5 9 "OrderTests$States" "heads" "[J", .fieldLink RX5 45 "OrderTests$State" "head" "J", .fieldLink RX5 15 "OrderTests$States" "lengths" "[J", .fieldLink RX5 49 "OrderTests$State" "lengths" "J", .fieldLink RX5 18 "OrderTests$States" "rows" "[J", .fieldLink RX5 51 "OrderTests$State" "rows" "[J"] ++ wsX50 ++ wsX40)
def wsX5_freeSlot : List Cond := .code yX5_freeSlot cX5_freeSlot 5 (some .int) :: ([.fieldLink RX5 21 "OrderTests$States" "slots" "[I", .methodLink RX5 35 yX4_hash, .instanceMethod yX4_hash, .selects RX4 yX4_hash yX4_hash, .initialized RX4, .code yX4_hash cX4_hash 4 (some .int), .fieldLink RX4 15 "OrderTests$State" "head" "J", .fieldLink RX4 29 "OrderTests$State" "lengths" "J", .constantLong RX4 66 (-7046029254386353131), .fieldLink RX4 11 "OrderTests$State" "rows" "[J", .methodLink RX5 41 yX5_isLike, .instanceMethod yX5_isLike, .selects RX5 yX5_isLike yX5_isLike, .initialized RX5, .code yX5_isLike cX5_isLike 4 (some .boolean), .fieldLink RX5 9 "OrderTests$States" "heads" "[J", .fieldLink RX5 45 "OrderTests$State" "head" "J", .fieldLink RX5 15 "OrderTests$States" "lengths" "[J", .fieldLink RX5 49 "OrderTests$State" "lengths" "J", .fieldLink RX5 18 "OrderTests$States" "rows" "[J", .fieldLink RX5 51 "OrderTests$State" "rows" "[J"] ++ wsX50 ++ wsX40)
def wsX5_add : List Cond := .code yX5_add cX5_add 3 none :: ([.fieldLink RX5 25 "OrderTests$States" "count" "I", .fieldLink RX5 9 "OrderTests$States" "heads" "[J", .fieldLink RX5 45 "OrderTests$State" "head" "J", .fieldLink RX5 15 "OrderTests$States" "lengths" "[J", .fieldLink RX5 49 "OrderTests$State" "lengths" "J", .fieldLink RX5 51 "OrderTests$State" "rows" "[J", .fieldLink RX5 18 "OrderTests$States" "rows" "[J", .methodLink RX5 52 arraycopyName, .native arraycopyName, .static arraycopyName, .initialized "java/lang/System", .fieldLink RX5 21 "OrderTests$States" "slots" "[I"] ++ wsX50 ++ wsX40)
def wsJ13_bitCount_95d88 : List Cond := .code yJ13_bitCount_95d88 cJ13_bitCount_95d88 2 (some .int) :: ([.constantLong RJ13 314 (6148914691236517205), .constantLong RJ13 316 (3689348814741910323), .constantLong RJ13 318 (1085102592571150095)])
def wsX4_underWay : List Cond := .code yX4_underWay cX4_underWay 2 (some .int) :: ([.fieldLink RX4 29 "OrderTests$State" "lengths" "J"] ++ wsX40)
def wsX4_pending : List Cond := .code yX4_pending cX4_pending 4 (some .int) :: ([.fieldLink RX4 15 "OrderTests$State" "head" "J", .constantLong RX4 58 (15), .methodLink RX4 60 yJ13_bitCount_95d88, .static yJ13_bitCount_95d88, .initialized RJ13, .code yJ13_bitCount_95d88 cJ13_bitCount_95d88 2 (some .int), .constantLong RJ13 314 (6148914691236517205), .constantLong RJ13 316 (3689348814741910323), .constantLong RJ13 318 (1085102592571150095), .methodLink RX4 51 yX4_underWay, .instanceMethod yX4_underWay, .selects RX4 yX4_underWay yX4_underWay, .initialized RX4, .code yX4_underWay cX4_underWay 2 (some .int), .fieldLink RX4 29 "OrderTests$State" "lengths" "J"] ++ wsX40)
def wsX4_allValues : List Cond := .code yX4_allValues cX4_allValues 1 (some .int) :: ([.fieldLink RX4 15 "OrderTests$State" "head" "J", .constant RX4 44 (1048575)] ++ wsX40)
def wsX3_keepNext_r1 : List Cond := [Cond.fieldLink RX3 12 "OrderTests$Search" "found" "LOrderTests$States;", Cond.fieldLink RX3 25 "OrderTests$Search" "next" "LOrderTests$State;", Cond.fieldLink RX3 78 "OrderTests$States" "count" "I", Cond.fieldLink RX3 40 "OrderTests$Search" "limit" "I", Cond.fieldLink RX3 47 "OrderTests$Search" "isFull" "Z", Cond.fieldLink RX3 36 "OrderTests$Search" "findings" "LOrderTests$Findings;", Cond.fieldLink RX3 28 "OrderTests$Search" "graph" "LOrderTests$Graph;", Cond.fieldLink RX3 95 "OrderTests$Graph" "firsts" "I", Cond.methodLink RX3 179 yX5_freeSlot, Cond.instanceMethod yX5_freeSlot, Cond.selects RX5 yX5_freeSlot yX5_freeSlot, Cond.initialized RX5, Cond.code yX5_freeSlot cX5_freeSlot 5 (some .int), Cond.fieldLink RX5 21 "OrderTests$States" "slots" "[I", Cond.methodLink RX5 35 yX4_hash, Cond.instanceMethod yX4_hash, Cond.selects RX4 yX4_hash yX4_hash, Cond.initialized RX4, Cond.code yX4_hash cX4_hash 4 (some .int), Cond.fieldLink RX4 15 "OrderTests$State" "head" "J", Cond.fieldLink RX4 29 "OrderTests$State" "lengths" "J", Cond.constantLong RX4 66 (-7046029254386353131), Cond.fieldLink RX4 11 "OrderTests$State" "rows" "[J", Cond.methodLink RX5 41 yX5_isLike]
def wsX3_keepNext_r2 : List Cond := [Cond.instanceMethod yX5_isLike, Cond.selects RX5 yX5_isLike yX5_isLike, Cond.code yX5_isLike cX5_isLike 4 (some .boolean), Cond.fieldLink RX5 9 "OrderTests$States" "heads" "[J", Cond.fieldLink RX5 45 "OrderTests$State" "head" "J", Cond.fieldLink RX5 15 "OrderTests$States" "lengths" "[J", Cond.fieldLink RX5 49 "OrderTests$State" "lengths" "J", Cond.fieldLink RX5 18 "OrderTests$States" "rows" "[J", Cond.fieldLink RX5 51 "OrderTests$State" "rows" "[J", Cond.methodLink RX3 183 yX5_add, Cond.instanceMethod yX5_add, Cond.selects RX5 yX5_add yX5_add, Cond.code yX5_add cX5_add 3 none, Cond.fieldLink RX5 25 "OrderTests$States" "count" "I", Cond.methodLink RX5 52 arraycopyName, Cond.native arraycopyName, Cond.static arraycopyName, Cond.initialized "java/lang/System", Cond.methodLink RX3 187 yX4_pending, Cond.instanceMethod yX4_pending, Cond.selects RX4 yX4_pending yX4_pending, Cond.code yX4_pending cX4_pending 4 (some .int), Cond.constantLong RX4 58 (15), Cond.methodLink RX4 60 yJ13_bitCount_95d88]
def wsX3_keepNext_r3 : List Cond := [Cond.static yJ13_bitCount_95d88, Cond.initialized RJ13, Cond.code yJ13_bitCount_95d88 cJ13_bitCount_95d88 2 (some .int), Cond.constantLong RJ13 314 (6148914691236517205), Cond.constantLong RJ13 316 (3689348814741910323), Cond.constantLong RJ13 318 (1085102592571150095), Cond.methodLink RX4 51 yX4_underWay, Cond.instanceMethod yX4_underWay, Cond.selects RX4 yX4_underWay yX4_underWay, Cond.code yX4_underWay cX4_underWay 2 (some .int), Cond.methodLink RX3 190 yX4_allValues, Cond.instanceMethod yX4_allValues, Cond.selects RX4 yX4_allValues yX4_allValues, Cond.code yX4_allValues cX4_allValues 1 (some .int), Cond.constant RX4 44 (1048575), Cond.methodLink RX3 193 yX0_note, Cond.instanceMethod yX0_note, Cond.selects RX0 yX0_note yX0_note, Cond.initialized RX0, Cond.code yX0_note cX0_note 5 none, Cond.fieldLink RX0 24 "OrderTests$Findings" "states" "I", Cond.fieldLink RX0 18 "OrderTests$Findings" "parents" "[I", Cond.fieldLink RX0 21 "OrderTests$Findings" "steps" "[I", Cond.fieldLink RX0 37 "OrderTests$Findings" "mostPending" "I"]
def wsX3_keepNext_r4 : List Cond := [Cond.methodLink RX0 44 Lib.Math.max.name, Cond.static Lib.Math.max.name, Cond.initialized "java/lang/Math", Cond.code Lib.Math.max.name Lib.Math.max.code 2 (some .int), Cond.fieldLink RX0 34 "OrderTests$Findings" "stepless" "I", Cond.methodLink RX0 50 yX0_noteEnd, Cond.instanceMethod yX0_noteEnd, Cond.selects RX0 yX0_noteEnd yX0_noteEnd, Cond.code yX0_noteEnd cX0_noteEnd 3 none, Cond.fieldLink RX0 31 "OrderTests$Findings" "ends" "I", Cond.fieldLink RX0 9 "OrderTests$Findings" "endValues" "[I", Cond.fieldLink RX0 15 "OrderTests$Findings" "endStates" "[I"]
def wsX3_keepNext : List Cond := .code yX3_keepNext cX3_keepNext 4 none :: ((wsX3_keepNext_r1 ++ (wsX3_keepNext_r2 ++ (wsX3_keepNext_r3 ++ wsX3_keepNext_r4))) ++ wsX30 ++ wsX50 ++ wsX10 ++ wsX40 ++ wsX00)
def wsX5_load : List Cond := .code yX5_load cX5_load 3 none :: ([.fieldLink RX5 9 "OrderTests$States" "heads" "[J", .fieldLink RX5 45 "OrderTests$State" "head" "J", .fieldLink RX5 15 "OrderTests$States" "lengths" "[J", .fieldLink RX5 49 "OrderTests$State" "lengths" "J", .fieldLink RX5 18 "OrderTests$States" "rows" "[J", .fieldLink RX5 51 "OrderTests$State" "rows" "[J", .methodLink RX5 52 arraycopyName, .native arraycopyName, .static arraycopyName, .initialized "java/lang/System"] ++ wsX50 ++ wsX40)
def wsX4_doublesLeft : List Cond := .code yX4_doublesLeft cX4_doublesLeft 1 (some .int) :: ([.fieldLink RX4 15 "OrderTests$State" "head" "J"] ++ wsX40)
def wsX4_hasCome : List Cond := .code yX4_hasCome cX4_hasCome 2 (some .boolean) :: ([.fieldLink RX4 15 "OrderTests$State" "head" "J"] ++ wsX40)
def wsX4_copy : List Cond := .code yX4_copy cX4_copy 2 none :: ([.fieldLink RX4 15 "OrderTests$State" "head" "J", .fieldLink RX4 29 "OrderTests$State" "lengths" "J", .fieldLink RX4 11 "OrderTests$State" "rows" "[J", .methodLink RX4 38 arraycopyName, .native arraycopyName, .static arraycopyName, .initialized "java/lang/System"] ++ wsX40)
def wsX4_useDouble : List Cond := .code yX4_useDouble cX4_useDouble 1 none :: ([.fieldLink RX4 15 "OrderTests$State" "head" "J", .constantLong RX4 49 (562949953421312)] ++ wsX40)
def wsX4_markCome : List Cond := .code yX4_markCome cX4_markCome 2 none :: ([.fieldLink RX4 15 "OrderTests$State" "head" "J"] ++ wsX40)
def wsX4_take : List Cond := .code yX4_take cX4_take 10 none :: ([.fieldLink RX4 11 "OrderTests$State" "rows" "[J", .fieldLink RX4 29 "OrderTests$State" "lengths" "J"] ++ wsX40)
def wsX4_messageAt : List Cond := .code yX4_messageAt cX4_messageAt 3 (some .int) :: ([.fieldLink RX4 11 "OrderTests$State" "rows" "[J"] ++ wsX40)
def wsX4_valueOf : List Cond := .code yX4_valueOf cX4_valueOf 2 (some .int) :: ([.fieldLink RX4 15 "OrderTests$State" "head" "J"] ++ wsX40)
def wsX4_change : List Cond := .code yX4_change cX4_change 3 none :: ([.fieldLink RX4 15 "OrderTests$State" "head" "J", .methodLink RX4 45 yX4_valueOf, .instanceMethod yX4_valueOf, .selects RX4 yX4_valueOf yX4_valueOf, .initialized RX4, .code yX4_valueOf cX4_valueOf 2 (some .int)] ++ wsX40)
def wsX4_sentBy : List Cond := .code yX4_sentBy cX4_sentBy 2 (some .int) :: ([.fieldLink RX4 15 "OrderTests$State" "head" "J"] ++ wsX40)
def wsX4_countSend : List Cond := .code yX4_countSend cX4_countSend 2 none :: ([.fieldLink RX4 15 "OrderTests$State" "head" "J"] ++ wsX40)
def wsX4_put : List Cond := .code yX4_put cX4_put 13 none :: ([.fieldLink RX4 11 "OrderTests$State" "rows" "[J", .fieldLink RX4 29 "OrderTests$State" "lengths" "J", .methodLink RX4 51 yX4_underWay, .instanceMethod yX4_underWay, .selects RX4 yX4_underWay yX4_underWay, .initialized RX4, .code yX4_underWay cX4_underWay 2 (some .int), .methodLink RX4 54 yX4_messageAt, .instanceMethod yX4_messageAt, .selects RX4 yX4_messageAt yX4_messageAt, .code yX4_messageAt cX4_messageAt 3 (some .int)] ++ wsX40)
def wsX3_deliver_r1 : List Cond := [Cond.fieldLink RX3 25 "OrderTests$Search" "next" "LOrderTests$State;", Cond.fieldLink RX3 32 "OrderTests$Search" "rules" "LOrderTests$Rules;", Cond.fieldLink RX3 64 "OrderTests$Rules" "settings" "[I", Cond.fieldLink RX3 28 "OrderTests$Search" "graph" "LOrderTests$Graph;", Cond.fieldLink RX3 106 "OrderTests$Graph" "arcs" "I", Cond.fieldLink RX3 166 "OrderTests$Graph" "arcFrom" "[I", Cond.fieldLink RX3 44 "OrderTests$Search" "staying" "I", Cond.fieldLink RX3 169 "OrderTests$Graph" "weights" "[I", Cond.methodLink RX3 151 yX4_valueOf, Cond.instanceMethod yX4_valueOf, Cond.selects RX4 yX4_valueOf yX4_valueOf, Cond.initialized RX4, Cond.code yX4_valueOf cX4_valueOf 2 (some .int), Cond.fieldLink RX4 15 "OrderTests$State" "head" "J", Cond.methodLink RX3 154 yX2_folded, Cond.instanceMethod yX2_folded, Cond.selects RX2 yX2_folded yX2_folded, Cond.initialized RX2, Cond.code yX2_folded cX2_folded 3 (some .int), Cond.fieldLink RX2 9 "OrderTests$Rules" "settings" "[I", Cond.methodLink RX2 22 Lib.Math.min.name, Cond.static Lib.Math.min.name, Cond.initialized "java/lang/Math", Cond.code Lib.Math.min.name Lib.Math.min.code 2 (some .int)]
def wsX3_deliver_r2 : List Cond := [Cond.methodLink RX2 27 Lib.Math.max.name, Cond.static Lib.Math.max.name, Cond.code Lib.Math.max.name Lib.Math.max.code 2 (some .int), Cond.fieldLink RX2 15 "OrderTests$Rules" "told" "[I", Cond.methodLink RX2 18 yX2_cell, Cond.static yX2_cell, Cond.code yX2_cell cX2_cell 2 (some .int), Cond.methodLink RX3 157 yX4_change, Cond.instanceMethod yX4_change, Cond.selects RX4 yX4_change yX4_change, Cond.code yX4_change cX4_change 3 none, Cond.methodLink RX4 45 yX4_valueOf, Cond.methodLink RX3 160 yX4_sentBy, Cond.instanceMethod yX4_sentBy, Cond.selects RX4 yX4_sentBy yX4_sentBy, Cond.code yX4_sentBy cX4_sentBy 2 (some .int), Cond.methodLink RX3 163 yX4_countSend, Cond.instanceMethod yX4_countSend, Cond.selects RX4 yX4_countSend yX4_countSend, Cond.code yX4_countSend cX4_countSend 2 none, Cond.methodLink RX3 172 yX2_sentOut, Cond.instanceMethod yX2_sentOut, Cond.selects RX2 yX2_sentOut yX2_sentOut, Cond.code yX2_sentOut cX2_sentOut 3 (some .int)]
def wsX3_deliver_r3 : List Cond := [Cond.methodLink RX3 175 yX4_put, Cond.instanceMethod yX4_put, Cond.selects RX4 yX4_put yX4_put, Cond.code yX4_put cX4_put 13 none, Cond.fieldLink RX4 11 "OrderTests$State" "rows" "[J", Cond.fieldLink RX4 29 "OrderTests$State" "lengths" "J", Cond.methodLink RX4 51 yX4_underWay, Cond.instanceMethod yX4_underWay, Cond.selects RX4 yX4_underWay yX4_underWay, Cond.code yX4_underWay cX4_underWay 2 (some .int), Cond.methodLink RX4 54 yX4_messageAt, Cond.instanceMethod yX4_messageAt, Cond.selects RX4 yX4_messageAt yX4_messageAt, Cond.code yX4_messageAt cX4_messageAt 3 (some .int)]
def wsX3_deliver : List Cond := .code yX3_deliver cX3_deliver 7 none :: ((wsX3_deliver_r1 ++ (wsX3_deliver_r2 ++ wsX3_deliver_r3)) ++ wsX30 ++ wsX20 ++ wsX10 ++ wsX40)
def wsX6_of : List Cond := .code yX6_of cX6_of 3 (some .int) :: ([])
def wsX3_take_r1 : List Cond := [Cond.fieldLink RX3 47 "OrderTests$Search" "isFull" "Z", Cond.fieldLink RX3 25 "OrderTests$Search" "next" "LOrderTests$State;", Cond.fieldLink RX3 21 "OrderTests$Search" "here" "LOrderTests$State;", Cond.fieldLink RX3 28 "OrderTests$Search" "graph" "LOrderTests$Graph;", Cond.fieldLink RX3 133 "OrderTests$Graph" "firstValue" "[I", Cond.fieldLink RX3 136 "OrderTests$Graph" "firstTo" "[I", Cond.fieldLink RX3 139 "OrderTests$Graph" "arcTo" "[I", Cond.methodLink RX3 121 yX4_copy, Cond.instanceMethod yX4_copy, Cond.selects RX4 yX4_copy yX4_copy, Cond.initialized RX4, Cond.code yX4_copy cX4_copy 2 none, Cond.fieldLink RX4 15 "OrderTests$State" "head" "J", Cond.fieldLink RX4 29 "OrderTests$State" "lengths" "J", Cond.fieldLink RX4 11 "OrderTests$State" "rows" "[J", Cond.methodLink RX4 38 arraycopyName, Cond.native arraycopyName, Cond.static arraycopyName, Cond.initialized "java/lang/System", Cond.methodLink RX3 125 yX4_useDouble, Cond.instanceMethod yX4_useDouble, Cond.selects RX4 yX4_useDouble yX4_useDouble, Cond.code yX4_useDouble cX4_useDouble 1 none, Cond.constantLong RX4 49 (562949953421312)]
def wsX3_take_r2 : List Cond := [Cond.methodLink RX3 128 yX4_markCome, Cond.instanceMethod yX4_markCome, Cond.selects RX4 yX4_markCome yX4_markCome, Cond.code yX4_markCome cX4_markCome 2 none, Cond.methodLink RX3 131 yX4_take, Cond.instanceMethod yX4_take, Cond.selects RX4 yX4_take yX4_take, Cond.code yX4_take cX4_take 10 none, Cond.methodLink RX3 117 yX4_messageAt, Cond.instanceMethod yX4_messageAt, Cond.selects RX4 yX4_messageAt yX4_messageAt, Cond.code yX4_messageAt cX4_messageAt 3 (some .int), Cond.methodLink RX3 142 yX3_deliver, Cond.instanceMethod yX3_deliver, Cond.selects RX3 yX3_deliver yX3_deliver, Cond.initialized RX3, Cond.code yX3_deliver cX3_deliver 7 none, Cond.fieldLink RX3 32 "OrderTests$Search" "rules" "LOrderTests$Rules;", Cond.fieldLink RX3 64 "OrderTests$Rules" "settings" "[I", Cond.fieldLink RX3 106 "OrderTests$Graph" "arcs" "I", Cond.fieldLink RX3 166 "OrderTests$Graph" "arcFrom" "[I", Cond.fieldLink RX3 44 "OrderTests$Search" "staying" "I", Cond.fieldLink RX3 169 "OrderTests$Graph" "weights" "[I", Cond.methodLink RX3 151 yX4_valueOf]
def wsX3_take_r3 : List Cond := [Cond.instanceMethod yX4_valueOf, Cond.selects RX4 yX4_valueOf yX4_valueOf, Cond.code yX4_valueOf cX4_valueOf 2 (some .int), Cond.methodLink RX3 154 yX2_folded, Cond.instanceMethod yX2_folded, Cond.selects RX2 yX2_folded yX2_folded, Cond.initialized RX2, Cond.code yX2_folded cX2_folded 3 (some .int), Cond.fieldLink RX2 9 "OrderTests$Rules" "settings" "[I", Cond.methodLink RX2 22 Lib.Math.min.name, Cond.static Lib.Math.min.name, Cond.initialized "java/lang/Math", Cond.code Lib.Math.min.name Lib.Math.min.code 2 (some .int), Cond.methodLink RX2 27 Lib.Math.max.name, Cond.static Lib.Math.max.name, Cond.code Lib.Math.max.name Lib.Math.max.code 2 (some .int), Cond.fieldLink RX2 15 "OrderTests$Rules" "told" "[I", Cond.methodLink RX2 18 yX2_cell, Cond.static yX2_cell, Cond.code yX2_cell cX2_cell 2 (some .int), Cond.methodLink RX3 157 yX4_change, Cond.instanceMethod yX4_change, Cond.selects RX4 yX4_change yX4_change, Cond.code yX4_change cX4_change 3 none]
def wsX3_take_r4 : List Cond := [Cond.methodLink RX4 45 yX4_valueOf, Cond.methodLink RX3 160 yX4_sentBy, Cond.instanceMethod yX4_sentBy, Cond.selects RX4 yX4_sentBy yX4_sentBy, Cond.code yX4_sentBy cX4_sentBy 2 (some .int), Cond.methodLink RX3 163 yX4_countSend, Cond.instanceMethod yX4_countSend, Cond.selects RX4 yX4_countSend yX4_countSend, Cond.code yX4_countSend cX4_countSend 2 none, Cond.methodLink RX3 172 yX2_sentOut, Cond.instanceMethod yX2_sentOut, Cond.selects RX2 yX2_sentOut yX2_sentOut, Cond.code yX2_sentOut cX2_sentOut 3 (some .int), Cond.methodLink RX3 175 yX4_put, Cond.instanceMethod yX4_put, Cond.selects RX4 yX4_put yX4_put, Cond.code yX4_put cX4_put 13 none, Cond.methodLink RX4 51 yX4_underWay, Cond.instanceMethod yX4_underWay, Cond.selects RX4 yX4_underWay yX4_underWay, Cond.code yX4_underWay cX4_underWay 2 (some .int), Cond.methodLink RX4 54 yX4_messageAt, Cond.methodLink RX3 145 yX6_of, Cond.static yX6_of]
def wsX3_take_r5 : List Cond := [Cond.initialized RX6, Cond.code yX6_of cX6_of 3 (some .int), Cond.methodLink RX3 74 yX3_keepNext, Cond.instanceMethod yX3_keepNext, Cond.selects RX3 yX3_keepNext yX3_keepNext, Cond.code yX3_keepNext cX3_keepNext 4 none, Cond.fieldLink RX3 12 "OrderTests$Search" "found" "LOrderTests$States;", Cond.fieldLink RX3 78 "OrderTests$States" "count" "I", Cond.fieldLink RX3 40 "OrderTests$Search" "limit" "I", Cond.fieldLink RX3 36 "OrderTests$Search" "findings" "LOrderTests$Findings;", Cond.fieldLink RX3 95 "OrderTests$Graph" "firsts" "I", Cond.methodLink RX3 179 yX5_freeSlot, Cond.instanceMethod yX5_freeSlot, Cond.selects RX5 yX5_freeSlot yX5_freeSlot, Cond.initialized RX5, Cond.code yX5_freeSlot cX5_freeSlot 5 (some .int), Cond.fieldLink RX5 21 "OrderTests$States" "slots" "[I", Cond.methodLink RX5 35 yX4_hash, Cond.instanceMethod yX4_hash, Cond.selects RX4 yX4_hash yX4_hash, Cond.code yX4_hash cX4_hash 4 (some .int), Cond.constantLong RX4 66 (-7046029254386353131), Cond.methodLink RX5 41 yX5_isLike, Cond.instanceMethod yX5_isLike]
def wsX3_take_r6 : List Cond := [Cond.selects RX5 yX5_isLike yX5_isLike, Cond.code yX5_isLike cX5_isLike 4 (some .boolean), Cond.fieldLink RX5 9 "OrderTests$States" "heads" "[J", Cond.fieldLink RX5 45 "OrderTests$State" "head" "J", Cond.fieldLink RX5 15 "OrderTests$States" "lengths" "[J", Cond.fieldLink RX5 49 "OrderTests$State" "lengths" "J", Cond.fieldLink RX5 18 "OrderTests$States" "rows" "[J", Cond.fieldLink RX5 51 "OrderTests$State" "rows" "[J", Cond.methodLink RX3 183 yX5_add, Cond.instanceMethod yX5_add, Cond.selects RX5 yX5_add yX5_add, Cond.code yX5_add cX5_add 3 none, Cond.fieldLink RX5 25 "OrderTests$States" "count" "I", Cond.methodLink RX5 52 arraycopyName, Cond.methodLink RX3 187 yX4_pending, Cond.instanceMethod yX4_pending, Cond.selects RX4 yX4_pending yX4_pending, Cond.code yX4_pending cX4_pending 4 (some .int), Cond.constantLong RX4 58 (15), Cond.methodLink RX4 60 yJ13_bitCount_95d88, Cond.static yJ13_bitCount_95d88, Cond.initialized RJ13, Cond.code yJ13_bitCount_95d88 cJ13_bitCount_95d88 2 (some .int), Cond.constantLong RJ13 314 (6148914691236517205)]
def wsX3_take_r7 : List Cond := [Cond.constantLong RJ13 316 (3689348814741910323), Cond.constantLong RJ13 318 (1085102592571150095), Cond.methodLink RX3 190 yX4_allValues, Cond.instanceMethod yX4_allValues, Cond.selects RX4 yX4_allValues yX4_allValues, Cond.code yX4_allValues cX4_allValues 1 (some .int), Cond.constant RX4 44 (1048575), Cond.methodLink RX3 193 yX0_note, Cond.instanceMethod yX0_note, Cond.selects RX0 yX0_note yX0_note, Cond.initialized RX0, Cond.code yX0_note cX0_note 5 none, Cond.fieldLink RX0 24 "OrderTests$Findings" "states" "I", Cond.fieldLink RX0 18 "OrderTests$Findings" "parents" "[I", Cond.fieldLink RX0 21 "OrderTests$Findings" "steps" "[I", Cond.fieldLink RX0 37 "OrderTests$Findings" "mostPending" "I", Cond.methodLink RX0 44 Lib.Math.max.name, Cond.fieldLink RX0 34 "OrderTests$Findings" "stepless" "I", Cond.methodLink RX0 50 yX0_noteEnd, Cond.instanceMethod yX0_noteEnd, Cond.selects RX0 yX0_noteEnd yX0_noteEnd, Cond.code yX0_noteEnd cX0_noteEnd 3 none, Cond.fieldLink RX0 31 "OrderTests$Findings" "ends" "I", Cond.fieldLink RX0 9 "OrderTests$Findings" "endValues" "[I"]
def wsX3_take_r8 : List Cond := [Cond.fieldLink RX0 15 "OrderTests$Findings" "endStates" "[I"]
def wsX3_take : List Cond := .code yX3_take cX3_take 8 none :: ((wsX3_take_r1 ++ (wsX3_take_r2 ++ (wsX3_take_r3 ++ (wsX3_take_r4 ++ (wsX3_take_r5 ++ (wsX3_take_r6 ++ (wsX3_take_r7 ++ wsX3_take_r8))))))) ++ wsX30 ++ wsX10 ++ wsX40 ++ wsX20 ++ wsX50 ++ wsX00)
def wsX3_isStep : List Cond := .code yX3_isStep cX3_isStep 3 (some .boolean) :: ([.fieldLink RX3 32 "OrderTests$Search" "rules" "LOrderTests$Rules;", .fieldLink RX3 64 "OrderTests$Rules" "settings" "[I", .fieldLink RX3 21 "OrderTests$Search" "here" "LOrderTests$State;", .methodLink RX3 117 yX4_messageAt, .instanceMethod yX4_messageAt, .selects RX4 yX4_messageAt yX4_messageAt, .initialized RX4, .code yX4_messageAt cX4_messageAt 3 (some .int), .fieldLink RX4 11 "OrderTests$State" "rows" "[J"] ++ wsX30 ++ wsX20 ++ wsX40)
def wsX3_goThrough_r1 : List Cond := [Cond.fieldLink RX3 12 "OrderTests$Search" "found" "LOrderTests$States;", Cond.fieldLink RX3 21 "OrderTests$Search" "here" "LOrderTests$State;", Cond.fieldLink RX3 28 "OrderTests$Search" "graph" "LOrderTests$Graph;", Cond.fieldLink RX3 95 "OrderTests$Graph" "firsts" "I", Cond.fieldLink RX3 106 "OrderTests$Graph" "arcs" "I", Cond.methodLink RX3 87 yX5_load, Cond.instanceMethod yX5_load, Cond.selects RX5 yX5_load yX5_load, Cond.initialized RX5, Cond.code yX5_load cX5_load 3 none, Cond.fieldLink RX5 9 "OrderTests$States" "heads" "[J", Cond.fieldLink RX5 45 "OrderTests$State" "head" "J", Cond.fieldLink RX5 15 "OrderTests$States" "lengths" "[J", Cond.fieldLink RX5 49 "OrderTests$State" "lengths" "J", Cond.fieldLink RX5 18 "OrderTests$States" "rows" "[J", Cond.fieldLink RX5 51 "OrderTests$State" "rows" "[J", Cond.methodLink RX5 52 arraycopyName, Cond.native arraycopyName, Cond.static arraycopyName, Cond.initialized "java/lang/System", Cond.methodLink RX3 91 yX4_doublesLeft, Cond.instanceMethod yX4_doublesLeft, Cond.selects RX4 yX4_doublesLeft yX4_doublesLeft, Cond.initialized RX4]
def wsX3_goThrough_r2 : List Cond := [Cond.code yX4_doublesLeft cX4_doublesLeft 1 (some .int), Cond.fieldLink RX4 15 "OrderTests$State" "head" "J", Cond.methodLink RX3 98 yX4_hasCome, Cond.instanceMethod yX4_hasCome, Cond.selects RX4 yX4_hasCome yX4_hasCome, Cond.code yX4_hasCome cX4_hasCome 2 (some .boolean), Cond.methodLink RX3 102 yX3_take, Cond.instanceMethod yX3_take, Cond.selects RX3 yX3_take yX3_take, Cond.initialized RX3, Cond.code yX3_take cX3_take 8 none, Cond.fieldLink RX3 47 "OrderTests$Search" "isFull" "Z", Cond.fieldLink RX3 25 "OrderTests$Search" "next" "LOrderTests$State;", Cond.fieldLink RX3 133 "OrderTests$Graph" "firstValue" "[I", Cond.fieldLink RX3 136 "OrderTests$Graph" "firstTo" "[I", Cond.fieldLink RX3 139 "OrderTests$Graph" "arcTo" "[I", Cond.methodLink RX3 121 yX4_copy, Cond.instanceMethod yX4_copy, Cond.selects RX4 yX4_copy yX4_copy, Cond.code yX4_copy cX4_copy 2 none, Cond.fieldLink RX4 29 "OrderTests$State" "lengths" "J", Cond.fieldLink RX4 11 "OrderTests$State" "rows" "[J", Cond.methodLink RX4 38 arraycopyName, Cond.methodLink RX3 125 yX4_useDouble]
def wsX3_goThrough_r3 : List Cond := [Cond.instanceMethod yX4_useDouble, Cond.selects RX4 yX4_useDouble yX4_useDouble, Cond.code yX4_useDouble cX4_useDouble 1 none, Cond.constantLong RX4 49 (562949953421312), Cond.methodLink RX3 128 yX4_markCome, Cond.instanceMethod yX4_markCome, Cond.selects RX4 yX4_markCome yX4_markCome, Cond.code yX4_markCome cX4_markCome 2 none, Cond.methodLink RX3 131 yX4_take, Cond.instanceMethod yX4_take, Cond.selects RX4 yX4_take yX4_take, Cond.code yX4_take cX4_take 10 none, Cond.methodLink RX3 117 yX4_messageAt, Cond.instanceMethod yX4_messageAt, Cond.selects RX4 yX4_messageAt yX4_messageAt, Cond.code yX4_messageAt cX4_messageAt 3 (some .int), Cond.methodLink RX3 142 yX3_deliver, Cond.instanceMethod yX3_deliver, Cond.selects RX3 yX3_deliver yX3_deliver, Cond.code yX3_deliver cX3_deliver 7 none, Cond.fieldLink RX3 32 "OrderTests$Search" "rules" "LOrderTests$Rules;", Cond.fieldLink RX3 64 "OrderTests$Rules" "settings" "[I", Cond.fieldLink RX3 166 "OrderTests$Graph" "arcFrom" "[I", Cond.fieldLink RX3 44 "OrderTests$Search" "staying" "I"]
def wsX3_goThrough_r4 : List Cond := [Cond.fieldLink RX3 169 "OrderTests$Graph" "weights" "[I", Cond.methodLink RX3 151 yX4_valueOf, Cond.instanceMethod yX4_valueOf, Cond.selects RX4 yX4_valueOf yX4_valueOf, Cond.code yX4_valueOf cX4_valueOf 2 (some .int), Cond.methodLink RX3 154 yX2_folded, Cond.instanceMethod yX2_folded, Cond.selects RX2 yX2_folded yX2_folded, Cond.initialized RX2, Cond.code yX2_folded cX2_folded 3 (some .int), Cond.fieldLink RX2 9 "OrderTests$Rules" "settings" "[I", Cond.methodLink RX2 22 Lib.Math.min.name, Cond.static Lib.Math.min.name, Cond.initialized "java/lang/Math", Cond.code Lib.Math.min.name Lib.Math.min.code 2 (some .int), Cond.methodLink RX2 27 Lib.Math.max.name, Cond.static Lib.Math.max.name, Cond.code Lib.Math.max.name Lib.Math.max.code 2 (some .int), Cond.fieldLink RX2 15 "OrderTests$Rules" "told" "[I", Cond.methodLink RX2 18 yX2_cell, Cond.static yX2_cell, Cond.code yX2_cell cX2_cell 2 (some .int), Cond.methodLink RX3 157 yX4_change, Cond.instanceMethod yX4_change]
def wsX3_goThrough_r5 : List Cond := [Cond.selects RX4 yX4_change yX4_change, Cond.code yX4_change cX4_change 3 none, Cond.methodLink RX4 45 yX4_valueOf, Cond.methodLink RX3 160 yX4_sentBy, Cond.instanceMethod yX4_sentBy, Cond.selects RX4 yX4_sentBy yX4_sentBy, Cond.code yX4_sentBy cX4_sentBy 2 (some .int), Cond.methodLink RX3 163 yX4_countSend, Cond.instanceMethod yX4_countSend, Cond.selects RX4 yX4_countSend yX4_countSend, Cond.code yX4_countSend cX4_countSend 2 none, Cond.methodLink RX3 172 yX2_sentOut, Cond.instanceMethod yX2_sentOut, Cond.selects RX2 yX2_sentOut yX2_sentOut, Cond.code yX2_sentOut cX2_sentOut 3 (some .int), Cond.methodLink RX3 175 yX4_put, Cond.instanceMethod yX4_put, Cond.selects RX4 yX4_put yX4_put, Cond.code yX4_put cX4_put 13 none, Cond.methodLink RX4 51 yX4_underWay, Cond.instanceMethod yX4_underWay, Cond.selects RX4 yX4_underWay yX4_underWay, Cond.code yX4_underWay cX4_underWay 2 (some .int), Cond.methodLink RX4 54 yX4_messageAt]
def wsX3_goThrough_r6 : List Cond := [Cond.methodLink RX3 145 yX6_of, Cond.static yX6_of, Cond.initialized RX6, Cond.code yX6_of cX6_of 3 (some .int), Cond.methodLink RX3 74 yX3_keepNext, Cond.instanceMethod yX3_keepNext, Cond.selects RX3 yX3_keepNext yX3_keepNext, Cond.code yX3_keepNext cX3_keepNext 4 none, Cond.fieldLink RX3 78 "OrderTests$States" "count" "I", Cond.fieldLink RX3 40 "OrderTests$Search" "limit" "I", Cond.fieldLink RX3 36 "OrderTests$Search" "findings" "LOrderTests$Findings;", Cond.methodLink RX3 179 yX5_freeSlot, Cond.instanceMethod yX5_freeSlot, Cond.selects RX5 yX5_freeSlot yX5_freeSlot, Cond.code yX5_freeSlot cX5_freeSlot 5 (some .int), Cond.fieldLink RX5 21 "OrderTests$States" "slots" "[I", Cond.methodLink RX5 35 yX4_hash, Cond.instanceMethod yX4_hash, Cond.selects RX4 yX4_hash yX4_hash, Cond.code yX4_hash cX4_hash 4 (some .int), Cond.constantLong RX4 66 (-7046029254386353131), Cond.methodLink RX5 41 yX5_isLike, Cond.instanceMethod yX5_isLike, Cond.selects RX5 yX5_isLike yX5_isLike]
def wsX3_goThrough_r7 : List Cond := [Cond.code yX5_isLike cX5_isLike 4 (some .boolean), Cond.methodLink RX3 183 yX5_add, Cond.instanceMethod yX5_add, Cond.selects RX5 yX5_add yX5_add, Cond.code yX5_add cX5_add 3 none, Cond.fieldLink RX5 25 "OrderTests$States" "count" "I", Cond.methodLink RX3 187 yX4_pending, Cond.instanceMethod yX4_pending, Cond.selects RX4 yX4_pending yX4_pending, Cond.code yX4_pending cX4_pending 4 (some .int), Cond.constantLong RX4 58 (15), Cond.methodLink RX4 60 yJ13_bitCount_95d88, Cond.static yJ13_bitCount_95d88, Cond.initialized RJ13, Cond.code yJ13_bitCount_95d88 cJ13_bitCount_95d88 2 (some .int), Cond.constantLong RJ13 314 (6148914691236517205), Cond.constantLong RJ13 316 (3689348814741910323), Cond.constantLong RJ13 318 (1085102592571150095), Cond.methodLink RX3 190 yX4_allValues, Cond.instanceMethod yX4_allValues, Cond.selects RX4 yX4_allValues yX4_allValues, Cond.code yX4_allValues cX4_allValues 1 (some .int), Cond.constant RX4 44 (1048575), Cond.methodLink RX3 193 yX0_note]
def wsX3_goThrough_r8 : List Cond := [Cond.instanceMethod yX0_note, Cond.selects RX0 yX0_note yX0_note, Cond.initialized RX0, Cond.code yX0_note cX0_note 5 none, Cond.fieldLink RX0 24 "OrderTests$Findings" "states" "I", Cond.fieldLink RX0 18 "OrderTests$Findings" "parents" "[I", Cond.fieldLink RX0 21 "OrderTests$Findings" "steps" "[I", Cond.fieldLink RX0 37 "OrderTests$Findings" "mostPending" "I", Cond.methodLink RX0 44 Lib.Math.max.name, Cond.fieldLink RX0 34 "OrderTests$Findings" "stepless" "I", Cond.methodLink RX0 50 yX0_noteEnd, Cond.instanceMethod yX0_noteEnd, Cond.selects RX0 yX0_noteEnd yX0_noteEnd, Cond.code yX0_noteEnd cX0_noteEnd 3 none, Cond.fieldLink RX0 31 "OrderTests$Findings" "ends" "I", Cond.fieldLink RX0 9 "OrderTests$Findings" "endValues" "[I", Cond.fieldLink RX0 15 "OrderTests$Findings" "endStates" "[I", Cond.methodLink RX3 109 yX4_underWay, Cond.methodLink RX3 113 yX3_isStep, Cond.instanceMethod yX3_isStep, Cond.selects RX3 yX3_isStep yX3_isStep, Cond.code yX3_isStep cX3_isStep 3 (some .boolean)]
def wsX3_goThrough : List Cond := .code yX3_goThrough cX3_goThrough 7 none :: ((wsX3_goThrough_r1 ++ (wsX3_goThrough_r2 ++ (wsX3_goThrough_r3 ++ (wsX3_goThrough_r4 ++ (wsX3_goThrough_r5 ++ (wsX3_goThrough_r6 ++ (wsX3_goThrough_r7 ++ wsX3_goThrough_r8))))))) ++ wsX30 ++ wsX10 ++ wsX50 ++ wsX40 ++ wsX20 ++ wsX00)
def wsX3_run_r1 : List Cond := [Cond.fieldLink RX3 36 "OrderTests$Search" "findings" "LOrderTests$Findings;", Cond.fieldLink RX3 40 "OrderTests$Search" "limit" "I", Cond.fieldLink RX3 44 "OrderTests$Search" "staying" "I", Cond.fieldLink RX3 47 "OrderTests$Search" "isFull" "Z", Cond.fieldLink RX3 12 "OrderTests$Search" "found" "LOrderTests$States;", Cond.fieldLink RX3 28 "OrderTests$Search" "graph" "LOrderTests$Graph;", Cond.fieldLink RX3 54 "OrderTests$Graph" "vertices" "I", Cond.fieldLink RX3 25 "OrderTests$Search" "next" "LOrderTests$State;", Cond.fieldLink RX3 32 "OrderTests$Search" "rules" "LOrderTests$Rules;", Cond.fieldLink RX3 64 "OrderTests$Rules" "settings" "[I", Cond.fieldLink RX3 78 "OrderTests$States" "count" "I", Cond.fieldLink RX3 84 "OrderTests$Findings" "whole" "Z", Cond.methodLink RX3 51 yX5_clear, Cond.instanceMethod yX5_clear, Cond.selects RX5 yX5_clear yX5_clear, Cond.initialized RX5, Cond.code yX5_clear cX5_clear 1 none, Cond.fieldLink RX5 25 "OrderTests$States" "count" "I", Cond.fieldLink RX5 21 "OrderTests$States" "slots" "[I", Cond.methodLink RX5 29 yJ7_fill_53178, Cond.static yJ7_fill_53178, Cond.initialized RJ7, Cond.code yJ7_fill_53178 cJ7_fill_53178 4 none, Cond.methodLink RX3 59 yX0_clear]
def wsX3_run_r2 : List Cond := [Cond.instanceMethod yX0_clear, Cond.selects RX0 yX0_clear yX0_clear, Cond.initialized RX0, Cond.code yX0_clear cX0_clear 2 none, Cond.fieldLink RX0 24 "OrderTests$Findings" "states" "I", Cond.fieldLink RX0 28 "OrderTests$Findings" "vertices" "I", Cond.fieldLink RX0 31 "OrderTests$Findings" "ends" "I", Cond.fieldLink RX0 34 "OrderTests$Findings" "stepless" "I", Cond.fieldLink RX0 37 "OrderTests$Findings" "mostPending" "I", Cond.fieldLink RX0 40 "OrderTests$Findings" "whole" "Z", Cond.methodLink RX3 70 yX4_begin, Cond.instanceMethod yX4_begin, Cond.selects RX4 yX4_begin yX4_begin, Cond.initialized RX4, Cond.code yX4_begin cX4_begin 4 none, Cond.fieldLink RX4 15 "OrderTests$State" "head" "J", Cond.fieldLink RX4 19 "OrderTests$Graph" "vertices" "I", Cond.fieldLink RX4 25 "OrderTests$Graph" "begins" "[I", Cond.fieldLink RX4 29 "OrderTests$State" "lengths" "J", Cond.fieldLink RX4 11 "OrderTests$State" "rows" "[J", Cond.methodLink RX4 32 yJ7_fill_d0a16, Cond.static yJ7_fill_d0a16, Cond.code yJ7_fill_d0a16 cJ7_fill_d0a16 5 none, Cond.methodLink RX3 74 yX3_keepNext]
def wsX3_run_r3 : List Cond := [Cond.instanceMethod yX3_keepNext, Cond.selects RX3 yX3_keepNext yX3_keepNext, Cond.initialized RX3, Cond.code yX3_keepNext cX3_keepNext 4 none, Cond.fieldLink RX3 95 "OrderTests$Graph" "firsts" "I", Cond.methodLink RX3 179 yX5_freeSlot, Cond.instanceMethod yX5_freeSlot, Cond.selects RX5 yX5_freeSlot yX5_freeSlot, Cond.code yX5_freeSlot cX5_freeSlot 5 (some .int), Cond.methodLink RX5 35 yX4_hash, Cond.instanceMethod yX4_hash, Cond.selects RX4 yX4_hash yX4_hash, Cond.code yX4_hash cX4_hash 4 (some .int), Cond.constantLong RX4 66 (-7046029254386353131), Cond.methodLink RX5 41 yX5_isLike, Cond.instanceMethod yX5_isLike, Cond.selects RX5 yX5_isLike yX5_isLike, Cond.code yX5_isLike cX5_isLike 4 (some .boolean), Cond.fieldLink RX5 9 "OrderTests$States" "heads" "[J", Cond.fieldLink RX5 45 "OrderTests$State" "head" "J", Cond.fieldLink RX5 15 "OrderTests$States" "lengths" "[J", Cond.fieldLink RX5 49 "OrderTests$State" "lengths" "J", Cond.fieldLink RX5 18 "OrderTests$States" "rows" "[J", Cond.fieldLink RX5 51 "OrderTests$State" "rows" "[J"]
def wsX3_run_r4 : List Cond := [Cond.methodLink RX3 183 yX5_add, Cond.instanceMethod yX5_add, Cond.selects RX5 yX5_add yX5_add, Cond.code yX5_add cX5_add 3 none, Cond.methodLink RX5 52 arraycopyName, Cond.native arraycopyName, Cond.static arraycopyName, Cond.initialized "java/lang/System", Cond.methodLink RX3 187 yX4_pending, Cond.instanceMethod yX4_pending, Cond.selects RX4 yX4_pending yX4_pending, Cond.code yX4_pending cX4_pending 4 (some .int), Cond.constantLong RX4 58 (15), Cond.methodLink RX4 60 yJ13_bitCount_95d88, Cond.static yJ13_bitCount_95d88, Cond.initialized RJ13, Cond.code yJ13_bitCount_95d88 cJ13_bitCount_95d88 2 (some .int), Cond.constantLong RJ13 314 (6148914691236517205), Cond.constantLong RJ13 316 (3689348814741910323), Cond.constantLong RJ13 318 (1085102592571150095), Cond.methodLink RX4 51 yX4_underWay, Cond.instanceMethod yX4_underWay, Cond.selects RX4 yX4_underWay yX4_underWay, Cond.code yX4_underWay cX4_underWay 2 (some .int)]
def wsX3_run_r5 : List Cond := [Cond.methodLink RX3 190 yX4_allValues, Cond.instanceMethod yX4_allValues, Cond.selects RX4 yX4_allValues yX4_allValues, Cond.code yX4_allValues cX4_allValues 1 (some .int), Cond.constant RX4 44 (1048575), Cond.methodLink RX3 193 yX0_note, Cond.instanceMethod yX0_note, Cond.selects RX0 yX0_note yX0_note, Cond.code yX0_note cX0_note 5 none, Cond.fieldLink RX0 18 "OrderTests$Findings" "parents" "[I", Cond.fieldLink RX0 21 "OrderTests$Findings" "steps" "[I", Cond.methodLink RX0 44 Lib.Math.max.name, Cond.static Lib.Math.max.name, Cond.initialized "java/lang/Math", Cond.code Lib.Math.max.name Lib.Math.max.code 2 (some .int), Cond.methodLink RX0 50 yX0_noteEnd, Cond.instanceMethod yX0_noteEnd, Cond.selects RX0 yX0_noteEnd yX0_noteEnd, Cond.code yX0_noteEnd cX0_noteEnd 3 none, Cond.fieldLink RX0 9 "OrderTests$Findings" "endValues" "[I", Cond.fieldLink RX0 15 "OrderTests$Findings" "endStates" "[I", Cond.methodLink RX3 81 yX3_goThrough, Cond.instanceMethod yX3_goThrough, Cond.selects RX3 yX3_goThrough yX3_goThrough]
def wsX3_run_r6 : List Cond := [Cond.code yX3_goThrough cX3_goThrough 7 none, Cond.fieldLink RX3 21 "OrderTests$Search" "here" "LOrderTests$State;", Cond.fieldLink RX3 106 "OrderTests$Graph" "arcs" "I", Cond.methodLink RX3 87 yX5_load, Cond.instanceMethod yX5_load, Cond.selects RX5 yX5_load yX5_load, Cond.code yX5_load cX5_load 3 none, Cond.methodLink RX3 91 yX4_doublesLeft, Cond.instanceMethod yX4_doublesLeft, Cond.selects RX4 yX4_doublesLeft yX4_doublesLeft, Cond.code yX4_doublesLeft cX4_doublesLeft 1 (some .int), Cond.methodLink RX3 98 yX4_hasCome, Cond.instanceMethod yX4_hasCome, Cond.selects RX4 yX4_hasCome yX4_hasCome, Cond.code yX4_hasCome cX4_hasCome 2 (some .boolean), Cond.methodLink RX3 102 yX3_take, Cond.instanceMethod yX3_take, Cond.selects RX3 yX3_take yX3_take, Cond.code yX3_take cX3_take 8 none, Cond.fieldLink RX3 133 "OrderTests$Graph" "firstValue" "[I", Cond.fieldLink RX3 136 "OrderTests$Graph" "firstTo" "[I", Cond.fieldLink RX3 139 "OrderTests$Graph" "arcTo" "[I", Cond.methodLink RX3 121 yX4_copy, Cond.instanceMethod yX4_copy]
def wsX3_run_r7 : List Cond := [Cond.selects RX4 yX4_copy yX4_copy, Cond.code yX4_copy cX4_copy 2 none, Cond.methodLink RX4 38 arraycopyName, Cond.methodLink RX3 125 yX4_useDouble, Cond.instanceMethod yX4_useDouble, Cond.selects RX4 yX4_useDouble yX4_useDouble, Cond.code yX4_useDouble cX4_useDouble 1 none, Cond.constantLong RX4 49 (562949953421312), Cond.methodLink RX3 128 yX4_markCome, Cond.instanceMethod yX4_markCome, Cond.selects RX4 yX4_markCome yX4_markCome, Cond.code yX4_markCome cX4_markCome 2 none, Cond.methodLink RX3 131 yX4_take, Cond.instanceMethod yX4_take, Cond.selects RX4 yX4_take yX4_take, Cond.code yX4_take cX4_take 10 none, Cond.methodLink RX3 117 yX4_messageAt, Cond.instanceMethod yX4_messageAt, Cond.selects RX4 yX4_messageAt yX4_messageAt, Cond.code yX4_messageAt cX4_messageAt 3 (some .int), Cond.methodLink RX3 142 yX3_deliver, Cond.instanceMethod yX3_deliver, Cond.selects RX3 yX3_deliver yX3_deliver, Cond.code yX3_deliver cX3_deliver 7 none]
def wsX3_run_r8 : List Cond := [Cond.fieldLink RX3 166 "OrderTests$Graph" "arcFrom" "[I", Cond.fieldLink RX3 169 "OrderTests$Graph" "weights" "[I", Cond.methodLink RX3 151 yX4_valueOf, Cond.instanceMethod yX4_valueOf, Cond.selects RX4 yX4_valueOf yX4_valueOf, Cond.code yX4_valueOf cX4_valueOf 2 (some .int), Cond.methodLink RX3 154 yX2_folded, Cond.instanceMethod yX2_folded, Cond.selects RX2 yX2_folded yX2_folded, Cond.initialized RX2, Cond.code yX2_folded cX2_folded 3 (some .int), Cond.fieldLink RX2 9 "OrderTests$Rules" "settings" "[I", Cond.methodLink RX2 22 Lib.Math.min.name, Cond.static Lib.Math.min.name, Cond.code Lib.Math.min.name Lib.Math.min.code 2 (some .int), Cond.methodLink RX2 27 Lib.Math.max.name, Cond.fieldLink RX2 15 "OrderTests$Rules" "told" "[I", Cond.methodLink RX2 18 yX2_cell, Cond.static yX2_cell, Cond.code yX2_cell cX2_cell 2 (some .int), Cond.methodLink RX3 157 yX4_change, Cond.instanceMethod yX4_change, Cond.selects RX4 yX4_change yX4_change, Cond.code yX4_change cX4_change 3 none]
def wsX3_run_r9 : List Cond := [Cond.methodLink RX4 45 yX4_valueOf, Cond.methodLink RX3 160 yX4_sentBy, Cond.instanceMethod yX4_sentBy, Cond.selects RX4 yX4_sentBy yX4_sentBy, Cond.code yX4_sentBy cX4_sentBy 2 (some .int), Cond.methodLink RX3 163 yX4_countSend, Cond.instanceMethod yX4_countSend, Cond.selects RX4 yX4_countSend yX4_countSend, Cond.code yX4_countSend cX4_countSend 2 none, Cond.methodLink RX3 172 yX2_sentOut, Cond.instanceMethod yX2_sentOut, Cond.selects RX2 yX2_sentOut yX2_sentOut, Cond.code yX2_sentOut cX2_sentOut 3 (some .int), Cond.methodLink RX3 175 yX4_put, Cond.instanceMethod yX4_put, Cond.selects RX4 yX4_put yX4_put, Cond.code yX4_put cX4_put 13 none, Cond.methodLink RX4 54 yX4_messageAt, Cond.methodLink RX3 145 yX6_of, Cond.static yX6_of, Cond.initialized RX6, Cond.code yX6_of cX6_of 3 (some .int), Cond.methodLink RX3 109 yX4_underWay, Cond.methodLink RX3 113 yX3_isStep]
def wsX3_run_r10 : List Cond := [Cond.instanceMethod yX3_isStep, Cond.selects RX3 yX3_isStep yX3_isStep, Cond.code yX3_isStep cX3_isStep 3 (some .boolean)]
def wsX3_run : List Cond := .code yX3_run cX3_run 5 none :: ((wsX3_run_r1 ++ (wsX3_run_r2 ++ (wsX3_run_r3 ++ (wsX3_run_r4 ++ (wsX3_run_r5 ++ (wsX3_run_r6 ++ (wsX3_run_r7 ++ (wsX3_run_r8 ++ (wsX3_run_r9 ++ wsX3_run_r10))))))))) ++ wsX30 ++ wsX10 ++ wsX20 ++ wsX50 ++ wsX00 ++ wsX40)
def wsX6_source : List Cond := .code yX6_source cX6_source 1 (some .int) :: ([])
def wsX6_message : List Cond := .code yX6_message cX6_message 1 (some .int) :: ([])
def wsX6_doubled : List Cond := .code yX6_doubled cX6_doubled 1 (some .int) :: ([])
def wsX7_init_r1 : List Cond := [Cond.methodLink RX7 1 objectInit, Cond.instanceMethod objectInit, Cond.code objectInit ⟨#[0xb1]⟩ 1 none, Cond.classLink RX7 7 RX1, Cond.instantiable RX1 9, Cond.initialized RX1, Cond.fieldLink RX7 10 "OrderTests" "graph" "LOrderTests$Graph;", Cond.classLink RX7 16 RX2, Cond.instantiable RX2 2, Cond.initialized RX2, Cond.fieldLink RX7 19 "OrderTests" "rules" "LOrderTests$Rules;", Cond.classLink RX7 23 RX0, Cond.instantiable RX0 10, Cond.initialized RX0, Cond.fieldLink RX7 26 "OrderTests" "latest" "LOrderTests$Findings;", Cond.fieldLink RX7 30 "OrderTests" "trial" "LOrderTests$Findings;", Cond.classLink RX7 33 RX3, Cond.instantiable RX3 9, Cond.initialized RX3, Cond.fieldLink RX7 38 "OrderTests" "search" "LOrderTests$Search;", Cond.instanceMethod yX1_init, Cond.code yX1_init cX1_init 1 none, Cond.methodLink RX1 3 objectInit, Cond.arrayClass .int]
def wsX7_init_r2 : List Cond := [Cond.fieldLink RX1 9 "OrderTests$Graph" "begins" "[I", Cond.fieldLink RX1 15 "OrderTests$Graph" "arcFrom" "[I", Cond.fieldLink RX1 18 "OrderTests$Graph" "arcTo" "[I", Cond.fieldLink RX1 21 "OrderTests$Graph" "weights" "[I", Cond.fieldLink RX1 24 "OrderTests$Graph" "firstTo" "[I", Cond.fieldLink RX1 27 "OrderTests$Graph" "firstValue" "[I", Cond.instanceMethod yX2_init, Cond.code yX2_init cX2_init 1 none, Cond.methodLink RX2 3 objectInit, Cond.fieldLink RX2 9 "OrderTests$Rules" "settings" "[I", Cond.fieldLink RX2 15 "OrderTests$Rules" "told" "[I", Cond.instanceMethod yX0_init, Cond.code yX0_init cX0_init 1 none, Cond.methodLink RX0 3 objectInit, Cond.fieldLink RX0 9 "OrderTests$Findings" "endValues" "[I", Cond.fieldLink RX0 15 "OrderTests$Findings" "endStates" "[I", Cond.fieldLink RX0 18 "OrderTests$Findings" "parents" "[I", Cond.fieldLink RX0 21 "OrderTests$Findings" "steps" "[I", Cond.methodLink RX7 35 yX3_init, Cond.instanceMethod yX3_init, Cond.code yX3_init cX3_init 4 none, Cond.methodLink RX3 3 objectInit, Cond.classLink RX3 9 RX5, Cond.instantiable RX5 5]
def wsX7_init_r3 : List Cond := [Cond.initialized RX5, Cond.fieldLink RX3 12 "OrderTests$Search" "found" "LOrderTests$States;", Cond.classLink RX3 18 RX4, Cond.instantiable RX4 3, Cond.initialized RX4, Cond.fieldLink RX3 21 "OrderTests$Search" "here" "LOrderTests$State;", Cond.fieldLink RX3 25 "OrderTests$Search" "next" "LOrderTests$State;", Cond.fieldLink RX3 28 "OrderTests$Search" "graph" "LOrderTests$Graph;", Cond.fieldLink RX3 32 "OrderTests$Search" "rules" "LOrderTests$Rules;", Cond.fieldLink RX3 36 "OrderTests$Search" "findings" "LOrderTests$Findings;", Cond.instanceMethod yX5_init, Cond.code yX5_init cX5_init 1 none, Cond.methodLink RX5 3 objectInit, Cond.arrayClass .long, Cond.fieldLink RX5 9 "OrderTests$States" "heads" "[J", Cond.fieldLink RX5 15 "OrderTests$States" "lengths" "[J", Cond.fieldLink RX5 18 "OrderTests$States" "rows" "[J", Cond.fieldLink RX5 21 "OrderTests$States" "slots" "[I", Cond.instanceMethod yX4_init, Cond.code yX4_init cX4_init 1 none, Cond.methodLink RX4 5 objectInit, Cond.fieldLink RX4 11 "OrderTests$State" "rows" "[J"]
def wsX7_init : List Cond := .code yX7_init cX7_init 1 none :: ((wsX7_init_r1 ++ (wsX7_init_r2 ++ wsX7_init_r3)) ++ wsX10 ++ wsX70 ++ wsX20 ++ wsX00 ++ wsX30 ++ wsX50 ++ wsX40)
def wsX7_isValue : List Cond := .code yX7_isValue cX7_isValue 1 (some .boolean) :: ([])
def wsX7_vertex : List Cond := .code yX7_vertex cX7_vertex 2 (some .int) :: ([.fieldLink RX7 10 "OrderTests" "graph" "LOrderTests$Graph;", .methodLink RX7 42 yX7_isValue, .static yX7_isValue, .initialized RX7, .code yX7_isValue cX7_isValue 1 (some .boolean), .methodLink RX7 46 yX1_addVertex, .instanceMethod yX1_addVertex, .selects RX1 yX1_addVertex yX1_addVertex, .initialized RX1, .code yX1_addVertex cX1_addVertex 2 (some .int), .fieldLink RX1 30 "OrderTests$Graph" "vertices" "I", .fieldLink RX1 9 "OrderTests$Graph" "begins" "[I"] ++ wsX70 ++ wsX10)
def wsX7_arc : List Cond := .code yX7_arc cX7_arc 4 (some .int) :: ([.fieldLink RX7 10 "OrderTests" "graph" "LOrderTests$Graph;", .methodLink RX7 50 yX1_hasVertex, .instanceMethod yX1_hasVertex, .selects RX1 yX1_hasVertex yX1_hasVertex, .initialized RX1, .code yX1_hasVertex cX1_hasVertex 2 (some .boolean), .fieldLink RX1 30 "OrderTests$Graph" "vertices" "I", .methodLink RX7 42 yX7_isValue, .static yX7_isValue, .initialized RX7, .code yX7_isValue cX7_isValue 1 (some .boolean), .methodLink RX7 53 yX1_addArc, .instanceMethod yX1_addArc, .selects RX1 yX1_addArc yX1_addArc, .code yX1_addArc cX1_addArc 4 (some .int), .fieldLink RX1 34 "OrderTests$Graph" "arcs" "I", .fieldLink RX1 15 "OrderTests$Graph" "arcFrom" "[I", .fieldLink RX1 18 "OrderTests$Graph" "arcTo" "[I", .fieldLink RX1 21 "OrderTests$Graph" "weights" "[I"] ++ wsX70 ++ wsX10)
def wsX7_first : List Cond := .code yX7_first cX7_first 3 (some .int) :: ([.fieldLink RX7 10 "OrderTests" "graph" "LOrderTests$Graph;", .methodLink RX7 50 yX1_hasVertex, .instanceMethod yX1_hasVertex, .selects RX1 yX1_hasVertex yX1_hasVertex, .initialized RX1, .code yX1_hasVertex cX1_hasVertex 2 (some .boolean), .fieldLink RX1 30 "OrderTests$Graph" "vertices" "I", .methodLink RX7 42 yX7_isValue, .static yX7_isValue, .initialized RX7, .code yX7_isValue cX7_isValue 1 (some .boolean), .methodLink RX7 57 yX1_addFirst, .instanceMethod yX1_addFirst, .selects RX1 yX1_addFirst yX1_addFirst, .code yX1_addFirst cX1_addFirst 3 (some .int), .fieldLink RX1 37 "OrderTests$Graph" "firsts" "I", .fieldLink RX1 24 "OrderTests$Graph" "firstTo" "[I", .fieldLink RX1 27 "OrderTests$Graph" "firstValue" "[I"] ++ wsX70 ++ wsX10)
def wsX7_isWithin : List Cond := .code yX7_isWithin cX7_isWithin 3 (some .boolean) :: ([])
def wsX7_set : List Cond := .code yX7_set cX7_set 4 (some .int) :: ([.fieldLink RX7 65 "OrderTests" "LEAST_SETTING" "[I", .fieldLink RX7 69 "OrderTests" "GREATEST_SETTING" "[I", .fieldLink RX7 19 "OrderTests" "rules" "LOrderTests$Rules;", .fieldLink RX7 72 "OrderTests$Rules" "settings" "[I", .methodLink RX7 61 yX7_isWithin, .static yX7_isWithin, .initialized RX7, .code yX7_isWithin cX7_isWithin 3 (some .boolean)] ++ wsX70 ++ wsX20)
def wsX7_table : List Cond := .code yX7_table cX7_table 4 (some .int) :: ([.fieldLink RX7 19 "OrderTests" "rules" "LOrderTests$Rules;", .methodLink RX7 42 yX7_isValue, .static yX7_isValue, .initialized RX7, .code yX7_isValue cX7_isValue 1 (some .boolean), .methodLink RX7 75 yX2_tell, .instanceMethod yX2_tell, .selects RX2 yX2_tell yX2_tell, .initialized RX2, .code yX2_tell cX2_tell 5 (some .int), .fieldLink RX2 15 "OrderTests$Rules" "told" "[I", .methodLink RX2 18 yX2_cell, .static yX2_cell, .code yX2_cell cX2_cell 2 (some .int)] ++ wsX70 ++ wsX20)
def wsX7_value : List Cond := .code yX7_value cX7_value 4 (some .int) :: ([.fieldLink RX7 10 "OrderTests" "graph" "LOrderTests$Graph;", .fieldLink RX7 78 "OrderTests$Graph" "begins" "[I", .methodLink RX7 50 yX1_hasVertex, .instanceMethod yX1_hasVertex, .selects RX1 yX1_hasVertex yX1_hasVertex, .initialized RX1, .code yX1_hasVertex cX1_hasVertex 2 (some .boolean), .fieldLink RX1 30 "OrderTests$Graph" "vertices" "I", .methodLink RX7 42 yX7_isValue, .static yX7_isValue, .initialized RX7, .code yX7_isValue cX7_isValue 1 (some .boolean)] ++ wsX70 ++ wsX10)
def wsX7_fold : List Cond := .code yX7_fold cX7_fold 3 (some .int) :: ([.fieldLink RX7 19 "OrderTests" "rules" "LOrderTests$Rules;", .methodLink RX7 42 yX7_isValue, .static yX7_isValue, .initialized RX7, .code yX7_isValue cX7_isValue 1 (some .boolean), .methodLink RX7 81 yX2_folded, .instanceMethod yX2_folded, .selects RX2 yX2_folded yX2_folded, .initialized RX2, .code yX2_folded cX2_folded 3 (some .int), .fieldLink RX2 9 "OrderTests$Rules" "settings" "[I", .methodLink RX2 22 Lib.Math.min.name, .static Lib.Math.min.name, .initialized "java/lang/Math", .code Lib.Math.min.name Lib.Math.min.code 2 (some .int), .methodLink RX2 27 Lib.Math.max.name, .static Lib.Math.max.name, .code Lib.Math.max.name Lib.Math.max.code 2 (some .int), .fieldLink RX2 15 "OrderTests$Rules" "told" "[I", .methodLink RX2 18 yX2_cell, .static yX2_cell, .code yX2_cell cX2_cell 2 (some .int)] ++ wsX70 ++ wsX20)
def wsX7_out : List Cond := .code yX7_out cX7_out 3 (some .int) :: ([.fieldLink RX7 19 "OrderTests" "rules" "LOrderTests$Rules;", .methodLink RX7 42 yX7_isValue, .static yX7_isValue, .initialized RX7, .code yX7_isValue cX7_isValue 1 (some .boolean), .methodLink RX7 84 yX2_sentOut, .instanceMethod yX2_sentOut, .selects RX2 yX2_sentOut yX2_sentOut, .initialized RX2, .code yX2_sentOut cX2_sentOut 3 (some .int), .fieldLink RX2 9 "OrderTests$Rules" "settings" "[I", .methodLink RX2 22 Lib.Math.min.name, .static Lib.Math.min.name, .initialized "java/lang/Math", .code Lib.Math.min.name Lib.Math.min.code 2 (some .int), .methodLink RX2 27 Lib.Math.max.name, .static Lib.Math.max.name, .code Lib.Math.max.name Lib.Math.max.code 2 (some .int)] ++ wsX70 ++ wsX20)
def wsX7_law_r1 : List Cond := [Cond.fieldLink RX7 87 "OrderTests" "LAW_VALUES" "[I", Cond.fieldLink RX7 19 "OrderTests" "rules" "LOrderTests$Rules;", Cond.methodLink RX7 61 yX7_isWithin, Cond.static yX7_isWithin, Cond.initialized RX7, Cond.code yX7_isWithin cX7_isWithin 3 (some .boolean), Cond.methodLink RX7 90 yX2_lawHolds, Cond.instanceMethod yX2_lawHolds, Cond.selects RX2 yX2_lawHolds yX2_lawHolds, Cond.initialized RX2, Cond.code yX2_lawHolds cX2_lawHolds 5 (some .boolean), Cond.methodLink RX2 30 yX2_folded, Cond.instanceMethod yX2_folded, Cond.selects RX2 yX2_folded yX2_folded, Cond.code yX2_folded cX2_folded 3 (some .int), Cond.fieldLink RX2 9 "OrderTests$Rules" "settings" "[I", Cond.methodLink RX2 22 Lib.Math.min.name, Cond.static Lib.Math.min.name, Cond.initialized "java/lang/Math", Cond.code Lib.Math.min.name Lib.Math.min.code 2 (some .int), Cond.methodLink RX2 27 Lib.Math.max.name, Cond.static Lib.Math.max.name, Cond.code Lib.Math.max.name Lib.Math.max.code 2 (some .int), Cond.fieldLink RX2 15 "OrderTests$Rules" "told" "[I"]
def wsX7_law_r2 : List Cond := [Cond.methodLink RX2 18 yX2_cell, Cond.static yX2_cell, Cond.code yX2_cell cX2_cell 2 (some .int)]
def wsX7_law : List Cond := .code yX7_law cX7_law 7 (some .int) :: ((wsX7_law_r1 ++ wsX7_law_r2) ++ wsX70 ++ wsX20)
def wsX7_about : List Cond := .code yX7_about cX7_about 2 (some .int) :: ([.fieldLink RX7 10 "OrderTests" "graph" "LOrderTests$Graph;", .fieldLink RX7 94 "OrderTests$Graph" "vertices" "I", .fieldLink RX7 98 "OrderTests$Graph" "arcs" "I", .fieldLink RX7 101 "OrderTests$Graph" "firsts" "I", .fieldLink RX7 19 "OrderTests" "rules" "LOrderTests$Rules;", .fieldLink RX7 72 "OrderTests$Rules" "settings" "[I", .methodLink RX7 61 yX7_isWithin, .static yX7_isWithin, .initialized RX7, .code yX7_isWithin cX7_isWithin 3 (some .boolean)] ++ wsX70 ++ wsX10 ++ wsX20)
def wsX7_look_r1 : List Cond := [Cond.fieldLink RX7 38 "OrderTests" "search" "LOrderTests$Search;", Cond.fieldLink RX7 10 "OrderTests" "graph" "LOrderTests$Graph;", Cond.fieldLink RX7 26 "OrderTests" "latest" "LOrderTests$Findings;", Cond.fieldLink RX7 112 "OrderTests$Findings" "states" "I", Cond.methodLink RX7 61 yX7_isWithin, Cond.static yX7_isWithin, Cond.initialized RX7, Cond.code yX7_isWithin cX7_isWithin 3 (some .boolean), Cond.methodLink RX7 104 yX1_allArcs, Cond.instanceMethod yX1_allArcs, Cond.selects RX1 yX1_allArcs yX1_allArcs, Cond.initialized RX1, Cond.code yX1_allArcs cX1_allArcs 1 (some .int), Cond.fieldLink RX1 34 "OrderTests$Graph" "arcs" "I", Cond.methodLink RX7 108 yX3_run, Cond.instanceMethod yX3_run, Cond.selects RX3 yX3_run yX3_run, Cond.initialized RX3, Cond.code yX3_run cX3_run 5 none, Cond.fieldLink RX3 36 "OrderTests$Search" "findings" "LOrderTests$Findings;", Cond.fieldLink RX3 40 "OrderTests$Search" "limit" "I", Cond.fieldLink RX3 44 "OrderTests$Search" "staying" "I", Cond.fieldLink RX3 47 "OrderTests$Search" "isFull" "Z", Cond.fieldLink RX3 12 "OrderTests$Search" "found" "LOrderTests$States;"]
def wsX7_look_r2 : List Cond := [Cond.fieldLink RX3 28 "OrderTests$Search" "graph" "LOrderTests$Graph;", Cond.fieldLink RX3 54 "OrderTests$Graph" "vertices" "I", Cond.fieldLink RX3 25 "OrderTests$Search" "next" "LOrderTests$State;", Cond.fieldLink RX3 32 "OrderTests$Search" "rules" "LOrderTests$Rules;", Cond.fieldLink RX3 64 "OrderTests$Rules" "settings" "[I", Cond.fieldLink RX3 78 "OrderTests$States" "count" "I", Cond.fieldLink RX3 84 "OrderTests$Findings" "whole" "Z", Cond.methodLink RX3 51 yX5_clear, Cond.instanceMethod yX5_clear, Cond.selects RX5 yX5_clear yX5_clear, Cond.initialized RX5, Cond.code yX5_clear cX5_clear 1 none, Cond.fieldLink RX5 25 "OrderTests$States" "count" "I", Cond.fieldLink RX5 21 "OrderTests$States" "slots" "[I", Cond.methodLink RX5 29 yJ7_fill_53178, Cond.static yJ7_fill_53178, Cond.initialized RJ7, Cond.code yJ7_fill_53178 cJ7_fill_53178 4 none, Cond.methodLink RX3 59 yX0_clear, Cond.instanceMethod yX0_clear, Cond.selects RX0 yX0_clear yX0_clear, Cond.initialized RX0, Cond.code yX0_clear cX0_clear 2 none, Cond.fieldLink RX0 24 "OrderTests$Findings" "states" "I"]
def wsX7_look_r3 : List Cond := [Cond.fieldLink RX0 28 "OrderTests$Findings" "vertices" "I", Cond.fieldLink RX0 31 "OrderTests$Findings" "ends" "I", Cond.fieldLink RX0 34 "OrderTests$Findings" "stepless" "I", Cond.fieldLink RX0 37 "OrderTests$Findings" "mostPending" "I", Cond.fieldLink RX0 40 "OrderTests$Findings" "whole" "Z", Cond.methodLink RX3 70 yX4_begin, Cond.instanceMethod yX4_begin, Cond.selects RX4 yX4_begin yX4_begin, Cond.initialized RX4, Cond.code yX4_begin cX4_begin 4 none, Cond.fieldLink RX4 15 "OrderTests$State" "head" "J", Cond.fieldLink RX4 19 "OrderTests$Graph" "vertices" "I", Cond.fieldLink RX4 25 "OrderTests$Graph" "begins" "[I", Cond.fieldLink RX4 29 "OrderTests$State" "lengths" "J", Cond.fieldLink RX4 11 "OrderTests$State" "rows" "[J", Cond.methodLink RX4 32 yJ7_fill_d0a16, Cond.static yJ7_fill_d0a16, Cond.code yJ7_fill_d0a16 cJ7_fill_d0a16 5 none, Cond.methodLink RX3 74 yX3_keepNext, Cond.instanceMethod yX3_keepNext, Cond.selects RX3 yX3_keepNext yX3_keepNext, Cond.code yX3_keepNext cX3_keepNext 4 none, Cond.fieldLink RX3 95 "OrderTests$Graph" "firsts" "I", Cond.methodLink RX3 179 yX5_freeSlot]
def wsX7_look_r4 : List Cond := [Cond.instanceMethod yX5_freeSlot, Cond.selects RX5 yX5_freeSlot yX5_freeSlot, Cond.code yX5_freeSlot cX5_freeSlot 5 (some .int), Cond.methodLink RX5 35 yX4_hash, Cond.instanceMethod yX4_hash, Cond.selects RX4 yX4_hash yX4_hash, Cond.code yX4_hash cX4_hash 4 (some .int), Cond.constantLong RX4 66 (-7046029254386353131), Cond.methodLink RX5 41 yX5_isLike, Cond.instanceMethod yX5_isLike, Cond.selects RX5 yX5_isLike yX5_isLike, Cond.code yX5_isLike cX5_isLike 4 (some .boolean), Cond.fieldLink RX5 9 "OrderTests$States" "heads" "[J", Cond.fieldLink RX5 45 "OrderTests$State" "head" "J", Cond.fieldLink RX5 15 "OrderTests$States" "lengths" "[J", Cond.fieldLink RX5 49 "OrderTests$State" "lengths" "J", Cond.fieldLink RX5 18 "OrderTests$States" "rows" "[J", Cond.fieldLink RX5 51 "OrderTests$State" "rows" "[J", Cond.methodLink RX3 183 yX5_add, Cond.instanceMethod yX5_add, Cond.selects RX5 yX5_add yX5_add, Cond.code yX5_add cX5_add 3 none, Cond.methodLink RX5 52 arraycopyName, Cond.native arraycopyName]
def wsX7_look_r5 : List Cond := [Cond.static arraycopyName, Cond.initialized "java/lang/System", Cond.methodLink RX3 187 yX4_pending, Cond.instanceMethod yX4_pending, Cond.selects RX4 yX4_pending yX4_pending, Cond.code yX4_pending cX4_pending 4 (some .int), Cond.constantLong RX4 58 (15), Cond.methodLink RX4 60 yJ13_bitCount_95d88, Cond.static yJ13_bitCount_95d88, Cond.initialized RJ13, Cond.code yJ13_bitCount_95d88 cJ13_bitCount_95d88 2 (some .int), Cond.constantLong RJ13 314 (6148914691236517205), Cond.constantLong RJ13 316 (3689348814741910323), Cond.constantLong RJ13 318 (1085102592571150095), Cond.methodLink RX4 51 yX4_underWay, Cond.instanceMethod yX4_underWay, Cond.selects RX4 yX4_underWay yX4_underWay, Cond.code yX4_underWay cX4_underWay 2 (some .int), Cond.methodLink RX3 190 yX4_allValues, Cond.instanceMethod yX4_allValues, Cond.selects RX4 yX4_allValues yX4_allValues, Cond.code yX4_allValues cX4_allValues 1 (some .int), Cond.constant RX4 44 (1048575), Cond.methodLink RX3 193 yX0_note]
def wsX7_look_r6 : List Cond := [Cond.instanceMethod yX0_note, Cond.selects RX0 yX0_note yX0_note, Cond.code yX0_note cX0_note 5 none, Cond.fieldLink RX0 18 "OrderTests$Findings" "parents" "[I", Cond.fieldLink RX0 21 "OrderTests$Findings" "steps" "[I", Cond.methodLink RX0 44 Lib.Math.max.name, Cond.static Lib.Math.max.name, Cond.initialized "java/lang/Math", Cond.code Lib.Math.max.name Lib.Math.max.code 2 (some .int), Cond.methodLink RX0 50 yX0_noteEnd, Cond.instanceMethod yX0_noteEnd, Cond.selects RX0 yX0_noteEnd yX0_noteEnd, Cond.code yX0_noteEnd cX0_noteEnd 3 none, Cond.fieldLink RX0 9 "OrderTests$Findings" "endValues" "[I", Cond.fieldLink RX0 15 "OrderTests$Findings" "endStates" "[I", Cond.methodLink RX3 81 yX3_goThrough, Cond.instanceMethod yX3_goThrough, Cond.selects RX3 yX3_goThrough yX3_goThrough, Cond.code yX3_goThrough cX3_goThrough 7 none, Cond.fieldLink RX3 21 "OrderTests$Search" "here" "LOrderTests$State;", Cond.fieldLink RX3 106 "OrderTests$Graph" "arcs" "I", Cond.methodLink RX3 87 yX5_load, Cond.instanceMethod yX5_load, Cond.selects RX5 yX5_load yX5_load]
def wsX7_look_r7 : List Cond := [Cond.code yX5_load cX5_load 3 none, Cond.methodLink RX3 91 yX4_doublesLeft, Cond.instanceMethod yX4_doublesLeft, Cond.selects RX4 yX4_doublesLeft yX4_doublesLeft, Cond.code yX4_doublesLeft cX4_doublesLeft 1 (some .int), Cond.methodLink RX3 98 yX4_hasCome, Cond.instanceMethod yX4_hasCome, Cond.selects RX4 yX4_hasCome yX4_hasCome, Cond.code yX4_hasCome cX4_hasCome 2 (some .boolean), Cond.methodLink RX3 102 yX3_take, Cond.instanceMethod yX3_take, Cond.selects RX3 yX3_take yX3_take, Cond.code yX3_take cX3_take 8 none, Cond.fieldLink RX3 133 "OrderTests$Graph" "firstValue" "[I", Cond.fieldLink RX3 136 "OrderTests$Graph" "firstTo" "[I", Cond.fieldLink RX3 139 "OrderTests$Graph" "arcTo" "[I", Cond.methodLink RX3 121 yX4_copy, Cond.instanceMethod yX4_copy, Cond.selects RX4 yX4_copy yX4_copy, Cond.code yX4_copy cX4_copy 2 none, Cond.methodLink RX4 38 arraycopyName, Cond.methodLink RX3 125 yX4_useDouble, Cond.instanceMethod yX4_useDouble, Cond.selects RX4 yX4_useDouble yX4_useDouble]
def wsX7_look_r8 : List Cond := [Cond.code yX4_useDouble cX4_useDouble 1 none, Cond.constantLong RX4 49 (562949953421312), Cond.methodLink RX3 128 yX4_markCome, Cond.instanceMethod yX4_markCome, Cond.selects RX4 yX4_markCome yX4_markCome, Cond.code yX4_markCome cX4_markCome 2 none, Cond.methodLink RX3 131 yX4_take, Cond.instanceMethod yX4_take, Cond.selects RX4 yX4_take yX4_take, Cond.code yX4_take cX4_take 10 none, Cond.methodLink RX3 117 yX4_messageAt, Cond.instanceMethod yX4_messageAt, Cond.selects RX4 yX4_messageAt yX4_messageAt, Cond.code yX4_messageAt cX4_messageAt 3 (some .int), Cond.methodLink RX3 142 yX3_deliver, Cond.instanceMethod yX3_deliver, Cond.selects RX3 yX3_deliver yX3_deliver, Cond.code yX3_deliver cX3_deliver 7 none, Cond.fieldLink RX3 166 "OrderTests$Graph" "arcFrom" "[I", Cond.fieldLink RX3 169 "OrderTests$Graph" "weights" "[I", Cond.methodLink RX3 151 yX4_valueOf, Cond.instanceMethod yX4_valueOf, Cond.selects RX4 yX4_valueOf yX4_valueOf, Cond.code yX4_valueOf cX4_valueOf 2 (some .int)]
def wsX7_look_r9 : List Cond := [Cond.methodLink RX3 154 yX2_folded, Cond.instanceMethod yX2_folded, Cond.selects RX2 yX2_folded yX2_folded, Cond.initialized RX2, Cond.code yX2_folded cX2_folded 3 (some .int), Cond.fieldLink RX2 9 "OrderTests$Rules" "settings" "[I", Cond.methodLink RX2 22 Lib.Math.min.name, Cond.static Lib.Math.min.name, Cond.code Lib.Math.min.name Lib.Math.min.code 2 (some .int), Cond.methodLink RX2 27 Lib.Math.max.name, Cond.fieldLink RX2 15 "OrderTests$Rules" "told" "[I", Cond.methodLink RX2 18 yX2_cell, Cond.static yX2_cell, Cond.code yX2_cell cX2_cell 2 (some .int), Cond.methodLink RX3 157 yX4_change, Cond.instanceMethod yX4_change, Cond.selects RX4 yX4_change yX4_change, Cond.code yX4_change cX4_change 3 none, Cond.methodLink RX4 45 yX4_valueOf, Cond.methodLink RX3 160 yX4_sentBy, Cond.instanceMethod yX4_sentBy, Cond.selects RX4 yX4_sentBy yX4_sentBy, Cond.code yX4_sentBy cX4_sentBy 2 (some .int), Cond.methodLink RX3 163 yX4_countSend]
def wsX7_look_r10 : List Cond := [Cond.instanceMethod yX4_countSend, Cond.selects RX4 yX4_countSend yX4_countSend, Cond.code yX4_countSend cX4_countSend 2 none, Cond.methodLink RX3 172 yX2_sentOut, Cond.instanceMethod yX2_sentOut, Cond.selects RX2 yX2_sentOut yX2_sentOut, Cond.code yX2_sentOut cX2_sentOut 3 (some .int), Cond.methodLink RX3 175 yX4_put, Cond.instanceMethod yX4_put, Cond.selects RX4 yX4_put yX4_put, Cond.code yX4_put cX4_put 13 none, Cond.methodLink RX4 54 yX4_messageAt, Cond.methodLink RX3 145 yX6_of, Cond.static yX6_of, Cond.initialized RX6, Cond.code yX6_of cX6_of 3 (some .int), Cond.methodLink RX3 109 yX4_underWay, Cond.methodLink RX3 113 yX3_isStep, Cond.instanceMethod yX3_isStep, Cond.selects RX3 yX3_isStep yX3_isStep, Cond.code yX3_isStep cX3_isStep 3 (some .boolean)]
def wsX7_look : List Cond := .code yX7_look cX7_look 2 (some .int) :: ((wsX7_look_r1 ++ (wsX7_look_r2 ++ (wsX7_look_r3 ++ (wsX7_look_r4 ++ (wsX7_look_r5 ++ (wsX7_look_r6 ++ (wsX7_look_r7 ++ (wsX7_look_r8 ++ (wsX7_look_r9 ++ wsX7_look_r10))))))))) ++ wsX70 ++ wsX00 ++ wsX10 ++ wsX30 ++ wsX20 ++ wsX50 ++ wsX40)
def wsX7_looked : List Cond := .code yX7_looked cX7_looked 2 (some .int) :: ([.fieldLink RX7 26 "OrderTests" "latest" "LOrderTests$Findings;", .fieldLink RX7 112 "OrderTests$Findings" "states" "I", .fieldLink RX7 115 "OrderTests$Findings" "whole" "Z", .fieldLink RX7 119 "OrderTests$Findings" "ends" "I", .fieldLink RX7 122 "OrderTests$Findings" "stepless" "I", .fieldLink RX7 125 "OrderTests$Findings" "mostPending" "I", .methodLink RX7 61 yX7_isWithin, .static yX7_isWithin, .initialized RX7, .code yX7_isWithin cX7_isWithin 3 (some .boolean)] ++ wsX70 ++ wsX00)
def wsX7_end : List Cond := .code yX7_end cX7_end 3 (some .int) :: ([.fieldLink RX7 26 "OrderTests" "latest" "LOrderTests$Findings;", .fieldLink RX7 131 "OrderTests$Findings" "vertices" "I", .fieldLink RX7 132 "OrderTests$Findings" "endValues" "[I", .methodLink RX7 128 yX0_hasEnd, .instanceMethod yX0_hasEnd, .selects RX0 yX0_hasEnd yX0_hasEnd, .initialized RX0, .code yX0_hasEnd cX0_hasEnd 2 (some .boolean), .fieldLink RX0 31 "OrderTests$Findings" "ends" "I", .methodLink RX7 61 yX7_isWithin, .static yX7_isWithin, .initialized RX7, .code yX7_isWithin cX7_isWithin 3 (some .boolean)] ++ wsX70 ++ wsX00)
def wsX7_way_r1 : List Cond := [Cond.fieldLink RX7 26 "OrderTests" "latest" "LOrderTests$Findings;", Cond.methodLink RX7 128 yX0_hasEnd, Cond.instanceMethod yX0_hasEnd, Cond.selects RX0 yX0_hasEnd yX0_hasEnd, Cond.initialized RX0, Cond.code yX0_hasEnd cX0_hasEnd 2 (some .boolean), Cond.fieldLink RX0 31 "OrderTests$Findings" "ends" "I", Cond.methodLink RX7 135 yX0_wayLength, Cond.instanceMethod yX0_wayLength, Cond.selects RX0 yX0_wayLength yX0_wayLength, Cond.code yX0_wayLength cX0_wayLength 4 (some .int), Cond.fieldLink RX0 15 "OrderTests$Findings" "endStates" "[I", Cond.fieldLink RX0 18 "OrderTests$Findings" "parents" "[I", Cond.methodLink RX7 61 yX7_isWithin, Cond.static yX7_isWithin, Cond.initialized RX7, Cond.code yX7_isWithin cX7_isWithin 3 (some .boolean), Cond.methodLink RX7 138 yX0_stepBefore, Cond.instanceMethod yX0_stepBefore, Cond.selects RX0 yX0_stepBefore yX0_stepBefore, Cond.code yX0_stepBefore cX0_stepBefore 5 (some .int), Cond.fieldLink RX0 21 "OrderTests$Findings" "steps" "[I", Cond.methodLink RX7 141 yX6_source, Cond.static yX6_source]
def wsX7_way_r2 : List Cond := [Cond.initialized RX6, Cond.code yX6_source cX6_source 1 (some .int), Cond.methodLink RX7 146 yX6_message, Cond.static yX6_message, Cond.code yX6_message cX6_message 1 (some .int), Cond.methodLink RX7 149 yX6_doubled, Cond.static yX6_doubled, Cond.code yX6_doubled cX6_doubled 1 (some .int)]
def wsX7_way : List Cond := .code yX7_way cX7_way 6 (some .int) :: ((wsX7_way_r1 ++ wsX7_way_r2) ++ wsX70 ++ wsX00)
def wsX7_shrink_r1 : List Cond := [Cond.fieldLink RX7 10 "OrderTests" "graph" "LOrderTests$Graph;", Cond.fieldLink RX7 38 "OrderTests" "search" "LOrderTests$Search;", Cond.fieldLink RX7 30 "OrderTests" "trial" "LOrderTests$Findings;", Cond.fieldLink RX7 119 "OrderTests$Findings" "ends" "I", Cond.fieldLink RX7 98 "OrderTests$Graph" "arcs" "I", Cond.methodLink RX7 61 yX7_isWithin, Cond.static yX7_isWithin, Cond.initialized RX7, Cond.code yX7_isWithin cX7_isWithin 3 (some .boolean), Cond.methodLink RX7 104 yX1_allArcs, Cond.instanceMethod yX1_allArcs, Cond.selects RX1 yX1_allArcs yX1_allArcs, Cond.initialized RX1, Cond.code yX1_allArcs cX1_allArcs 1 (some .int), Cond.fieldLink RX1 34 "OrderTests$Graph" "arcs" "I", Cond.methodLink RX7 108 yX3_run, Cond.instanceMethod yX3_run, Cond.selects RX3 yX3_run yX3_run, Cond.initialized RX3, Cond.code yX3_run cX3_run 5 none, Cond.fieldLink RX3 36 "OrderTests$Search" "findings" "LOrderTests$Findings;", Cond.fieldLink RX3 40 "OrderTests$Search" "limit" "I", Cond.fieldLink RX3 44 "OrderTests$Search" "staying" "I", Cond.fieldLink RX3 47 "OrderTests$Search" "isFull" "Z"]
def wsX7_shrink_r2 : List Cond := [Cond.fieldLink RX3 12 "OrderTests$Search" "found" "LOrderTests$States;", Cond.fieldLink RX3 28 "OrderTests$Search" "graph" "LOrderTests$Graph;", Cond.fieldLink RX3 54 "OrderTests$Graph" "vertices" "I", Cond.fieldLink RX3 25 "OrderTests$Search" "next" "LOrderTests$State;", Cond.fieldLink RX3 32 "OrderTests$Search" "rules" "LOrderTests$Rules;", Cond.fieldLink RX3 64 "OrderTests$Rules" "settings" "[I", Cond.fieldLink RX3 78 "OrderTests$States" "count" "I", Cond.fieldLink RX3 84 "OrderTests$Findings" "whole" "Z", Cond.methodLink RX3 51 yX5_clear, Cond.instanceMethod yX5_clear, Cond.selects RX5 yX5_clear yX5_clear, Cond.initialized RX5, Cond.code yX5_clear cX5_clear 1 none, Cond.fieldLink RX5 25 "OrderTests$States" "count" "I", Cond.fieldLink RX5 21 "OrderTests$States" "slots" "[I", Cond.methodLink RX5 29 yJ7_fill_53178, Cond.static yJ7_fill_53178, Cond.initialized RJ7, Cond.code yJ7_fill_53178 cJ7_fill_53178 4 none, Cond.methodLink RX3 59 yX0_clear, Cond.instanceMethod yX0_clear, Cond.selects RX0 yX0_clear yX0_clear, Cond.initialized RX0, Cond.code yX0_clear cX0_clear 2 none]
def wsX7_shrink_r3 : List Cond := [Cond.fieldLink RX0 24 "OrderTests$Findings" "states" "I", Cond.fieldLink RX0 28 "OrderTests$Findings" "vertices" "I", Cond.fieldLink RX0 31 "OrderTests$Findings" "ends" "I", Cond.fieldLink RX0 34 "OrderTests$Findings" "stepless" "I", Cond.fieldLink RX0 37 "OrderTests$Findings" "mostPending" "I", Cond.fieldLink RX0 40 "OrderTests$Findings" "whole" "Z", Cond.methodLink RX3 70 yX4_begin, Cond.instanceMethod yX4_begin, Cond.selects RX4 yX4_begin yX4_begin, Cond.initialized RX4, Cond.code yX4_begin cX4_begin 4 none, Cond.fieldLink RX4 15 "OrderTests$State" "head" "J", Cond.fieldLink RX4 19 "OrderTests$Graph" "vertices" "I", Cond.fieldLink RX4 25 "OrderTests$Graph" "begins" "[I", Cond.fieldLink RX4 29 "OrderTests$State" "lengths" "J", Cond.fieldLink RX4 11 "OrderTests$State" "rows" "[J", Cond.methodLink RX4 32 yJ7_fill_d0a16, Cond.static yJ7_fill_d0a16, Cond.code yJ7_fill_d0a16 cJ7_fill_d0a16 5 none, Cond.methodLink RX3 74 yX3_keepNext, Cond.instanceMethod yX3_keepNext, Cond.selects RX3 yX3_keepNext yX3_keepNext, Cond.code yX3_keepNext cX3_keepNext 4 none, Cond.fieldLink RX3 95 "OrderTests$Graph" "firsts" "I"]
def wsX7_shrink_r4 : List Cond := [Cond.methodLink RX3 179 yX5_freeSlot, Cond.instanceMethod yX5_freeSlot, Cond.selects RX5 yX5_freeSlot yX5_freeSlot, Cond.code yX5_freeSlot cX5_freeSlot 5 (some .int), Cond.methodLink RX5 35 yX4_hash, Cond.instanceMethod yX4_hash, Cond.selects RX4 yX4_hash yX4_hash, Cond.code yX4_hash cX4_hash 4 (some .int), Cond.constantLong RX4 66 (-7046029254386353131), Cond.methodLink RX5 41 yX5_isLike, Cond.instanceMethod yX5_isLike, Cond.selects RX5 yX5_isLike yX5_isLike, Cond.code yX5_isLike cX5_isLike 4 (some .boolean), Cond.fieldLink RX5 9 "OrderTests$States" "heads" "[J", Cond.fieldLink RX5 45 "OrderTests$State" "head" "J", Cond.fieldLink RX5 15 "OrderTests$States" "lengths" "[J", Cond.fieldLink RX5 49 "OrderTests$State" "lengths" "J", Cond.fieldLink RX5 18 "OrderTests$States" "rows" "[J", Cond.fieldLink RX5 51 "OrderTests$State" "rows" "[J", Cond.methodLink RX3 183 yX5_add, Cond.instanceMethod yX5_add, Cond.selects RX5 yX5_add yX5_add, Cond.code yX5_add cX5_add 3 none, Cond.methodLink RX5 52 arraycopyName]
def wsX7_shrink_r5 : List Cond := [Cond.native arraycopyName, Cond.static arraycopyName, Cond.initialized "java/lang/System", Cond.methodLink RX3 187 yX4_pending, Cond.instanceMethod yX4_pending, Cond.selects RX4 yX4_pending yX4_pending, Cond.code yX4_pending cX4_pending 4 (some .int), Cond.constantLong RX4 58 (15), Cond.methodLink RX4 60 yJ13_bitCount_95d88, Cond.static yJ13_bitCount_95d88, Cond.initialized RJ13, Cond.code yJ13_bitCount_95d88 cJ13_bitCount_95d88 2 (some .int), Cond.constantLong RJ13 314 (6148914691236517205), Cond.constantLong RJ13 316 (3689348814741910323), Cond.constantLong RJ13 318 (1085102592571150095), Cond.methodLink RX4 51 yX4_underWay, Cond.instanceMethod yX4_underWay, Cond.selects RX4 yX4_underWay yX4_underWay, Cond.code yX4_underWay cX4_underWay 2 (some .int), Cond.methodLink RX3 190 yX4_allValues, Cond.instanceMethod yX4_allValues, Cond.selects RX4 yX4_allValues yX4_allValues, Cond.code yX4_allValues cX4_allValues 1 (some .int), Cond.constant RX4 44 (1048575)]
def wsX7_shrink_r6 : List Cond := [Cond.methodLink RX3 193 yX0_note, Cond.instanceMethod yX0_note, Cond.selects RX0 yX0_note yX0_note, Cond.code yX0_note cX0_note 5 none, Cond.fieldLink RX0 18 "OrderTests$Findings" "parents" "[I", Cond.fieldLink RX0 21 "OrderTests$Findings" "steps" "[I", Cond.methodLink RX0 44 Lib.Math.max.name, Cond.static Lib.Math.max.name, Cond.initialized "java/lang/Math", Cond.code Lib.Math.max.name Lib.Math.max.code 2 (some .int), Cond.methodLink RX0 50 yX0_noteEnd, Cond.instanceMethod yX0_noteEnd, Cond.selects RX0 yX0_noteEnd yX0_noteEnd, Cond.code yX0_noteEnd cX0_noteEnd 3 none, Cond.fieldLink RX0 9 "OrderTests$Findings" "endValues" "[I", Cond.fieldLink RX0 15 "OrderTests$Findings" "endStates" "[I", Cond.methodLink RX3 81 yX3_goThrough, Cond.instanceMethod yX3_goThrough, Cond.selects RX3 yX3_goThrough yX3_goThrough, Cond.code yX3_goThrough cX3_goThrough 7 none, Cond.fieldLink RX3 21 "OrderTests$Search" "here" "LOrderTests$State;", Cond.fieldLink RX3 106 "OrderTests$Graph" "arcs" "I", Cond.methodLink RX3 87 yX5_load, Cond.instanceMethod yX5_load]
def wsX7_shrink_r7 : List Cond := [Cond.selects RX5 yX5_load yX5_load, Cond.code yX5_load cX5_load 3 none, Cond.methodLink RX3 91 yX4_doublesLeft, Cond.instanceMethod yX4_doublesLeft, Cond.selects RX4 yX4_doublesLeft yX4_doublesLeft, Cond.code yX4_doublesLeft cX4_doublesLeft 1 (some .int), Cond.methodLink RX3 98 yX4_hasCome, Cond.instanceMethod yX4_hasCome, Cond.selects RX4 yX4_hasCome yX4_hasCome, Cond.code yX4_hasCome cX4_hasCome 2 (some .boolean), Cond.methodLink RX3 102 yX3_take, Cond.instanceMethod yX3_take, Cond.selects RX3 yX3_take yX3_take, Cond.code yX3_take cX3_take 8 none, Cond.fieldLink RX3 133 "OrderTests$Graph" "firstValue" "[I", Cond.fieldLink RX3 136 "OrderTests$Graph" "firstTo" "[I", Cond.fieldLink RX3 139 "OrderTests$Graph" "arcTo" "[I", Cond.methodLink RX3 121 yX4_copy, Cond.instanceMethod yX4_copy, Cond.selects RX4 yX4_copy yX4_copy, Cond.code yX4_copy cX4_copy 2 none, Cond.methodLink RX4 38 arraycopyName, Cond.methodLink RX3 125 yX4_useDouble, Cond.instanceMethod yX4_useDouble]
def wsX7_shrink_r8 : List Cond := [Cond.selects RX4 yX4_useDouble yX4_useDouble, Cond.code yX4_useDouble cX4_useDouble 1 none, Cond.constantLong RX4 49 (562949953421312), Cond.methodLink RX3 128 yX4_markCome, Cond.instanceMethod yX4_markCome, Cond.selects RX4 yX4_markCome yX4_markCome, Cond.code yX4_markCome cX4_markCome 2 none, Cond.methodLink RX3 131 yX4_take, Cond.instanceMethod yX4_take, Cond.selects RX4 yX4_take yX4_take, Cond.code yX4_take cX4_take 10 none, Cond.methodLink RX3 117 yX4_messageAt, Cond.instanceMethod yX4_messageAt, Cond.selects RX4 yX4_messageAt yX4_messageAt, Cond.code yX4_messageAt cX4_messageAt 3 (some .int), Cond.methodLink RX3 142 yX3_deliver, Cond.instanceMethod yX3_deliver, Cond.selects RX3 yX3_deliver yX3_deliver, Cond.code yX3_deliver cX3_deliver 7 none, Cond.fieldLink RX3 166 "OrderTests$Graph" "arcFrom" "[I", Cond.fieldLink RX3 169 "OrderTests$Graph" "weights" "[I", Cond.methodLink RX3 151 yX4_valueOf, Cond.instanceMethod yX4_valueOf, Cond.selects RX4 yX4_valueOf yX4_valueOf]
def wsX7_shrink_r9 : List Cond := [Cond.code yX4_valueOf cX4_valueOf 2 (some .int), Cond.methodLink RX3 154 yX2_folded, Cond.instanceMethod yX2_folded, Cond.selects RX2 yX2_folded yX2_folded, Cond.initialized RX2, Cond.code yX2_folded cX2_folded 3 (some .int), Cond.fieldLink RX2 9 "OrderTests$Rules" "settings" "[I", Cond.methodLink RX2 22 Lib.Math.min.name, Cond.static Lib.Math.min.name, Cond.code Lib.Math.min.name Lib.Math.min.code 2 (some .int), Cond.methodLink RX2 27 Lib.Math.max.name, Cond.fieldLink RX2 15 "OrderTests$Rules" "told" "[I", Cond.methodLink RX2 18 yX2_cell, Cond.static yX2_cell, Cond.code yX2_cell cX2_cell 2 (some .int), Cond.methodLink RX3 157 yX4_change, Cond.instanceMethod yX4_change, Cond.selects RX4 yX4_change yX4_change, Cond.code yX4_change cX4_change 3 none, Cond.methodLink RX4 45 yX4_valueOf, Cond.methodLink RX3 160 yX4_sentBy, Cond.instanceMethod yX4_sentBy, Cond.selects RX4 yX4_sentBy yX4_sentBy, Cond.code yX4_sentBy cX4_sentBy 2 (some .int)]
def wsX7_shrink_r10 : List Cond := [Cond.methodLink RX3 163 yX4_countSend, Cond.instanceMethod yX4_countSend, Cond.selects RX4 yX4_countSend yX4_countSend, Cond.code yX4_countSend cX4_countSend 2 none, Cond.methodLink RX3 172 yX2_sentOut, Cond.instanceMethod yX2_sentOut, Cond.selects RX2 yX2_sentOut yX2_sentOut, Cond.code yX2_sentOut cX2_sentOut 3 (some .int), Cond.methodLink RX3 175 yX4_put, Cond.instanceMethod yX4_put, Cond.selects RX4 yX4_put yX4_put, Cond.code yX4_put cX4_put 13 none, Cond.methodLink RX4 54 yX4_messageAt, Cond.methodLink RX3 145 yX6_of, Cond.static yX6_of, Cond.initialized RX6, Cond.code yX6_of cX6_of 3 (some .int), Cond.methodLink RX3 109 yX4_underWay, Cond.methodLink RX3 113 yX3_isStep, Cond.instanceMethod yX3_isStep, Cond.selects RX3 yX3_isStep yX3_isStep, Cond.code yX3_isStep cX3_isStep 3 (some .boolean)]
def wsX7_shrink : List Cond := .code yX7_shrink cX7_shrink 5 (some .int) :: ((wsX7_shrink_r1 ++ (wsX7_shrink_r2 ++ (wsX7_shrink_r3 ++ (wsX7_shrink_r4 ++ (wsX7_shrink_r5 ++ (wsX7_shrink_r6 ++ (wsX7_shrink_r7 ++ (wsX7_shrink_r8 ++ (wsX7_shrink_r9 ++ wsX7_shrink_r10))))))))) ++ wsX70 ++ wsX00 ++ wsX10 ++ wsX30 ++ wsX20 ++ wsX50 ++ wsX40)
def wsX8_init : List Cond := .code yX8_init cX8_init 1 none :: ([.methodLink RX8 1 objectInit, .instanceMethod objectInit, .code objectInit ⟨#[0xb1]⟩ 1 none, .arrayClass .int, .fieldLink RX8 7 "OrderTestsModel" "begins" "[I", .fieldLink RX8 13 "OrderTestsModel" "arcFrom" "[I", .fieldLink RX8 16 "OrderTestsModel" "arcTo" "[I", .fieldLink RX8 19 "OrderTestsModel" "arcWeight" "[I", .fieldLink RX8 22 "OrderTestsModel" "firstTo" "[I", .fieldLink RX8 25 "OrderTestsModel" "firstValue" "[I", .fieldLink RX8 28 "OrderTestsModel" "settings" "[I", .fieldLink RX8 31 "OrderTestsModel" "tells" "[I", .constant RX8 34 (88800), .arrayClass .byte, .fieldLink RX8 35 "OrderTestsModel" "found" "[B", .fieldLink RX8 39 "OrderTestsModel" "places" "[I", .fieldLink RX8 42 "OrderTestsModel" "at" "[B", .fieldLink RX8 45 "OrderTestsModel" "endState" "[I", .fieldLink RX8 48 "OrderTestsModel" "endValues" "[B", .fieldLink RX8 51 "OrderTestsModel" "parent" "[I", .fieldLink RX8 54 "OrderTestsModel" "stepBy" "[I", .fieldLink RX8 57 "OrderTestsModel" "stepValue" "[I", .fieldLink RX8 60 "OrderTestsModel" "stepDouble" "[I", .fieldLink RX8 63 "OrderTestsModel" "hasLook" "Z"] ++ wsX80)
def wsX8_in : List Cond := .code yX8_in cX8_in 3 (some .boolean) :: ([])
def wsX8_vertex : List Cond := .code yX8_vertex cX8_vertex 2 (some .int) :: ([.fieldLink RX8 71 "OrderTestsModel" "vertices" "I", .fieldLink RX8 7 "OrderTestsModel" "begins" "[I", .methodLink RX8 67 yX8_in, .static yX8_in, .initialized RX8, .code yX8_in cX8_in 3 (some .boolean)] ++ wsX80)
def wsX8_arc : List Cond := .code yX8_arc cX8_arc 4 (some .int) :: ([.fieldLink RX8 71 "OrderTestsModel" "vertices" "I", .fieldLink RX8 75 "OrderTestsModel" "arcs" "I", .fieldLink RX8 13 "OrderTestsModel" "arcFrom" "[I", .fieldLink RX8 16 "OrderTestsModel" "arcTo" "[I", .fieldLink RX8 19 "OrderTestsModel" "arcWeight" "[I", .methodLink RX8 67 yX8_in, .static yX8_in, .initialized RX8, .code yX8_in cX8_in 3 (some .boolean)] ++ wsX80)
def wsX8_first : List Cond := .code yX8_first cX8_first 3 (some .int) :: ([.fieldLink RX8 71 "OrderTestsModel" "vertices" "I", .fieldLink RX8 78 "OrderTestsModel" "firsts" "I", .fieldLink RX8 22 "OrderTestsModel" "firstTo" "[I", .fieldLink RX8 25 "OrderTestsModel" "firstValue" "[I", .methodLink RX8 67 yX8_in, .static yX8_in, .initialized RX8, .code yX8_in cX8_in 3 (some .boolean)] ++ wsX80)
def wsX8_greatestOf : List Cond := .code yX8_greatestOf cX8_greatestOf 1 (some .int) :: ([])
def wsX8_set : List Cond := .code yX8_set cX8_set 4 (some .int) :: ([.fieldLink RX8 28 "OrderTestsModel" "settings" "[I", .methodLink RX8 67 yX8_in, .static yX8_in, .initialized RX8, .code yX8_in cX8_in 3 (some .boolean), .methodLink RX8 81 yX8_greatestOf, .static yX8_greatestOf, .code yX8_greatestOf cX8_greatestOf 1 (some .int)] ++ wsX80)
def wsX8_table : List Cond := .code yX8_table cX8_table 5 (some .int) :: ([.fieldLink RX8 31 "OrderTestsModel" "tells" "[I", .methodLink RX8 67 yX8_in, .static yX8_in, .initialized RX8, .code yX8_in cX8_in 3 (some .boolean)] ++ wsX80)
def wsX8_value : List Cond := .code yX8_value cX8_value 4 (some .int) :: ([.fieldLink RX8 71 "OrderTestsModel" "vertices" "I", .fieldLink RX8 7 "OrderTestsModel" "begins" "[I", .methodLink RX8 67 yX8_in, .static yX8_in, .initialized RX8, .code yX8_in cX8_in 3 (some .boolean)] ++ wsX80)
def wsX8_folded : List Cond := .code yX8_folded cX8_folded 3 (some .int) :: ([.fieldLink RX8 28 "OrderTestsModel" "settings" "[I", .fieldLink RX8 31 "OrderTestsModel" "tells" "[I"] ++ wsX80)
def wsX8_outOf : List Cond := .code yX8_outOf cX8_outOf 3 (some .int) :: ([.fieldLink RX8 28 "OrderTestsModel" "settings" "[I"] ++ wsX80)
def wsX8_fold : List Cond := .code yX8_fold cX8_fold 3 (some .int) :: ([.methodLink RX8 67 yX8_in, .static yX8_in, .initialized RX8, .code yX8_in cX8_in 3 (some .boolean), .methodLink RX8 85 yX8_folded, .instanceMethod yX8_folded, .selects RX8 yX8_folded yX8_folded, .code yX8_folded cX8_folded 3 (some .int), .fieldLink RX8 28 "OrderTestsModel" "settings" "[I", .fieldLink RX8 31 "OrderTestsModel" "tells" "[I"] ++ wsX80)
def wsX8_out : List Cond := .code yX8_out cX8_out 3 (some .int) :: ([.methodLink RX8 67 yX8_in, .static yX8_in, .initialized RX8, .code yX8_in cX8_in 3 (some .boolean), .methodLink RX8 89 yX8_outOf, .instanceMethod yX8_outOf, .selects RX8 yX8_outOf yX8_outOf, .code yX8_outOf cX8_outOf 3 (some .int), .fieldLink RX8 28 "OrderTestsModel" "settings" "[I"] ++ wsX80)
def wsX8_holds : List Cond := .code yX8_holds cX8_holds 5 (some .boolean) :: ([.methodLink RX8 85 yX8_folded, .instanceMethod yX8_folded, .selects RX8 yX8_folded yX8_folded, .initialized RX8, .code yX8_folded cX8_folded 3 (some .int), .fieldLink RX8 28 "OrderTestsModel" "settings" "[I", .fieldLink RX8 31 "OrderTestsModel" "tells" "[I"] ++ wsX80)
def wsX8_law : List Cond := .code yX8_law cX8_law 7 (some .int) :: ([.methodLink RX8 67 yX8_in, .static yX8_in, .initialized RX8, .code yX8_in cX8_in 3 (some .boolean), .methodLink RX8 92 yX8_holds, .instanceMethod yX8_holds, .selects RX8 yX8_holds yX8_holds, .code yX8_holds cX8_holds 5 (some .boolean), .methodLink RX8 85 yX8_folded, .instanceMethod yX8_folded, .selects RX8 yX8_folded yX8_folded, .code yX8_folded cX8_folded 3 (some .int), .fieldLink RX8 28 "OrderTestsModel" "settings" "[I", .fieldLink RX8 31 "OrderTestsModel" "tells" "[I"] ++ wsX80)
def wsX8_about : List Cond := .code yX8_about cX8_about 2 (some .int) :: ([.fieldLink RX8 71 "OrderTestsModel" "vertices" "I", .fieldLink RX8 75 "OrderTestsModel" "arcs" "I", .fieldLink RX8 78 "OrderTestsModel" "firsts" "I", .fieldLink RX8 28 "OrderTestsModel" "settings" "[I", .methodLink RX8 67 yX8_in, .static yX8_in, .initialized RX8, .code yX8_in cX8_in 3 (some .boolean)] ++ wsX80)
def wsX8_rowOf : List Cond := .code yX8_rowOf cX8_rowOf 1 (some .int) :: ([])
def wsX8_load : List Cond := .code yX8_load cX8_load 3 none :: ([.fieldLink RX8 42 "OrderTestsModel" "at" "[B", .fieldLink RX8 35 "OrderTestsModel" "found" "[B"] ++ wsX80)
def wsX8_send : List Cond := .code yX8_send cX8_send 6 none :: ([.fieldLink RX8 42 "OrderTestsModel" "at" "[B", .fieldLink RX8 28 "OrderTestsModel" "settings" "[I", .methodLink RX8 96 yX8_rowOf, .static yX8_rowOf, .initialized RX8, .code yX8_rowOf cX8_rowOf 1 (some .int)] ++ wsX80)
def wsX8_takeOff : List Cond := .code yX8_takeOff cX8_takeOff 6 none :: ([.fieldLink RX8 42 "OrderTestsModel" "at" "[B", .methodLink RX8 96 yX8_rowOf, .static yX8_rowOf, .initialized RX8, .code yX8_rowOf cX8_rowOf 1 (some .int)] ++ wsX80)
def wsX8_comes : List Cond := .code yX8_comes cX8_comes 7 none :: ([.fieldLink RX8 42 "OrderTestsModel" "at" "[B", .fieldLink RX8 28 "OrderTestsModel" "settings" "[I", .fieldLink RX8 75 "OrderTestsModel" "arcs" "I", .fieldLink RX8 13 "OrderTestsModel" "arcFrom" "[I", .fieldLink RX8 19 "OrderTestsModel" "arcWeight" "[I", .methodLink RX8 85 yX8_folded, .instanceMethod yX8_folded, .selects RX8 yX8_folded yX8_folded, .initialized RX8, .code yX8_folded cX8_folded 3 (some .int), .fieldLink RX8 31 "OrderTestsModel" "tells" "[I", .methodLink RX8 89 yX8_outOf, .instanceMethod yX8_outOf, .selects RX8 yX8_outOf yX8_outOf, .code yX8_outOf cX8_outOf 3 (some .int), .methodLink RX8 99 yX8_send, .instanceMethod yX8_send, .selects RX8 yX8_send yX8_send, .code yX8_send cX8_send 6 none, .methodLink RX8 96 yX8_rowOf, .static yX8_rowOf, .code yX8_rowOf cX8_rowOf 1 (some .int)] ++ wsX80)
def wsX8_hash : List Cond := .code yX8_hash cX8_hash 3 (some .int) :: ([])
def wsX8_isSame : List Cond := .code yX8_isSame cX8_isSame 3 (some .boolean) :: ([.fieldLink RX8 35 "OrderTestsModel" "found" "[B", .fieldLink RX8 42 "OrderTestsModel" "at" "[B"] ++ wsX80)
def wsX8_find : List Cond := .code yX8_find cX8_find 4 (some .int) :: ([.fieldLink RX8 42 "OrderTestsModel" "at" "[B", .fieldLink RX8 39 "OrderTestsModel" "places" "[I", .fieldLink RX8 111 "OrderTestsModel" "states" "I", .fieldLink RX8 35 "OrderTestsModel" "found" "[B", .methodLink RX8 103 yX8_hash, .static yX8_hash, .initialized RX8, .code yX8_hash cX8_hash 3 (some .int), .methodLink RX8 107 yX8_isSame, .instanceMethod yX8_isSame, .selects RX8 yX8_isSame yX8_isSame, .code yX8_isSame cX8_isSame 3 (some .boolean)] ++ wsX80)
def wsX8_step_r1 : List Cond := [Cond.fieldLink RX8 22 "OrderTestsModel" "firstTo" "[I", Cond.fieldLink RX8 25 "OrderTestsModel" "firstValue" "[I", Cond.fieldLink RX8 42 "OrderTestsModel" "at" "[B", Cond.fieldLink RX8 16 "OrderTestsModel" "arcTo" "[I", Cond.fieldLink RX8 128 "OrderTestsModel" "isOver" "Z", Cond.fieldLink RX8 131 "OrderTestsModel" "keepsSteps" "Z", Cond.fieldLink RX8 51 "OrderTestsModel" "parent" "[I", Cond.fieldLink RX8 111 "OrderTestsModel" "states" "I", Cond.fieldLink RX8 54 "OrderTestsModel" "stepBy" "[I", Cond.fieldLink RX8 57 "OrderTestsModel" "stepValue" "[I", Cond.fieldLink RX8 60 "OrderTestsModel" "stepDouble" "[I", Cond.methodLink RX8 114 yX8_load, Cond.instanceMethod yX8_load, Cond.selects RX8 yX8_load yX8_load, Cond.initialized RX8, Cond.code yX8_load cX8_load 3 none, Cond.fieldLink RX8 35 "OrderTestsModel" "found" "[B", Cond.methodLink RX8 96 yX8_rowOf, Cond.static yX8_rowOf, Cond.code yX8_rowOf cX8_rowOf 1 (some .int), Cond.methodLink RX8 118 yX8_takeOff, Cond.instanceMethod yX8_takeOff, Cond.selects RX8 yX8_takeOff yX8_takeOff, Cond.code yX8_takeOff cX8_takeOff 6 none]
def wsX8_step_r2 : List Cond := [Cond.methodLink RX8 121 yX8_comes, Cond.instanceMethod yX8_comes, Cond.selects RX8 yX8_comes yX8_comes, Cond.code yX8_comes cX8_comes 7 none, Cond.fieldLink RX8 28 "OrderTestsModel" "settings" "[I", Cond.fieldLink RX8 75 "OrderTestsModel" "arcs" "I", Cond.fieldLink RX8 13 "OrderTestsModel" "arcFrom" "[I", Cond.fieldLink RX8 19 "OrderTestsModel" "arcWeight" "[I", Cond.methodLink RX8 85 yX8_folded, Cond.instanceMethod yX8_folded, Cond.selects RX8 yX8_folded yX8_folded, Cond.code yX8_folded cX8_folded 3 (some .int), Cond.fieldLink RX8 31 "OrderTestsModel" "tells" "[I", Cond.methodLink RX8 89 yX8_outOf, Cond.instanceMethod yX8_outOf, Cond.selects RX8 yX8_outOf yX8_outOf, Cond.code yX8_outOf cX8_outOf 3 (some .int), Cond.methodLink RX8 99 yX8_send, Cond.instanceMethod yX8_send, Cond.selects RX8 yX8_send yX8_send, Cond.code yX8_send cX8_send 6 none, Cond.methodLink RX8 125 yX8_find, Cond.instanceMethod yX8_find, Cond.selects RX8 yX8_find yX8_find]
def wsX8_step_r3 : List Cond := [Cond.code yX8_find cX8_find 4 (some .int), Cond.fieldLink RX8 39 "OrderTestsModel" "places" "[I", Cond.methodLink RX8 103 yX8_hash, Cond.static yX8_hash, Cond.code yX8_hash cX8_hash 3 (some .int), Cond.methodLink RX8 107 yX8_isSame, Cond.instanceMethod yX8_isSame, Cond.selects RX8 yX8_isSame yX8_isSame, Cond.code yX8_isSame cX8_isSame 3 (some .boolean)]
def wsX8_step : List Cond := .code yX8_step cX8_step 10 none :: ((wsX8_step_r1 ++ (wsX8_step_r2 ++ wsX8_step_r3)) ++ wsX80)
def wsX8_stepBoth_r1 : List Cond := [Cond.fieldLink RX8 35 "OrderTestsModel" "found" "[B", Cond.fieldLink RX8 128 "OrderTestsModel" "isOver" "Z", Cond.methodLink RX8 134 yX8_step, Cond.instanceMethod yX8_step, Cond.selects RX8 yX8_step yX8_step, Cond.initialized RX8, Cond.code yX8_step cX8_step 10 none, Cond.fieldLink RX8 22 "OrderTestsModel" "firstTo" "[I", Cond.fieldLink RX8 25 "OrderTestsModel" "firstValue" "[I", Cond.fieldLink RX8 42 "OrderTestsModel" "at" "[B", Cond.fieldLink RX8 16 "OrderTestsModel" "arcTo" "[I", Cond.fieldLink RX8 131 "OrderTestsModel" "keepsSteps" "Z", Cond.fieldLink RX8 51 "OrderTestsModel" "parent" "[I", Cond.fieldLink RX8 111 "OrderTestsModel" "states" "I", Cond.fieldLink RX8 54 "OrderTestsModel" "stepBy" "[I", Cond.fieldLink RX8 57 "OrderTestsModel" "stepValue" "[I", Cond.fieldLink RX8 60 "OrderTestsModel" "stepDouble" "[I", Cond.methodLink RX8 114 yX8_load, Cond.instanceMethod yX8_load, Cond.selects RX8 yX8_load yX8_load, Cond.code yX8_load cX8_load 3 none, Cond.methodLink RX8 96 yX8_rowOf, Cond.static yX8_rowOf, Cond.code yX8_rowOf cX8_rowOf 1 (some .int)]
def wsX8_stepBoth_r2 : List Cond := [Cond.methodLink RX8 118 yX8_takeOff, Cond.instanceMethod yX8_takeOff, Cond.selects RX8 yX8_takeOff yX8_takeOff, Cond.code yX8_takeOff cX8_takeOff 6 none, Cond.methodLink RX8 121 yX8_comes, Cond.instanceMethod yX8_comes, Cond.selects RX8 yX8_comes yX8_comes, Cond.code yX8_comes cX8_comes 7 none, Cond.fieldLink RX8 28 "OrderTestsModel" "settings" "[I", Cond.fieldLink RX8 75 "OrderTestsModel" "arcs" "I", Cond.fieldLink RX8 13 "OrderTestsModel" "arcFrom" "[I", Cond.fieldLink RX8 19 "OrderTestsModel" "arcWeight" "[I", Cond.methodLink RX8 85 yX8_folded, Cond.instanceMethod yX8_folded, Cond.selects RX8 yX8_folded yX8_folded, Cond.code yX8_folded cX8_folded 3 (some .int), Cond.fieldLink RX8 31 "OrderTestsModel" "tells" "[I", Cond.methodLink RX8 89 yX8_outOf, Cond.instanceMethod yX8_outOf, Cond.selects RX8 yX8_outOf yX8_outOf, Cond.code yX8_outOf cX8_outOf 3 (some .int), Cond.methodLink RX8 99 yX8_send, Cond.instanceMethod yX8_send, Cond.selects RX8 yX8_send yX8_send]
def wsX8_stepBoth_r3 : List Cond := [Cond.code yX8_send cX8_send 6 none, Cond.methodLink RX8 125 yX8_find, Cond.instanceMethod yX8_find, Cond.selects RX8 yX8_find yX8_find, Cond.code yX8_find cX8_find 4 (some .int), Cond.fieldLink RX8 39 "OrderTestsModel" "places" "[I", Cond.methodLink RX8 103 yX8_hash, Cond.static yX8_hash, Cond.code yX8_hash cX8_hash 3 (some .int), Cond.methodLink RX8 107 yX8_isSame, Cond.instanceMethod yX8_isSame, Cond.selects RX8 yX8_isSame yX8_isSame, Cond.code yX8_isSame cX8_isSame 3 (some .boolean)]
def wsX8_stepBoth : List Cond := .code yX8_stepBoth cX8_stepBoth 8 none :: ((wsX8_stepBoth_r1 ++ (wsX8_stepBoth_r2 ++ wsX8_stepBoth_r3)) ++ wsX80)
def wsX8_goOn_r1 : List Cond := [Cond.fieldLink RX8 78 "OrderTestsModel" "firsts" "I", Cond.fieldLink RX8 128 "OrderTestsModel" "isOver" "Z", Cond.fieldLink RX8 35 "OrderTestsModel" "found" "[B", Cond.fieldLink RX8 75 "OrderTestsModel" "arcs" "I", Cond.fieldLink RX8 28 "OrderTestsModel" "settings" "[I", Cond.methodLink RX8 138 yX8_stepBoth, Cond.instanceMethod yX8_stepBoth, Cond.selects RX8 yX8_stepBoth yX8_stepBoth, Cond.initialized RX8, Cond.code yX8_stepBoth cX8_stepBoth 8 none, Cond.methodLink RX8 134 yX8_step, Cond.instanceMethod yX8_step, Cond.selects RX8 yX8_step yX8_step, Cond.code yX8_step cX8_step 10 none, Cond.fieldLink RX8 22 "OrderTestsModel" "firstTo" "[I", Cond.fieldLink RX8 25 "OrderTestsModel" "firstValue" "[I", Cond.fieldLink RX8 42 "OrderTestsModel" "at" "[B", Cond.fieldLink RX8 16 "OrderTestsModel" "arcTo" "[I", Cond.fieldLink RX8 131 "OrderTestsModel" "keepsSteps" "Z", Cond.fieldLink RX8 51 "OrderTestsModel" "parent" "[I", Cond.fieldLink RX8 111 "OrderTestsModel" "states" "I", Cond.fieldLink RX8 54 "OrderTestsModel" "stepBy" "[I", Cond.fieldLink RX8 57 "OrderTestsModel" "stepValue" "[I", Cond.fieldLink RX8 60 "OrderTestsModel" "stepDouble" "[I"]
def wsX8_goOn_r2 : List Cond := [Cond.methodLink RX8 114 yX8_load, Cond.instanceMethod yX8_load, Cond.selects RX8 yX8_load yX8_load, Cond.code yX8_load cX8_load 3 none, Cond.methodLink RX8 96 yX8_rowOf, Cond.static yX8_rowOf, Cond.code yX8_rowOf cX8_rowOf 1 (some .int), Cond.methodLink RX8 118 yX8_takeOff, Cond.instanceMethod yX8_takeOff, Cond.selects RX8 yX8_takeOff yX8_takeOff, Cond.code yX8_takeOff cX8_takeOff 6 none, Cond.methodLink RX8 121 yX8_comes, Cond.instanceMethod yX8_comes, Cond.selects RX8 yX8_comes yX8_comes, Cond.code yX8_comes cX8_comes 7 none, Cond.fieldLink RX8 13 "OrderTestsModel" "arcFrom" "[I", Cond.fieldLink RX8 19 "OrderTestsModel" "arcWeight" "[I", Cond.methodLink RX8 85 yX8_folded, Cond.instanceMethod yX8_folded, Cond.selects RX8 yX8_folded yX8_folded, Cond.code yX8_folded cX8_folded 3 (some .int), Cond.fieldLink RX8 31 "OrderTestsModel" "tells" "[I", Cond.methodLink RX8 89 yX8_outOf, Cond.instanceMethod yX8_outOf]
def wsX8_goOn_r3 : List Cond := [Cond.selects RX8 yX8_outOf yX8_outOf, Cond.code yX8_outOf cX8_outOf 3 (some .int), Cond.methodLink RX8 99 yX8_send, Cond.instanceMethod yX8_send, Cond.selects RX8 yX8_send yX8_send, Cond.code yX8_send cX8_send 6 none, Cond.methodLink RX8 125 yX8_find, Cond.instanceMethod yX8_find, Cond.selects RX8 yX8_find yX8_find, Cond.code yX8_find cX8_find 4 (some .int), Cond.fieldLink RX8 39 "OrderTestsModel" "places" "[I", Cond.methodLink RX8 103 yX8_hash, Cond.static yX8_hash, Cond.code yX8_hash cX8_hash 3 (some .int), Cond.methodLink RX8 107 yX8_isSame, Cond.instanceMethod yX8_isSame, Cond.selects RX8 yX8_isSame yX8_isSame, Cond.code yX8_isSame cX8_isSame 3 (some .boolean)]
def wsX8_goOn : List Cond := .code yX8_goOn cX8_goOn 8 none :: ((wsX8_goOn_r1 ++ (wsX8_goOn_r2 ++ wsX8_goOn_r3)) ++ wsX80)
def wsX8_openIn : List Cond := .code yX8_openIn cX8_openIn 4 (some .int) :: ([.fieldLink RX8 78 "OrderTestsModel" "firsts" "I", .fieldLink RX8 35 "OrderTestsModel" "found" "[B", .fieldLink RX8 75 "OrderTestsModel" "arcs" "I", .methodLink RX8 96 yX8_rowOf, .static yX8_rowOf, .initialized RX8, .code yX8_rowOf cX8_rowOf 1 (some .int)] ++ wsX80)
def wsX8_search_r1 : List Cond := [Cond.fieldLink RX8 111 "OrderTestsModel" "states" "I", Cond.fieldLink RX8 128 "OrderTestsModel" "isOver" "Z", Cond.fieldLink RX8 39 "OrderTestsModel" "places" "[I", Cond.fieldLink RX8 42 "OrderTestsModel" "at" "[B", Cond.fieldLink RX8 71 "OrderTestsModel" "vertices" "I", Cond.fieldLink RX8 7 "OrderTestsModel" "begins" "[I", Cond.fieldLink RX8 28 "OrderTestsModel" "settings" "[I", Cond.methodLink RX8 125 yX8_find, Cond.instanceMethod yX8_find, Cond.selects RX8 yX8_find yX8_find, Cond.initialized RX8, Cond.code yX8_find cX8_find 4 (some .int), Cond.fieldLink RX8 35 "OrderTestsModel" "found" "[B", Cond.methodLink RX8 103 yX8_hash, Cond.static yX8_hash, Cond.code yX8_hash cX8_hash 3 (some .int), Cond.methodLink RX8 107 yX8_isSame, Cond.instanceMethod yX8_isSame, Cond.selects RX8 yX8_isSame yX8_isSame, Cond.code yX8_isSame cX8_isSame 3 (some .boolean), Cond.methodLink RX8 142 yX8_goOn, Cond.instanceMethod yX8_goOn, Cond.selects RX8 yX8_goOn yX8_goOn, Cond.code yX8_goOn cX8_goOn 8 none]
def wsX8_search_r2 : List Cond := [Cond.fieldLink RX8 78 "OrderTestsModel" "firsts" "I", Cond.fieldLink RX8 75 "OrderTestsModel" "arcs" "I", Cond.methodLink RX8 138 yX8_stepBoth, Cond.instanceMethod yX8_stepBoth, Cond.selects RX8 yX8_stepBoth yX8_stepBoth, Cond.code yX8_stepBoth cX8_stepBoth 8 none, Cond.methodLink RX8 134 yX8_step, Cond.instanceMethod yX8_step, Cond.selects RX8 yX8_step yX8_step, Cond.code yX8_step cX8_step 10 none, Cond.fieldLink RX8 22 "OrderTestsModel" "firstTo" "[I", Cond.fieldLink RX8 25 "OrderTestsModel" "firstValue" "[I", Cond.fieldLink RX8 16 "OrderTestsModel" "arcTo" "[I", Cond.fieldLink RX8 131 "OrderTestsModel" "keepsSteps" "Z", Cond.fieldLink RX8 51 "OrderTestsModel" "parent" "[I", Cond.fieldLink RX8 54 "OrderTestsModel" "stepBy" "[I", Cond.fieldLink RX8 57 "OrderTestsModel" "stepValue" "[I", Cond.fieldLink RX8 60 "OrderTestsModel" "stepDouble" "[I", Cond.methodLink RX8 114 yX8_load, Cond.instanceMethod yX8_load, Cond.selects RX8 yX8_load yX8_load, Cond.code yX8_load cX8_load 3 none, Cond.methodLink RX8 96 yX8_rowOf, Cond.static yX8_rowOf]
def wsX8_search_r3 : List Cond := [Cond.code yX8_rowOf cX8_rowOf 1 (some .int), Cond.methodLink RX8 118 yX8_takeOff, Cond.instanceMethod yX8_takeOff, Cond.selects RX8 yX8_takeOff yX8_takeOff, Cond.code yX8_takeOff cX8_takeOff 6 none, Cond.methodLink RX8 121 yX8_comes, Cond.instanceMethod yX8_comes, Cond.selects RX8 yX8_comes yX8_comes, Cond.code yX8_comes cX8_comes 7 none, Cond.fieldLink RX8 13 "OrderTestsModel" "arcFrom" "[I", Cond.fieldLink RX8 19 "OrderTestsModel" "arcWeight" "[I", Cond.methodLink RX8 85 yX8_folded, Cond.instanceMethod yX8_folded, Cond.selects RX8 yX8_folded yX8_folded, Cond.code yX8_folded cX8_folded 3 (some .int), Cond.fieldLink RX8 31 "OrderTestsModel" "tells" "[I", Cond.methodLink RX8 89 yX8_outOf, Cond.instanceMethod yX8_outOf, Cond.selects RX8 yX8_outOf yX8_outOf, Cond.code yX8_outOf cX8_outOf 3 (some .int), Cond.methodLink RX8 99 yX8_send, Cond.instanceMethod yX8_send, Cond.selects RX8 yX8_send yX8_send, Cond.code yX8_send cX8_send 6 none]
def wsX8_search : List Cond := .code yX8_search cX8_search 5 (some .boolean) :: ((wsX8_search_r1 ++ (wsX8_search_r2 ++ wsX8_search_r3)) ++ wsX80)
def wsX8_isLike : List Cond := .code yX8_isLike cX8_isLike 5 (some .boolean) :: ([.fieldLink RX8 35 "OrderTestsModel" "found" "[B"] ++ wsX80)
def wsX8_isFirstOf : List Cond := .code yX8_isFirstOf cX8_isFirstOf 3 (some .boolean) :: ([.methodLink RX8 145 yX8_openIn, .instanceMethod yX8_openIn, .selects RX8 yX8_openIn yX8_openIn, .initialized RX8, .code yX8_openIn cX8_openIn 4 (some .int), .fieldLink RX8 78 "OrderTestsModel" "firsts" "I", .fieldLink RX8 35 "OrderTestsModel" "found" "[B", .fieldLink RX8 75 "OrderTestsModel" "arcs" "I", .methodLink RX8 96 yX8_rowOf, .static yX8_rowOf, .code yX8_rowOf cX8_rowOf 1 (some .int), .methodLink RX8 148 yX8_isLike, .instanceMethod yX8_isLike, .selects RX8 yX8_isLike yX8_isLike, .code yX8_isLike cX8_isLike 5 (some .boolean)] ++ wsX80)
def wsX8_countEnds : List Cond := .code yX8_countEnds cX8_countEnds 3 (some .int) :: ([.fieldLink RX8 111 "OrderTestsModel" "states" "I", .methodLink RX8 152 yX8_isFirstOf, .instanceMethod yX8_isFirstOf, .selects RX8 yX8_isFirstOf yX8_isFirstOf, .initialized RX8, .code yX8_isFirstOf cX8_isFirstOf 3 (some .boolean), .methodLink RX8 145 yX8_openIn, .instanceMethod yX8_openIn, .selects RX8 yX8_openIn yX8_openIn, .code yX8_openIn cX8_openIn 4 (some .int), .fieldLink RX8 78 "OrderTestsModel" "firsts" "I", .fieldLink RX8 35 "OrderTestsModel" "found" "[B", .fieldLink RX8 75 "OrderTestsModel" "arcs" "I", .methodLink RX8 96 yX8_rowOf, .static yX8_rowOf, .code yX8_rowOf cX8_rowOf 1 (some .int), .methodLink RX8 148 yX8_isLike, .instanceMethod yX8_isLike, .selects RX8 yX8_isLike yX8_isLike, .code yX8_isLike cX8_isLike 5 (some .boolean)] ++ wsX80)
def wsX8_look_r1 : List Cond := [Cond.fieldLink RX8 131 "OrderTestsModel" "keepsSteps" "Z", Cond.fieldLink RX8 51 "OrderTestsModel" "parent" "[I", Cond.fieldLink RX8 158 "OrderTestsModel" "wasWhole" "Z", Cond.fieldLink RX8 63 "OrderTestsModel" "hasLook" "Z", Cond.fieldLink RX8 71 "OrderTestsModel" "vertices" "I", Cond.fieldLink RX8 161 "OrderTestsModel" "lookedVertices" "I", Cond.fieldLink RX8 164 "OrderTestsModel" "deadMany" "I", Cond.fieldLink RX8 167 "OrderTestsModel" "greatest" "I", Cond.fieldLink RX8 170 "OrderTestsModel" "ends" "I", Cond.fieldLink RX8 111 "OrderTestsModel" "states" "I", Cond.fieldLink RX8 45 "OrderTestsModel" "endState" "[I", Cond.fieldLink RX8 48 "OrderTestsModel" "endValues" "[B", Cond.fieldLink RX8 35 "OrderTestsModel" "found" "[B", Cond.methodLink RX8 67 yX8_in, Cond.static yX8_in, Cond.initialized RX8, Cond.code yX8_in cX8_in 3 (some .boolean), Cond.methodLink RX8 155 yX8_search, Cond.instanceMethod yX8_search, Cond.selects RX8 yX8_search yX8_search, Cond.code yX8_search cX8_search 5 (some .boolean), Cond.fieldLink RX8 128 "OrderTestsModel" "isOver" "Z", Cond.fieldLink RX8 39 "OrderTestsModel" "places" "[I", Cond.fieldLink RX8 42 "OrderTestsModel" "at" "[B"]
def wsX8_look_r2 : List Cond := [Cond.fieldLink RX8 7 "OrderTestsModel" "begins" "[I", Cond.fieldLink RX8 28 "OrderTestsModel" "settings" "[I", Cond.methodLink RX8 125 yX8_find, Cond.instanceMethod yX8_find, Cond.selects RX8 yX8_find yX8_find, Cond.code yX8_find cX8_find 4 (some .int), Cond.methodLink RX8 103 yX8_hash, Cond.static yX8_hash, Cond.code yX8_hash cX8_hash 3 (some .int), Cond.methodLink RX8 107 yX8_isSame, Cond.instanceMethod yX8_isSame, Cond.selects RX8 yX8_isSame yX8_isSame, Cond.code yX8_isSame cX8_isSame 3 (some .boolean), Cond.methodLink RX8 142 yX8_goOn, Cond.instanceMethod yX8_goOn, Cond.selects RX8 yX8_goOn yX8_goOn, Cond.code yX8_goOn cX8_goOn 8 none, Cond.fieldLink RX8 78 "OrderTestsModel" "firsts" "I", Cond.fieldLink RX8 75 "OrderTestsModel" "arcs" "I", Cond.methodLink RX8 138 yX8_stepBoth, Cond.instanceMethod yX8_stepBoth, Cond.selects RX8 yX8_stepBoth yX8_stepBoth, Cond.code yX8_stepBoth cX8_stepBoth 8 none, Cond.methodLink RX8 134 yX8_step]
def wsX8_look_r3 : List Cond := [Cond.instanceMethod yX8_step, Cond.selects RX8 yX8_step yX8_step, Cond.code yX8_step cX8_step 10 none, Cond.fieldLink RX8 22 "OrderTestsModel" "firstTo" "[I", Cond.fieldLink RX8 25 "OrderTestsModel" "firstValue" "[I", Cond.fieldLink RX8 16 "OrderTestsModel" "arcTo" "[I", Cond.fieldLink RX8 54 "OrderTestsModel" "stepBy" "[I", Cond.fieldLink RX8 57 "OrderTestsModel" "stepValue" "[I", Cond.fieldLink RX8 60 "OrderTestsModel" "stepDouble" "[I", Cond.methodLink RX8 114 yX8_load, Cond.instanceMethod yX8_load, Cond.selects RX8 yX8_load yX8_load, Cond.code yX8_load cX8_load 3 none, Cond.methodLink RX8 96 yX8_rowOf, Cond.static yX8_rowOf, Cond.code yX8_rowOf cX8_rowOf 1 (some .int), Cond.methodLink RX8 118 yX8_takeOff, Cond.instanceMethod yX8_takeOff, Cond.selects RX8 yX8_takeOff yX8_takeOff, Cond.code yX8_takeOff cX8_takeOff 6 none, Cond.methodLink RX8 121 yX8_comes, Cond.instanceMethod yX8_comes, Cond.selects RX8 yX8_comes yX8_comes, Cond.code yX8_comes cX8_comes 7 none]
def wsX8_look_r4 : List Cond := [Cond.fieldLink RX8 13 "OrderTestsModel" "arcFrom" "[I", Cond.fieldLink RX8 19 "OrderTestsModel" "arcWeight" "[I", Cond.methodLink RX8 85 yX8_folded, Cond.instanceMethod yX8_folded, Cond.selects RX8 yX8_folded yX8_folded, Cond.code yX8_folded cX8_folded 3 (some .int), Cond.fieldLink RX8 31 "OrderTestsModel" "tells" "[I", Cond.methodLink RX8 89 yX8_outOf, Cond.instanceMethod yX8_outOf, Cond.selects RX8 yX8_outOf yX8_outOf, Cond.code yX8_outOf cX8_outOf 3 (some .int), Cond.methodLink RX8 99 yX8_send, Cond.instanceMethod yX8_send, Cond.selects RX8 yX8_send yX8_send, Cond.code yX8_send cX8_send 6 none, Cond.methodLink RX8 145 yX8_openIn, Cond.instanceMethod yX8_openIn, Cond.selects RX8 yX8_openIn yX8_openIn, Cond.code yX8_openIn cX8_openIn 4 (some .int), Cond.methodLink RX8 152 yX8_isFirstOf, Cond.instanceMethod yX8_isFirstOf, Cond.selects RX8 yX8_isFirstOf yX8_isFirstOf, Cond.code yX8_isFirstOf cX8_isFirstOf 3 (some .boolean), Cond.methodLink RX8 148 yX8_isLike]
def wsX8_look_r5 : List Cond := [Cond.instanceMethod yX8_isLike, Cond.selects RX8 yX8_isLike yX8_isLike, Cond.code yX8_isLike cX8_isLike 5 (some .boolean)]
def wsX8_look : List Cond := .code yX8_look cX8_look 5 (some .int) :: ((wsX8_look_r1 ++ (wsX8_look_r2 ++ (wsX8_look_r3 ++ (wsX8_look_r4 ++ wsX8_look_r5)))) ++ wsX80)
def wsX8_looked : List Cond := .code yX8_looked cX8_looked 2 (some .int) :: ([.fieldLink RX8 63 "OrderTestsModel" "hasLook" "Z", .fieldLink RX8 158 "OrderTestsModel" "wasWhole" "Z", .fieldLink RX8 170 "OrderTestsModel" "ends" "I", .fieldLink RX8 164 "OrderTestsModel" "deadMany" "I", .fieldLink RX8 167 "OrderTestsModel" "greatest" "I", .methodLink RX8 67 yX8_in, .static yX8_in, .initialized RX8, .code yX8_in cX8_in 3 (some .boolean)] ++ wsX80)
def wsX8_end : List Cond := .code yX8_end cX8_end 3 (some .int) :: ([.fieldLink RX8 63 "OrderTestsModel" "hasLook" "Z", .fieldLink RX8 170 "OrderTestsModel" "ends" "I", .fieldLink RX8 161 "OrderTestsModel" "lookedVertices" "I", .fieldLink RX8 48 "OrderTestsModel" "endValues" "[B", .methodLink RX8 67 yX8_in, .static yX8_in, .initialized RX8, .code yX8_in cX8_in 3 (some .boolean)] ++ wsX80)
def wsX8_way : List Cond := .code yX8_way cX8_way 7 (some .int) :: ([.fieldLink RX8 63 "OrderTestsModel" "hasLook" "Z", .fieldLink RX8 170 "OrderTestsModel" "ends" "I", .fieldLink RX8 45 "OrderTestsModel" "endState" "[I", .fieldLink RX8 51 "OrderTestsModel" "parent" "[I", .fieldLink RX8 54 "OrderTestsModel" "stepBy" "[I", .fieldLink RX8 57 "OrderTestsModel" "stepValue" "[I", .fieldLink RX8 60 "OrderTestsModel" "stepDouble" "[I", .methodLink RX8 67 yX8_in, .static yX8_in, .initialized RX8, .code yX8_in cX8_in 3 (some .boolean)] ++ wsX80)
def wsX8_shrink_r1 : List Cond := [Cond.fieldLink RX8 131 "OrderTestsModel" "keepsSteps" "Z", Cond.fieldLink RX8 75 "OrderTestsModel" "arcs" "I", Cond.methodLink RX8 67 yX8_in, Cond.static yX8_in, Cond.initialized RX8, Cond.code yX8_in cX8_in 3 (some .boolean), Cond.methodLink RX8 155 yX8_search, Cond.instanceMethod yX8_search, Cond.selects RX8 yX8_search yX8_search, Cond.code yX8_search cX8_search 5 (some .boolean), Cond.fieldLink RX8 111 "OrderTestsModel" "states" "I", Cond.fieldLink RX8 128 "OrderTestsModel" "isOver" "Z", Cond.fieldLink RX8 39 "OrderTestsModel" "places" "[I", Cond.fieldLink RX8 42 "OrderTestsModel" "at" "[B", Cond.fieldLink RX8 71 "OrderTestsModel" "vertices" "I", Cond.fieldLink RX8 7 "OrderTestsModel" "begins" "[I", Cond.fieldLink RX8 28 "OrderTestsModel" "settings" "[I", Cond.methodLink RX8 125 yX8_find, Cond.instanceMethod yX8_find, Cond.selects RX8 yX8_find yX8_find, Cond.code yX8_find cX8_find 4 (some .int), Cond.fieldLink RX8 35 "OrderTestsModel" "found" "[B", Cond.methodLink RX8 103 yX8_hash, Cond.static yX8_hash]
def wsX8_shrink_r2 : List Cond := [Cond.code yX8_hash cX8_hash 3 (some .int), Cond.methodLink RX8 107 yX8_isSame, Cond.instanceMethod yX8_isSame, Cond.selects RX8 yX8_isSame yX8_isSame, Cond.code yX8_isSame cX8_isSame 3 (some .boolean), Cond.methodLink RX8 142 yX8_goOn, Cond.instanceMethod yX8_goOn, Cond.selects RX8 yX8_goOn yX8_goOn, Cond.code yX8_goOn cX8_goOn 8 none, Cond.fieldLink RX8 78 "OrderTestsModel" "firsts" "I", Cond.methodLink RX8 138 yX8_stepBoth, Cond.instanceMethod yX8_stepBoth, Cond.selects RX8 yX8_stepBoth yX8_stepBoth, Cond.code yX8_stepBoth cX8_stepBoth 8 none, Cond.methodLink RX8 134 yX8_step, Cond.instanceMethod yX8_step, Cond.selects RX8 yX8_step yX8_step, Cond.code yX8_step cX8_step 10 none, Cond.fieldLink RX8 22 "OrderTestsModel" "firstTo" "[I", Cond.fieldLink RX8 25 "OrderTestsModel" "firstValue" "[I", Cond.fieldLink RX8 16 "OrderTestsModel" "arcTo" "[I", Cond.fieldLink RX8 51 "OrderTestsModel" "parent" "[I", Cond.fieldLink RX8 54 "OrderTestsModel" "stepBy" "[I", Cond.fieldLink RX8 57 "OrderTestsModel" "stepValue" "[I"]
def wsX8_shrink_r3 : List Cond := [Cond.fieldLink RX8 60 "OrderTestsModel" "stepDouble" "[I", Cond.methodLink RX8 114 yX8_load, Cond.instanceMethod yX8_load, Cond.selects RX8 yX8_load yX8_load, Cond.code yX8_load cX8_load 3 none, Cond.methodLink RX8 96 yX8_rowOf, Cond.static yX8_rowOf, Cond.code yX8_rowOf cX8_rowOf 1 (some .int), Cond.methodLink RX8 118 yX8_takeOff, Cond.instanceMethod yX8_takeOff, Cond.selects RX8 yX8_takeOff yX8_takeOff, Cond.code yX8_takeOff cX8_takeOff 6 none, Cond.methodLink RX8 121 yX8_comes, Cond.instanceMethod yX8_comes, Cond.selects RX8 yX8_comes yX8_comes, Cond.code yX8_comes cX8_comes 7 none, Cond.fieldLink RX8 13 "OrderTestsModel" "arcFrom" "[I", Cond.fieldLink RX8 19 "OrderTestsModel" "arcWeight" "[I", Cond.methodLink RX8 85 yX8_folded, Cond.instanceMethod yX8_folded, Cond.selects RX8 yX8_folded yX8_folded, Cond.code yX8_folded cX8_folded 3 (some .int), Cond.fieldLink RX8 31 "OrderTestsModel" "tells" "[I", Cond.methodLink RX8 89 yX8_outOf]
def wsX8_shrink_r4 : List Cond := [Cond.instanceMethod yX8_outOf, Cond.selects RX8 yX8_outOf yX8_outOf, Cond.code yX8_outOf cX8_outOf 3 (some .int), Cond.methodLink RX8 99 yX8_send, Cond.instanceMethod yX8_send, Cond.selects RX8 yX8_send yX8_send, Cond.code yX8_send cX8_send 6 none, Cond.methodLink RX8 173 yX8_countEnds, Cond.instanceMethod yX8_countEnds, Cond.selects RX8 yX8_countEnds yX8_countEnds, Cond.code yX8_countEnds cX8_countEnds 3 (some .int), Cond.methodLink RX8 152 yX8_isFirstOf, Cond.instanceMethod yX8_isFirstOf, Cond.selects RX8 yX8_isFirstOf yX8_isFirstOf, Cond.code yX8_isFirstOf cX8_isFirstOf 3 (some .boolean), Cond.methodLink RX8 145 yX8_openIn, Cond.instanceMethod yX8_openIn, Cond.selects RX8 yX8_openIn yX8_openIn, Cond.code yX8_openIn cX8_openIn 4 (some .int), Cond.methodLink RX8 148 yX8_isLike, Cond.instanceMethod yX8_isLike, Cond.selects RX8 yX8_isLike yX8_isLike, Cond.code yX8_isLike cX8_isLike 5 (some .boolean)]
def wsX8_shrink : List Cond := .code yX8_shrink cX8_shrink 4 (some .int) :: ((wsX8_shrink_r1 ++ (wsX8_shrink_r2 ++ (wsX8_shrink_r3 ++ wsX8_shrink_r4))) ++ wsX80)
def wsJ9_max_7cf53 : List Cond := .code yJ9_max_7cf53 cJ9_max_7cf53 2 (some .int) :: ([])
def wsJ9_min_7cf53 : List Cond := .code yJ9_min_7cf53 cJ9_min_7cf53 2 (some .int) :: ([])
def wsL_law_r1 : List Cond := [Cond.classLink RL 7 RX7, Cond.instantiable RX7 5, Cond.initialized RX7, Cond.classLink RL 10 RX8, Cond.instantiable RX8 29, Cond.initialized RX8, Cond.methodLink RL 9 yX7_init, Cond.instanceMethod yX7_init, Cond.code yX7_init cX7_init 1 none, Cond.methodLink RX7 1 objectInit, Cond.instanceMethod objectInit, Cond.code objectInit ⟨#[0xb1]⟩ 1 none, Cond.classLink RX7 7 RX1, Cond.instantiable RX1 9, Cond.initialized RX1, Cond.fieldLink RX7 10 "OrderTests" "graph" "LOrderTests$Graph;", Cond.classLink RX7 16 RX2, Cond.instantiable RX2 2, Cond.initialized RX2, Cond.fieldLink RX7 19 "OrderTests" "rules" "LOrderTests$Rules;", Cond.classLink RX7 23 RX0, Cond.instantiable RX0 10, Cond.initialized RX0, Cond.fieldLink RX7 26 "OrderTests" "latest" "LOrderTests$Findings;"]
def wsL_law_r2 : List Cond := [Cond.fieldLink RX7 30 "OrderTests" "trial" "LOrderTests$Findings;", Cond.classLink RX7 33 RX3, Cond.instantiable RX3 9, Cond.initialized RX3, Cond.fieldLink RX7 38 "OrderTests" "search" "LOrderTests$Search;", Cond.instanceMethod yX1_init, Cond.code yX1_init cX1_init 1 none, Cond.methodLink RX1 3 objectInit, Cond.arrayClass .int, Cond.fieldLink RX1 9 "OrderTests$Graph" "begins" "[I", Cond.fieldLink RX1 15 "OrderTests$Graph" "arcFrom" "[I", Cond.fieldLink RX1 18 "OrderTests$Graph" "arcTo" "[I", Cond.fieldLink RX1 21 "OrderTests$Graph" "weights" "[I", Cond.fieldLink RX1 24 "OrderTests$Graph" "firstTo" "[I", Cond.fieldLink RX1 27 "OrderTests$Graph" "firstValue" "[I", Cond.instanceMethod yX2_init, Cond.code yX2_init cX2_init 1 none, Cond.methodLink RX2 3 objectInit, Cond.fieldLink RX2 9 "OrderTests$Rules" "settings" "[I", Cond.fieldLink RX2 15 "OrderTests$Rules" "told" "[I", Cond.instanceMethod yX0_init, Cond.code yX0_init cX0_init 1 none, Cond.methodLink RX0 3 objectInit, Cond.fieldLink RX0 9 "OrderTests$Findings" "endValues" "[I"]
def wsL_law_r3 : List Cond := [Cond.fieldLink RX0 15 "OrderTests$Findings" "endStates" "[I", Cond.fieldLink RX0 18 "OrderTests$Findings" "parents" "[I", Cond.fieldLink RX0 21 "OrderTests$Findings" "steps" "[I", Cond.methodLink RX7 35 yX3_init, Cond.instanceMethod yX3_init, Cond.code yX3_init cX3_init 4 none, Cond.methodLink RX3 3 objectInit, Cond.classLink RX3 9 RX5, Cond.instantiable RX5 5, Cond.initialized RX5, Cond.fieldLink RX3 12 "OrderTests$Search" "found" "LOrderTests$States;", Cond.classLink RX3 18 RX4, Cond.instantiable RX4 3, Cond.initialized RX4, Cond.fieldLink RX3 21 "OrderTests$Search" "here" "LOrderTests$State;", Cond.fieldLink RX3 25 "OrderTests$Search" "next" "LOrderTests$State;", Cond.fieldLink RX3 28 "OrderTests$Search" "graph" "LOrderTests$Graph;", Cond.fieldLink RX3 32 "OrderTests$Search" "rules" "LOrderTests$Rules;", Cond.fieldLink RX3 36 "OrderTests$Search" "findings" "LOrderTests$Findings;", Cond.instanceMethod yX5_init, Cond.code yX5_init cX5_init 1 none, Cond.methodLink RX5 3 objectInit, Cond.arrayClass .long, Cond.fieldLink RX5 9 "OrderTests$States" "heads" "[J"]
def wsL_law_r4 : List Cond := [Cond.fieldLink RX5 15 "OrderTests$States" "lengths" "[J", Cond.fieldLink RX5 18 "OrderTests$States" "rows" "[J", Cond.fieldLink RX5 21 "OrderTests$States" "slots" "[I", Cond.instanceMethod yX4_init, Cond.code yX4_init cX4_init 1 none, Cond.methodLink RX4 5 objectInit, Cond.fieldLink RX4 11 "OrderTests$State" "rows" "[J", Cond.methodLink RL 12 yX8_init, Cond.instanceMethod yX8_init, Cond.code yX8_init cX8_init 1 none, Cond.methodLink RX8 1 objectInit, Cond.fieldLink RX8 7 "OrderTestsModel" "begins" "[I", Cond.fieldLink RX8 13 "OrderTestsModel" "arcFrom" "[I", Cond.fieldLink RX8 16 "OrderTestsModel" "arcTo" "[I", Cond.fieldLink RX8 19 "OrderTestsModel" "arcWeight" "[I", Cond.fieldLink RX8 22 "OrderTestsModel" "firstTo" "[I", Cond.fieldLink RX8 25 "OrderTestsModel" "firstValue" "[I", Cond.fieldLink RX8 28 "OrderTestsModel" "settings" "[I", Cond.fieldLink RX8 31 "OrderTestsModel" "tells" "[I", Cond.constant RX8 34 (88800), Cond.arrayClass .byte, Cond.fieldLink RX8 35 "OrderTestsModel" "found" "[B", Cond.fieldLink RX8 39 "OrderTestsModel" "places" "[I", Cond.fieldLink RX8 42 "OrderTestsModel" "at" "[B"]
def wsL_law_r5 : List Cond := [Cond.fieldLink RX8 45 "OrderTestsModel" "endState" "[I", Cond.fieldLink RX8 48 "OrderTestsModel" "endValues" "[B", Cond.fieldLink RX8 51 "OrderTestsModel" "parent" "[I", Cond.fieldLink RX8 54 "OrderTestsModel" "stepBy" "[I", Cond.fieldLink RX8 57 "OrderTestsModel" "stepValue" "[I", Cond.fieldLink RX8 60 "OrderTestsModel" "stepDouble" "[I", Cond.fieldLink RX8 63 "OrderTestsModel" "hasLook" "Z", Cond.methodLink RL 13 yX7_vertex, Cond.instanceMethod yX7_vertex, Cond.selects RX7 yX7_vertex yX7_vertex, Cond.code yX7_vertex cX7_vertex 2 (some .int), Cond.methodLink RX7 42 yX7_isValue, Cond.static yX7_isValue, Cond.code yX7_isValue cX7_isValue 1 (some .boolean), Cond.methodLink RX7 46 yX1_addVertex, Cond.instanceMethod yX1_addVertex, Cond.selects RX1 yX1_addVertex yX1_addVertex, Cond.code yX1_addVertex cX1_addVertex 2 (some .int), Cond.fieldLink RX1 30 "OrderTests$Graph" "vertices" "I", Cond.methodLink RL 17 yX8_vertex, Cond.instanceMethod yX8_vertex, Cond.selects RX8 yX8_vertex yX8_vertex, Cond.code yX8_vertex cX8_vertex 2 (some .int), Cond.fieldLink RX8 71 "OrderTestsModel" "vertices" "I"]
def wsL_law_r6 : List Cond := [Cond.methodLink RX8 67 yX8_in, Cond.static yX8_in, Cond.code yX8_in cX8_in 3 (some .boolean), Cond.methodLink RL 18 yX7_arc, Cond.instanceMethod yX7_arc, Cond.selects RX7 yX7_arc yX7_arc, Cond.code yX7_arc cX7_arc 4 (some .int), Cond.methodLink RX7 50 yX1_hasVertex, Cond.instanceMethod yX1_hasVertex, Cond.selects RX1 yX1_hasVertex yX1_hasVertex, Cond.code yX1_hasVertex cX1_hasVertex 2 (some .boolean), Cond.methodLink RX7 53 yX1_addArc, Cond.instanceMethod yX1_addArc, Cond.selects RX1 yX1_addArc yX1_addArc, Cond.code yX1_addArc cX1_addArc 4 (some .int), Cond.fieldLink RX1 34 "OrderTests$Graph" "arcs" "I", Cond.methodLink RL 22 yX8_arc, Cond.instanceMethod yX8_arc, Cond.selects RX8 yX8_arc yX8_arc, Cond.code yX8_arc cX8_arc 4 (some .int), Cond.fieldLink RX8 75 "OrderTestsModel" "arcs" "I", Cond.methodLink RL 23 yX7_first, Cond.instanceMethod yX7_first, Cond.selects RX7 yX7_first yX7_first]
def wsL_law_r7 : List Cond := [Cond.code yX7_first cX7_first 3 (some .int), Cond.methodLink RX7 57 yX1_addFirst, Cond.instanceMethod yX1_addFirst, Cond.selects RX1 yX1_addFirst yX1_addFirst, Cond.code yX1_addFirst cX1_addFirst 3 (some .int), Cond.fieldLink RX1 37 "OrderTests$Graph" "firsts" "I", Cond.methodLink RL 27 yX8_first, Cond.instanceMethod yX8_first, Cond.selects RX8 yX8_first yX8_first, Cond.code yX8_first cX8_first 3 (some .int), Cond.fieldLink RX8 78 "OrderTestsModel" "firsts" "I", Cond.methodLink RL 28 yX7_set, Cond.instanceMethod yX7_set, Cond.selects RX7 yX7_set yX7_set, Cond.code yX7_set cX7_set 4 (some .int), Cond.fieldLink RX7 65 "OrderTests" "LEAST_SETTING" "[I", Cond.fieldLink RX7 69 "OrderTests" "GREATEST_SETTING" "[I", Cond.fieldLink RX7 72 "OrderTests$Rules" "settings" "[I", Cond.methodLink RX7 61 yX7_isWithin, Cond.static yX7_isWithin, Cond.code yX7_isWithin cX7_isWithin 3 (some .boolean), Cond.methodLink RL 31 yX8_set, Cond.instanceMethod yX8_set, Cond.selects RX8 yX8_set yX8_set]
def wsL_law_r8 : List Cond := [Cond.code yX8_set cX8_set 4 (some .int), Cond.methodLink RX8 81 yX8_greatestOf, Cond.static yX8_greatestOf, Cond.code yX8_greatestOf cX8_greatestOf 1 (some .int), Cond.methodLink RL 32 yX7_table, Cond.instanceMethod yX7_table, Cond.selects RX7 yX7_table yX7_table, Cond.code yX7_table cX7_table 4 (some .int), Cond.methodLink RX7 75 yX2_tell, Cond.instanceMethod yX2_tell, Cond.selects RX2 yX2_tell yX2_tell, Cond.code yX2_tell cX2_tell 5 (some .int), Cond.methodLink RX2 18 yX2_cell, Cond.static yX2_cell, Cond.code yX2_cell cX2_cell 2 (some .int), Cond.methodLink RL 35 yX8_table, Cond.instanceMethod yX8_table, Cond.selects RX8 yX8_table yX8_table, Cond.code yX8_table cX8_table 5 (some .int), Cond.methodLink RL 36 yX7_value, Cond.instanceMethod yX7_value, Cond.selects RX7 yX7_value yX7_value, Cond.code yX7_value cX7_value 4 (some .int), Cond.fieldLink RX7 78 "OrderTests$Graph" "begins" "[I"]
def wsL_law_r9 : List Cond := [Cond.methodLink RL 39 yX8_value, Cond.instanceMethod yX8_value, Cond.selects RX8 yX8_value yX8_value, Cond.code yX8_value cX8_value 4 (some .int), Cond.methodLink RL 40 yX7_fold, Cond.instanceMethod yX7_fold, Cond.selects RX7 yX7_fold yX7_fold, Cond.code yX7_fold cX7_fold 3 (some .int), Cond.methodLink RX7 81 yX2_folded, Cond.instanceMethod yX2_folded, Cond.selects RX2 yX2_folded yX2_folded, Cond.code yX2_folded cX2_folded 3 (some .int), Cond.methodLink RX2 22 Lib.Math.min.name, Cond.static Lib.Math.min.name, Cond.initialized "java/lang/Math", Cond.code Lib.Math.min.name Lib.Math.min.code 2 (some .int), Cond.methodLink RX2 27 Lib.Math.max.name, Cond.static Lib.Math.max.name, Cond.code Lib.Math.max.name Lib.Math.max.code 2 (some .int), Cond.methodLink RL 43 yX8_fold, Cond.instanceMethod yX8_fold, Cond.selects RX8 yX8_fold yX8_fold, Cond.code yX8_fold cX8_fold 3 (some .int), Cond.methodLink RX8 85 yX8_folded]
def wsL_law_r10 : List Cond := [Cond.instanceMethod yX8_folded, Cond.selects RX8 yX8_folded yX8_folded, Cond.code yX8_folded cX8_folded 3 (some .int), Cond.methodLink RL 44 yX7_out, Cond.instanceMethod yX7_out, Cond.selects RX7 yX7_out yX7_out, Cond.code yX7_out cX7_out 3 (some .int), Cond.methodLink RX7 84 yX2_sentOut, Cond.instanceMethod yX2_sentOut, Cond.selects RX2 yX2_sentOut yX2_sentOut, Cond.code yX2_sentOut cX2_sentOut 3 (some .int), Cond.methodLink RL 47 yX8_out, Cond.instanceMethod yX8_out, Cond.selects RX8 yX8_out yX8_out, Cond.code yX8_out cX8_out 3 (some .int), Cond.methodLink RX8 89 yX8_outOf, Cond.instanceMethod yX8_outOf, Cond.selects RX8 yX8_outOf yX8_outOf, Cond.code yX8_outOf cX8_outOf 3 (some .int), Cond.methodLink RL 48 yX7_law, Cond.instanceMethod yX7_law, Cond.selects RX7 yX7_law yX7_law, Cond.code yX7_law cX7_law 7 (some .int), Cond.fieldLink RX7 87 "OrderTests" "LAW_VALUES" "[I"]
def wsL_law_r11 : List Cond := [Cond.methodLink RX7 90 yX2_lawHolds, Cond.instanceMethod yX2_lawHolds, Cond.selects RX2 yX2_lawHolds yX2_lawHolds, Cond.code yX2_lawHolds cX2_lawHolds 5 (some .boolean), Cond.methodLink RX2 30 yX2_folded, Cond.methodLink RL 51 yX8_law, Cond.instanceMethod yX8_law, Cond.selects RX8 yX8_law yX8_law, Cond.code yX8_law cX8_law 7 (some .int), Cond.methodLink RX8 92 yX8_holds, Cond.instanceMethod yX8_holds, Cond.selects RX8 yX8_holds yX8_holds, Cond.code yX8_holds cX8_holds 5 (some .boolean), Cond.methodLink RL 52 yX7_about, Cond.instanceMethod yX7_about, Cond.selects RX7 yX7_about yX7_about, Cond.code yX7_about cX7_about 2 (some .int), Cond.fieldLink RX7 94 "OrderTests$Graph" "vertices" "I", Cond.fieldLink RX7 98 "OrderTests$Graph" "arcs" "I", Cond.fieldLink RX7 101 "OrderTests$Graph" "firsts" "I", Cond.methodLink RL 55 yX8_about, Cond.instanceMethod yX8_about, Cond.selects RX8 yX8_about yX8_about, Cond.code yX8_about cX8_about 2 (some .int)]
def wsL_law_r12 : List Cond := [Cond.methodLink RL 56 yX7_look, Cond.instanceMethod yX7_look, Cond.selects RX7 yX7_look yX7_look, Cond.code yX7_look cX7_look 2 (some .int), Cond.fieldLink RX7 112 "OrderTests$Findings" "states" "I", Cond.methodLink RX7 104 yX1_allArcs, Cond.instanceMethod yX1_allArcs, Cond.selects RX1 yX1_allArcs yX1_allArcs, Cond.code yX1_allArcs cX1_allArcs 1 (some .int), Cond.methodLink RX7 108 yX3_run, Cond.instanceMethod yX3_run, Cond.selects RX3 yX3_run yX3_run, Cond.code yX3_run cX3_run 5 none, Cond.fieldLink RX3 40 "OrderTests$Search" "limit" "I", Cond.fieldLink RX3 44 "OrderTests$Search" "staying" "I", Cond.fieldLink RX3 47 "OrderTests$Search" "isFull" "Z", Cond.fieldLink RX3 54 "OrderTests$Graph" "vertices" "I", Cond.fieldLink RX3 64 "OrderTests$Rules" "settings" "[I", Cond.fieldLink RX3 78 "OrderTests$States" "count" "I", Cond.fieldLink RX3 84 "OrderTests$Findings" "whole" "Z", Cond.methodLink RX3 51 yX5_clear, Cond.instanceMethod yX5_clear, Cond.selects RX5 yX5_clear yX5_clear, Cond.code yX5_clear cX5_clear 1 none]
def wsL_law_r13 : List Cond := [Cond.fieldLink RX5 25 "OrderTests$States" "count" "I", Cond.methodLink RX5 29 yJ7_fill_53178, Cond.static yJ7_fill_53178, Cond.initialized RJ7, Cond.code yJ7_fill_53178 cJ7_fill_53178 4 none, Cond.methodLink RX3 59 yX0_clear, Cond.instanceMethod yX0_clear, Cond.selects RX0 yX0_clear yX0_clear, Cond.code yX0_clear cX0_clear 2 none, Cond.fieldLink RX0 24 "OrderTests$Findings" "states" "I", Cond.fieldLink RX0 28 "OrderTests$Findings" "vertices" "I", Cond.fieldLink RX0 31 "OrderTests$Findings" "ends" "I", Cond.fieldLink RX0 34 "OrderTests$Findings" "stepless" "I", Cond.fieldLink RX0 37 "OrderTests$Findings" "mostPending" "I", Cond.fieldLink RX0 40 "OrderTests$Findings" "whole" "Z", Cond.methodLink RX3 70 yX4_begin, Cond.instanceMethod yX4_begin, Cond.selects RX4 yX4_begin yX4_begin, Cond.code yX4_begin cX4_begin 4 none, Cond.fieldLink RX4 15 "OrderTests$State" "head" "J", Cond.fieldLink RX4 19 "OrderTests$Graph" "vertices" "I", Cond.fieldLink RX4 25 "OrderTests$Graph" "begins" "[I", Cond.fieldLink RX4 29 "OrderTests$State" "lengths" "J", Cond.methodLink RX4 32 yJ7_fill_d0a16]
def wsL_law_r14 : List Cond := [Cond.static yJ7_fill_d0a16, Cond.code yJ7_fill_d0a16 cJ7_fill_d0a16 5 none, Cond.methodLink RX3 74 yX3_keepNext, Cond.instanceMethod yX3_keepNext, Cond.selects RX3 yX3_keepNext yX3_keepNext, Cond.code yX3_keepNext cX3_keepNext 4 none, Cond.fieldLink RX3 95 "OrderTests$Graph" "firsts" "I", Cond.methodLink RX3 179 yX5_freeSlot, Cond.instanceMethod yX5_freeSlot, Cond.selects RX5 yX5_freeSlot yX5_freeSlot, Cond.code yX5_freeSlot cX5_freeSlot 5 (some .int), Cond.methodLink RX5 35 yX4_hash, Cond.instanceMethod yX4_hash, Cond.selects RX4 yX4_hash yX4_hash, Cond.code yX4_hash cX4_hash 4 (some .int), Cond.constantLong RX4 66 (-7046029254386353131), Cond.methodLink RX5 41 yX5_isLike, Cond.instanceMethod yX5_isLike, Cond.selects RX5 yX5_isLike yX5_isLike, Cond.code yX5_isLike cX5_isLike 4 (some .boolean), Cond.fieldLink RX5 45 "OrderTests$State" "head" "J", Cond.fieldLink RX5 49 "OrderTests$State" "lengths" "J", Cond.fieldLink RX5 51 "OrderTests$State" "rows" "[J", Cond.methodLink RX3 183 yX5_add]
def wsL_law_r15 : List Cond := [Cond.instanceMethod yX5_add, Cond.selects RX5 yX5_add yX5_add, Cond.code yX5_add cX5_add 3 none, Cond.methodLink RX5 52 arraycopyName, Cond.native arraycopyName, Cond.static arraycopyName, Cond.initialized "java/lang/System", Cond.methodLink RX3 187 yX4_pending, Cond.instanceMethod yX4_pending, Cond.selects RX4 yX4_pending yX4_pending, Cond.code yX4_pending cX4_pending 4 (some .int), Cond.constantLong RX4 58 (15), Cond.methodLink RX4 60 yJ13_bitCount_95d88, Cond.static yJ13_bitCount_95d88, Cond.initialized RJ13, Cond.code yJ13_bitCount_95d88 cJ13_bitCount_95d88 2 (some .int), Cond.constantLong RJ13 314 (6148914691236517205), Cond.constantLong RJ13 316 (3689348814741910323), Cond.constantLong RJ13 318 (1085102592571150095), Cond.methodLink RX4 51 yX4_underWay, Cond.instanceMethod yX4_underWay, Cond.selects RX4 yX4_underWay yX4_underWay, Cond.code yX4_underWay cX4_underWay 2 (some .int), Cond.methodLink RX3 190 yX4_allValues]
def wsL_law_r16 : List Cond := [Cond.instanceMethod yX4_allValues, Cond.selects RX4 yX4_allValues yX4_allValues, Cond.code yX4_allValues cX4_allValues 1 (some .int), Cond.constant RX4 44 (1048575), Cond.methodLink RX3 193 yX0_note, Cond.instanceMethod yX0_note, Cond.selects RX0 yX0_note yX0_note, Cond.code yX0_note cX0_note 5 none, Cond.methodLink RX0 44 Lib.Math.max.name, Cond.methodLink RX0 50 yX0_noteEnd, Cond.instanceMethod yX0_noteEnd, Cond.selects RX0 yX0_noteEnd yX0_noteEnd, Cond.code yX0_noteEnd cX0_noteEnd 3 none, Cond.methodLink RX3 81 yX3_goThrough, Cond.instanceMethod yX3_goThrough, Cond.selects RX3 yX3_goThrough yX3_goThrough, Cond.code yX3_goThrough cX3_goThrough 7 none, Cond.fieldLink RX3 106 "OrderTests$Graph" "arcs" "I", Cond.methodLink RX3 87 yX5_load, Cond.instanceMethod yX5_load, Cond.selects RX5 yX5_load yX5_load, Cond.code yX5_load cX5_load 3 none, Cond.methodLink RX3 91 yX4_doublesLeft, Cond.instanceMethod yX4_doublesLeft]
def wsL_law_r17 : List Cond := [Cond.selects RX4 yX4_doublesLeft yX4_doublesLeft, Cond.code yX4_doublesLeft cX4_doublesLeft 1 (some .int), Cond.methodLink RX3 98 yX4_hasCome, Cond.instanceMethod yX4_hasCome, Cond.selects RX4 yX4_hasCome yX4_hasCome, Cond.code yX4_hasCome cX4_hasCome 2 (some .boolean), Cond.methodLink RX3 102 yX3_take, Cond.instanceMethod yX3_take, Cond.selects RX3 yX3_take yX3_take, Cond.code yX3_take cX3_take 8 none, Cond.fieldLink RX3 133 "OrderTests$Graph" "firstValue" "[I", Cond.fieldLink RX3 136 "OrderTests$Graph" "firstTo" "[I", Cond.fieldLink RX3 139 "OrderTests$Graph" "arcTo" "[I", Cond.methodLink RX3 121 yX4_copy, Cond.instanceMethod yX4_copy, Cond.selects RX4 yX4_copy yX4_copy, Cond.code yX4_copy cX4_copy 2 none, Cond.methodLink RX4 38 arraycopyName, Cond.methodLink RX3 125 yX4_useDouble, Cond.instanceMethod yX4_useDouble, Cond.selects RX4 yX4_useDouble yX4_useDouble, Cond.code yX4_useDouble cX4_useDouble 1 none, Cond.constantLong RX4 49 (562949953421312), Cond.methodLink RX3 128 yX4_markCome]
def wsL_law_r18 : List Cond := [Cond.instanceMethod yX4_markCome, Cond.selects RX4 yX4_markCome yX4_markCome, Cond.code yX4_markCome cX4_markCome 2 none, Cond.methodLink RX3 131 yX4_take, Cond.instanceMethod yX4_take, Cond.selects RX4 yX4_take yX4_take, Cond.code yX4_take cX4_take 10 none, Cond.methodLink RX3 117 yX4_messageAt, Cond.instanceMethod yX4_messageAt, Cond.selects RX4 yX4_messageAt yX4_messageAt, Cond.code yX4_messageAt cX4_messageAt 3 (some .int), Cond.methodLink RX3 142 yX3_deliver, Cond.instanceMethod yX3_deliver, Cond.selects RX3 yX3_deliver yX3_deliver, Cond.code yX3_deliver cX3_deliver 7 none, Cond.fieldLink RX3 166 "OrderTests$Graph" "arcFrom" "[I", Cond.fieldLink RX3 169 "OrderTests$Graph" "weights" "[I", Cond.methodLink RX3 151 yX4_valueOf, Cond.instanceMethod yX4_valueOf, Cond.selects RX4 yX4_valueOf yX4_valueOf, Cond.code yX4_valueOf cX4_valueOf 2 (some .int), Cond.methodLink RX3 154 yX2_folded, Cond.methodLink RX3 157 yX4_change, Cond.instanceMethod yX4_change]
def wsL_law_r19 : List Cond := [Cond.selects RX4 yX4_change yX4_change, Cond.code yX4_change cX4_change 3 none, Cond.methodLink RX4 45 yX4_valueOf, Cond.methodLink RX3 160 yX4_sentBy, Cond.instanceMethod yX4_sentBy, Cond.selects RX4 yX4_sentBy yX4_sentBy, Cond.code yX4_sentBy cX4_sentBy 2 (some .int), Cond.methodLink RX3 163 yX4_countSend, Cond.instanceMethod yX4_countSend, Cond.selects RX4 yX4_countSend yX4_countSend, Cond.code yX4_countSend cX4_countSend 2 none, Cond.methodLink RX3 172 yX2_sentOut, Cond.methodLink RX3 175 yX4_put, Cond.instanceMethod yX4_put, Cond.selects RX4 yX4_put yX4_put, Cond.code yX4_put cX4_put 13 none, Cond.methodLink RX4 54 yX4_messageAt, Cond.methodLink RX3 145 yX6_of, Cond.static yX6_of, Cond.initialized RX6, Cond.code yX6_of cX6_of 3 (some .int), Cond.methodLink RX3 109 yX4_underWay, Cond.methodLink RX3 113 yX3_isStep, Cond.instanceMethod yX3_isStep]
def wsL_law_r20 : List Cond := [Cond.selects RX3 yX3_isStep yX3_isStep, Cond.code yX3_isStep cX3_isStep 3 (some .boolean), Cond.methodLink RL 59 yX8_look, Cond.instanceMethod yX8_look, Cond.selects RX8 yX8_look yX8_look, Cond.code yX8_look cX8_look 5 (some .int), Cond.fieldLink RX8 131 "OrderTestsModel" "keepsSteps" "Z", Cond.fieldLink RX8 158 "OrderTestsModel" "wasWhole" "Z", Cond.fieldLink RX8 161 "OrderTestsModel" "lookedVertices" "I", Cond.fieldLink RX8 164 "OrderTestsModel" "deadMany" "I", Cond.fieldLink RX8 167 "OrderTestsModel" "greatest" "I", Cond.fieldLink RX8 170 "OrderTestsModel" "ends" "I", Cond.fieldLink RX8 111 "OrderTestsModel" "states" "I", Cond.methodLink RX8 155 yX8_search, Cond.instanceMethod yX8_search, Cond.selects RX8 yX8_search yX8_search, Cond.code yX8_search cX8_search 5 (some .boolean), Cond.fieldLink RX8 128 "OrderTestsModel" "isOver" "Z", Cond.methodLink RX8 125 yX8_find, Cond.instanceMethod yX8_find, Cond.selects RX8 yX8_find yX8_find, Cond.code yX8_find cX8_find 4 (some .int), Cond.methodLink RX8 103 yX8_hash, Cond.static yX8_hash]
def wsL_law_r21 : List Cond := [Cond.code yX8_hash cX8_hash 3 (some .int), Cond.methodLink RX8 107 yX8_isSame, Cond.instanceMethod yX8_isSame, Cond.selects RX8 yX8_isSame yX8_isSame, Cond.code yX8_isSame cX8_isSame 3 (some .boolean), Cond.methodLink RX8 142 yX8_goOn, Cond.instanceMethod yX8_goOn, Cond.selects RX8 yX8_goOn yX8_goOn, Cond.code yX8_goOn cX8_goOn 8 none, Cond.methodLink RX8 138 yX8_stepBoth, Cond.instanceMethod yX8_stepBoth, Cond.selects RX8 yX8_stepBoth yX8_stepBoth, Cond.code yX8_stepBoth cX8_stepBoth 8 none, Cond.methodLink RX8 134 yX8_step, Cond.instanceMethod yX8_step, Cond.selects RX8 yX8_step yX8_step, Cond.code yX8_step cX8_step 10 none, Cond.methodLink RX8 114 yX8_load, Cond.instanceMethod yX8_load, Cond.selects RX8 yX8_load yX8_load, Cond.code yX8_load cX8_load 3 none, Cond.methodLink RX8 96 yX8_rowOf, Cond.static yX8_rowOf, Cond.code yX8_rowOf cX8_rowOf 1 (some .int)]
def wsL_law_r22 : List Cond := [Cond.methodLink RX8 118 yX8_takeOff, Cond.instanceMethod yX8_takeOff, Cond.selects RX8 yX8_takeOff yX8_takeOff, Cond.code yX8_takeOff cX8_takeOff 6 none, Cond.methodLink RX8 121 yX8_comes, Cond.instanceMethod yX8_comes, Cond.selects RX8 yX8_comes yX8_comes, Cond.code yX8_comes cX8_comes 7 none, Cond.methodLink RX8 99 yX8_send, Cond.instanceMethod yX8_send, Cond.selects RX8 yX8_send yX8_send, Cond.code yX8_send cX8_send 6 none, Cond.methodLink RX8 145 yX8_openIn, Cond.instanceMethod yX8_openIn, Cond.selects RX8 yX8_openIn yX8_openIn, Cond.code yX8_openIn cX8_openIn 4 (some .int), Cond.methodLink RX8 152 yX8_isFirstOf, Cond.instanceMethod yX8_isFirstOf, Cond.selects RX8 yX8_isFirstOf yX8_isFirstOf, Cond.code yX8_isFirstOf cX8_isFirstOf 3 (some .boolean), Cond.methodLink RX8 148 yX8_isLike, Cond.instanceMethod yX8_isLike, Cond.selects RX8 yX8_isLike yX8_isLike, Cond.code yX8_isLike cX8_isLike 5 (some .boolean)]
def wsL_law_r23 : List Cond := [Cond.methodLink RL 60 yX7_looked, Cond.instanceMethod yX7_looked, Cond.selects RX7 yX7_looked yX7_looked, Cond.code yX7_looked cX7_looked 2 (some .int), Cond.fieldLink RX7 115 "OrderTests$Findings" "whole" "Z", Cond.fieldLink RX7 119 "OrderTests$Findings" "ends" "I", Cond.fieldLink RX7 122 "OrderTests$Findings" "stepless" "I", Cond.fieldLink RX7 125 "OrderTests$Findings" "mostPending" "I", Cond.methodLink RL 63 yX8_looked, Cond.instanceMethod yX8_looked, Cond.selects RX8 yX8_looked yX8_looked, Cond.code yX8_looked cX8_looked 2 (some .int), Cond.methodLink RL 64 yX7_end, Cond.instanceMethod yX7_end, Cond.selects RX7 yX7_end yX7_end, Cond.code yX7_end cX7_end 3 (some .int), Cond.fieldLink RX7 131 "OrderTests$Findings" "vertices" "I", Cond.fieldLink RX7 132 "OrderTests$Findings" "endValues" "[I", Cond.methodLink RX7 128 yX0_hasEnd, Cond.instanceMethod yX0_hasEnd, Cond.selects RX0 yX0_hasEnd yX0_hasEnd, Cond.code yX0_hasEnd cX0_hasEnd 2 (some .boolean), Cond.methodLink RL 67 yX8_end, Cond.instanceMethod yX8_end]
def wsL_law_r24 : List Cond := [Cond.selects RX8 yX8_end yX8_end, Cond.code yX8_end cX8_end 3 (some .int), Cond.methodLink RL 68 yX7_way, Cond.instanceMethod yX7_way, Cond.selects RX7 yX7_way yX7_way, Cond.code yX7_way cX7_way 6 (some .int), Cond.methodLink RX7 135 yX0_wayLength, Cond.instanceMethod yX0_wayLength, Cond.selects RX0 yX0_wayLength yX0_wayLength, Cond.code yX0_wayLength cX0_wayLength 4 (some .int), Cond.methodLink RX7 138 yX0_stepBefore, Cond.instanceMethod yX0_stepBefore, Cond.selects RX0 yX0_stepBefore yX0_stepBefore, Cond.code yX0_stepBefore cX0_stepBefore 5 (some .int), Cond.methodLink RX7 141 yX6_source, Cond.static yX6_source, Cond.code yX6_source cX6_source 1 (some .int), Cond.methodLink RX7 146 yX6_message, Cond.static yX6_message, Cond.code yX6_message cX6_message 1 (some .int), Cond.methodLink RX7 149 yX6_doubled, Cond.static yX6_doubled, Cond.code yX6_doubled cX6_doubled 1 (some .int), Cond.methodLink RL 71 yX8_way]
def wsL_law_r25 : List Cond := [Cond.instanceMethod yX8_way, Cond.selects RX8 yX8_way yX8_way, Cond.code yX8_way cX8_way 7 (some .int), Cond.methodLink RL 72 yX7_shrink, Cond.instanceMethod yX7_shrink, Cond.selects RX7 yX7_shrink yX7_shrink, Cond.code yX7_shrink cX7_shrink 5 (some .int), Cond.methodLink RL 75 yX8_shrink, Cond.instanceMethod yX8_shrink, Cond.selects RX8 yX8_shrink yX8_shrink, Cond.code yX8_shrink cX8_shrink 4 (some .int), Cond.methodLink RX8 173 yX8_countEnds, Cond.instanceMethod yX8_countEnds, Cond.selects RX8 yX8_countEnds yX8_countEnds, Cond.code yX8_countEnds cX8_countEnds 3 (some .int)]
def wsL_law : List Cond := (wsL_law_r1 ++ (wsL_law_r2 ++ (wsL_law_r3 ++ (wsL_law_r4 ++ (wsL_law_r5 ++ (wsL_law_r6 ++ (wsL_law_r7 ++ (wsL_law_r8 ++ (wsL_law_r9 ++ (wsL_law_r10 ++ (wsL_law_r11 ++ (wsL_law_r12 ++ (wsL_law_r13 ++ (wsL_law_r14 ++ (wsL_law_r15 ++ (wsL_law_r16 ++ (wsL_law_r17 ++ (wsL_law_r18 ++ (wsL_law_r19 ++ (wsL_law_r20 ++ (wsL_law_r21 ++ (wsL_law_r22 ++ (wsL_law_r23 ++ (wsL_law_r24 ++ wsL_law_r25)))))))))))))))))))))))) ++ wsX70 ++ wsX80 ++ wsX10 ++ wsX20 ++ wsX00 ++ wsX30 ++ wsX50 ++ wsX40 ++ ([] : List Cond)
theorem inlX0 : ∀ w ∈ wsX00, w ∈ wsL_law := fun _ h => List.mem_append_left _ (List.mem_append_left _ (List.mem_append_left _ (List.mem_append_left _ (List.mem_append_right _ h))))
theorem inlX1 : ∀ w ∈ wsX10, w ∈ wsL_law := fun _ h => List.mem_append_left _ (List.mem_append_left _ (List.mem_append_left _ (List.mem_append_left _ (List.mem_append_left _ (List.mem_append_left _ (List.mem_append_right _ h))))))
theorem inlX2 : ∀ w ∈ wsX20, w ∈ wsL_law := fun _ h => List.mem_append_left _ (List.mem_append_left _ (List.mem_append_left _ (List.mem_append_left _ (List.mem_append_left _ (List.mem_append_right _ h)))))
theorem inlX3 : ∀ w ∈ wsX30, w ∈ wsL_law := fun _ h => List.mem_append_left _ (List.mem_append_left _ (List.mem_append_left _ (List.mem_append_right _ h)))
theorem inlX4 : ∀ w ∈ wsX40, w ∈ wsL_law := fun _ h => List.mem_append_left _ (List.mem_append_right _ h)
theorem inlX5 : ∀ w ∈ wsX50, w ∈ wsL_law := fun _ h => List.mem_append_left _ (List.mem_append_left _ (List.mem_append_right _ h))
theorem inlX7 : ∀ w ∈ wsX70, w ∈ wsL_law := fun _ h => List.mem_append_left _ (List.mem_append_left _ (List.mem_append_left _ (List.mem_append_left _ (List.mem_append_left _ (List.mem_append_left _ (List.mem_append_left _ (List.mem_append_left _ (List.mem_append_right _ h))))))))
theorem inlX8 : ∀ w ∈ wsX80, w ∈ wsL_law := fun _ h => List.mem_append_left _ (List.mem_append_left _ (List.mem_append_left _ (List.mem_append_left _ (List.mem_append_left _ (List.mem_append_left _ (List.mem_append_left _ (List.mem_append_right _ h)))))))
abbrev vwCl : List vw_C := [(RX0, TX0, 10), (RX1, TX1, 9), (RX2, TX2, 2), (RX3, TX3, 9), (RX4, TX4, 3), (RX5, TX5, 5), (RX7, TX7, 5), (RX8, TX8, 29)]
end
section
theorem dX0_init_0 : decode cX0_init 0 = .ok (.aload_n 0, 1) := by decide +kernel
theorem dX0_init_1 : decode cX0_init 1 = .ok (.invokespecial 3, 3) := by decide +kernel
theorem dX0_init_4 : decode cX0_init 4 = .ok (.aload_n 0, 1) := by decide +kernel
theorem dX0_init_5 : decode cX0_init 5 = .ok (.sipush 600, 3) := by decide +kernel
theorem dX0_init_8 : decode cX0_init 8 = .ok (.newarray .int, 2) := by decide +kernel
theorem dX0_init_10 : decode cX0_init 10 = .ok (.putfield 9, 3) := by decide +kernel
theorem dX0_init_13 : decode cX0_init 13 = .ok (.aload_n 0, 1) := by decide +kernel
theorem dX0_init_14 : decode cX0_init 14 = .ok (.sipush 600, 3) := by decide +kernel
theorem dX0_init_17 : decode cX0_init 17 = .ok (.newarray .int, 2) := by decide +kernel
theorem dX0_init_19 : decode cX0_init 19 = .ok (.putfield 15, 3) := by decide +kernel
theorem dX0_init_22 : decode cX0_init 22 = .ok (.aload_n 0, 1) := by decide +kernel
theorem dX0_init_23 : decode cX0_init 23 = .ok (.sipush 600, 3) := by decide +kernel
theorem dX0_init_26 : decode cX0_init 26 = .ok (.newarray .int, 2) := by decide +kernel
theorem dX0_init_28 : decode cX0_init 28 = .ok (.putfield 18, 3) := by decide +kernel
theorem dX0_init_31 : decode cX0_init 31 = .ok (.aload_n 0, 1) := by decide +kernel
theorem dX0_init_32 : decode cX0_init 32 = .ok (.sipush 600, 3) := by decide +kernel
theorem dX0_init_35 : decode cX0_init 35 = .ok (.newarray .int, 2) := by decide +kernel
theorem dX0_init_37 : decode cX0_init 37 = .ok (.putfield 21, 3) := by decide +kernel
theorem dX0_init_40 : decode cX0_init 40 = .ok (.return_, 1) := by decide +kernel
theorem dX0_clear_0 : decode cX0_clear 0 = .ok (.aload_n 0, 1) := by decide +kernel
theorem dX0_clear_1 : decode cX0_clear 1 = .ok (.iconst 0, 1) := by decide +kernel
theorem dX0_clear_2 : decode cX0_clear 2 = .ok (.putfield 24, 3) := by decide +kernel
theorem dX0_clear_5 : decode cX0_clear 5 = .ok (.aload_n 0, 1) := by decide +kernel
theorem dX0_clear_6 : decode cX0_clear 6 = .ok (.iload_n 1, 1) := by decide +kernel
theorem dX0_clear_7 : decode cX0_clear 7 = .ok (.putfield 28, 3) := by decide +kernel
theorem dX0_clear_10 : decode cX0_clear 10 = .ok (.aload_n 0, 1) := by decide +kernel
theorem dX0_clear_11 : decode cX0_clear 11 = .ok (.iconst 0, 1) := by decide +kernel
theorem dX0_clear_12 : decode cX0_clear 12 = .ok (.putfield 31, 3) := by decide +kernel
theorem dX0_clear_15 : decode cX0_clear 15 = .ok (.aload_n 0, 1) := by decide +kernel
theorem dX0_clear_16 : decode cX0_clear 16 = .ok (.iconst 0, 1) := by decide +kernel
theorem dX0_clear_17 : decode cX0_clear 17 = .ok (.putfield 34, 3) := by decide +kernel
theorem dX0_clear_20 : decode cX0_clear 20 = .ok (.aload_n 0, 1) := by decide +kernel
theorem dX0_clear_21 : decode cX0_clear 21 = .ok (.iconst 0, 1) := by decide +kernel
theorem dX0_clear_22 : decode cX0_clear 22 = .ok (.putfield 37, 3) := by decide +kernel
theorem dX0_clear_25 : decode cX0_clear 25 = .ok (.aload_n 0, 1) := by decide +kernel
theorem dX0_clear_26 : decode cX0_clear 26 = .ok (.iconst 0, 1) := by decide +kernel
theorem dX0_clear_27 : decode cX0_clear 27 = .ok (.putfield 40, 3) := by decide +kernel
theorem dX0_clear_30 : decode cX0_clear 30 = .ok (.return_, 1) := by decide +kernel
set_option maxRecDepth 20000 in
theorem ggX0_note_X0_noteEnd : GoodIn wsX0_note wsX0_noteEnd := goodIn_r _ [14, 15, 16, 17, 1, 18, 19, 20, 21, 22, 23, 24, 25, 26, 27] (by decide +kernel) (by decide +kernel)
set_option maxRecDepth 20000 in
theorem gX0_note_X0_noteEnd : GoodIn wsX0_note (wsV RX0 50 RX0 yX0_noteEnd wsX0_noteEnd) := goodIn_app (goodIn_of _ (by decide +kernel)) ggX0_note_X0_noteEnd
theorem dX0_note_0 : decode cX0_note 0 = .ok (.aload_n 0, 1) := by decide +kernel
theorem dX0_note_1 : decode cX0_note 1 = .ok (.getfield 24, 3) := by decide +kernel
theorem dX0_note_4 : decode cX0_note 4 = .ok (.sipush 600, 3) := by decide +kernel
theorem dX0_note_7 : decode cX0_note 7 = .ok (.if_icmp .lt 4, 3) := by decide +kernel
theorem dX0_note_10 : decode cX0_note 10 = .ok (.return_, 1) := by decide +kernel
theorem dX0_note_11 : decode cX0_note 11 = .ok (.aload_n 0, 1) := by decide +kernel
theorem dX0_note_12 : decode cX0_note 12 = .ok (.getfield 18, 3) := by decide +kernel
theorem dX0_note_15 : decode cX0_note 15 = .ok (.aload_n 0, 1) := by decide +kernel
theorem dX0_note_16 : decode cX0_note 16 = .ok (.getfield 24, 3) := by decide +kernel
theorem dX0_note_19 : decode cX0_note 19 = .ok (.iload_n 1, 1) := by decide +kernel
theorem dX0_note_20 : decode cX0_note 20 = .ok (.iastore, 1) := by decide +kernel
theorem dX0_note_21 : decode cX0_note 21 = .ok (.aload_n 0, 1) := by decide +kernel
theorem dX0_note_22 : decode cX0_note 22 = .ok (.getfield 21, 3) := by decide +kernel
theorem dX0_note_25 : decode cX0_note 25 = .ok (.aload_n 0, 1) := by decide +kernel
theorem dX0_note_26 : decode cX0_note 26 = .ok (.getfield 24, 3) := by decide +kernel
theorem dX0_note_29 : decode cX0_note 29 = .ok (.iload_n 2, 1) := by decide +kernel
theorem dX0_note_30 : decode cX0_note 30 = .ok (.iastore, 1) := by decide +kernel
theorem dX0_note_31 : decode cX0_note 31 = .ok (.aload_n 0, 1) := by decide +kernel
theorem dX0_note_32 : decode cX0_note 32 = .ok (.aload_n 0, 1) := by decide +kernel
theorem dX0_note_33 : decode cX0_note 33 = .ok (.getfield 37, 3) := by decide +kernel
theorem dX0_note_36 : decode cX0_note 36 = .ok (.iload_n 3, 1) := by decide +kernel
theorem dX0_note_37 : decode cX0_note 37 = .ok (.invokestatic 44, 3) := by decide +kernel
theorem dX0_note_40 : decode cX0_note 40 = .ok (.putfield 37, 3) := by decide +kernel
theorem dX0_note_43 : decode cX0_note 43 = .ok (.iload_n 3, 1) := by decide +kernel
theorem dX0_note_44 : decode cX0_note 44 = .ok (.ifCond .ne 19, 3) := by decide +kernel
theorem dX0_note_47 : decode cX0_note 47 = .ok (.aload_n 0, 1) := by decide +kernel
theorem dX0_note_48 : decode cX0_note 48 = .ok (.dup, 1) := by decide +kernel
theorem dX0_note_49 : decode cX0_note 49 = .ok (.getfield 34, 3) := by decide +kernel
theorem dX0_note_52 : decode cX0_note 52 = .ok (.iconst 1, 1) := by decide +kernel
theorem dX0_note_53 : decode cX0_note 53 = .ok (.iadd, 1) := by decide +kernel
theorem dX0_note_54 : decode cX0_note 54 = .ok (.putfield 34, 3) := by decide +kernel
theorem dX0_note_57 : decode cX0_note 57 = .ok (.aload_n 0, 1) := by decide +kernel
theorem dX0_note_58 : decode cX0_note 58 = .ok (.iload 4, 2) := by decide +kernel
theorem dX0_note_60 : decode cX0_note 60 = .ok (.invokevirtual 50, 3) := by decide +kernel
theorem dX0_note_63 : decode cX0_note 63 = .ok (.aload_n 0, 1) := by decide +kernel
theorem dX0_note_64 : decode cX0_note 64 = .ok (.dup, 1) := by decide +kernel
theorem dX0_note_65 : decode cX0_note 65 = .ok (.getfield 24, 3) := by decide +kernel
theorem dX0_note_68 : decode cX0_note 68 = .ok (.iconst 1, 1) := by decide +kernel
theorem dX0_note_69 : decode cX0_note 69 = .ok (.iadd, 1) := by decide +kernel
theorem dX0_note_70 : decode cX0_note 70 = .ok (.putfield 24, 3) := by decide +kernel
theorem dX0_note_73 : decode cX0_note 73 = .ok (.return_, 1) := by decide +kernel
theorem dX0_noteEnd_0 : decode cX0_noteEnd 0 = .ok (.iconst 0, 1) := by decide +kernel
theorem dX0_noteEnd_1 : decode cX0_noteEnd 1 = .ok (.istore_n 2, 1) := by decide +kernel
theorem dX0_noteEnd_2 : decode cX0_noteEnd 2 = .ok (.iload_n 2, 1) := by decide +kernel
theorem dX0_noteEnd_3 : decode cX0_noteEnd 3 = .ok (.aload_n 0, 1) := by decide +kernel
theorem dX0_noteEnd_4 : decode cX0_noteEnd 4 = .ok (.getfield 31, 3) := by decide +kernel
theorem dX0_noteEnd_7 : decode cX0_noteEnd 7 = .ok (.if_icmp .ge 20, 3) := by decide +kernel
theorem dX0_noteEnd_10 : decode cX0_noteEnd 10 = .ok (.aload_n 0, 1) := by decide +kernel
theorem dX0_noteEnd_11 : decode cX0_noteEnd 11 = .ok (.getfield 9, 3) := by decide +kernel
theorem dX0_noteEnd_14 : decode cX0_noteEnd 14 = .ok (.iload_n 2, 1) := by decide +kernel
theorem dX0_noteEnd_15 : decode cX0_noteEnd 15 = .ok (.iaload, 1) := by decide +kernel
theorem dX0_noteEnd_16 : decode cX0_noteEnd 16 = .ok (.iload_n 1, 1) := by decide +kernel
theorem dX0_noteEnd_17 : decode cX0_noteEnd 17 = .ok (.if_icmp .ne 4, 3) := by decide +kernel
theorem dX0_noteEnd_20 : decode cX0_noteEnd 20 = .ok (.return_, 1) := by decide +kernel
theorem dX0_noteEnd_21 : decode cX0_noteEnd 21 = .ok (.iinc 2 1, 3) := by decide +kernel
theorem dX0_noteEnd_24 : decode cX0_noteEnd 24 = .ok (.goto (-22), 3) := by decide +kernel
theorem dX0_noteEnd_27 : decode cX0_noteEnd 27 = .ok (.aload_n 0, 1) := by decide +kernel
theorem dX0_noteEnd_28 : decode cX0_noteEnd 28 = .ok (.getfield 31, 3) := by decide +kernel
theorem dX0_noteEnd_31 : decode cX0_noteEnd 31 = .ok (.sipush 600, 3) := by decide +kernel
theorem dX0_noteEnd_34 : decode cX0_noteEnd 34 = .ok (.if_icmp .ge 36, 3) := by decide +kernel
theorem dX0_noteEnd_37 : decode cX0_noteEnd 37 = .ok (.aload_n 0, 1) := by decide +kernel
theorem dX0_noteEnd_38 : decode cX0_noteEnd 38 = .ok (.getfield 9, 3) := by decide +kernel
theorem dX0_noteEnd_41 : decode cX0_noteEnd 41 = .ok (.aload_n 0, 1) := by decide +kernel
theorem dX0_noteEnd_42 : decode cX0_noteEnd 42 = .ok (.getfield 31, 3) := by decide +kernel
theorem dX0_noteEnd_45 : decode cX0_noteEnd 45 = .ok (.iload_n 1, 1) := by decide +kernel
theorem dX0_noteEnd_46 : decode cX0_noteEnd 46 = .ok (.iastore, 1) := by decide +kernel
theorem dX0_noteEnd_47 : decode cX0_noteEnd 47 = .ok (.aload_n 0, 1) := by decide +kernel
theorem dX0_noteEnd_48 : decode cX0_noteEnd 48 = .ok (.getfield 15, 3) := by decide +kernel
theorem dX0_noteEnd_51 : decode cX0_noteEnd 51 = .ok (.aload_n 0, 1) := by decide +kernel
theorem dX0_noteEnd_52 : decode cX0_noteEnd 52 = .ok (.getfield 31, 3) := by decide +kernel
theorem dX0_noteEnd_55 : decode cX0_noteEnd 55 = .ok (.aload_n 0, 1) := by decide +kernel
theorem dX0_noteEnd_56 : decode cX0_noteEnd 56 = .ok (.getfield 24, 3) := by decide +kernel
theorem dX0_noteEnd_59 : decode cX0_noteEnd 59 = .ok (.iastore, 1) := by decide +kernel
theorem dX0_noteEnd_60 : decode cX0_noteEnd 60 = .ok (.aload_n 0, 1) := by decide +kernel
theorem dX0_noteEnd_61 : decode cX0_noteEnd 61 = .ok (.dup, 1) := by decide +kernel
theorem dX0_noteEnd_62 : decode cX0_noteEnd 62 = .ok (.getfield 31, 3) := by decide +kernel
theorem dX0_noteEnd_65 : decode cX0_noteEnd 65 = .ok (.iconst 1, 1) := by decide +kernel
theorem dX0_noteEnd_66 : decode cX0_noteEnd 66 = .ok (.iadd, 1) := by decide +kernel
theorem dX0_noteEnd_67 : decode cX0_noteEnd 67 = .ok (.putfield 31, 3) := by decide +kernel
theorem dX0_noteEnd_70 : decode cX0_noteEnd 70 = .ok (.return_, 1) := by decide +kernel
theorem dX0_hasEnd_0 : decode cX0_hasEnd 0 = .ok (.iload_n 1, 1) := by decide +kernel
theorem dX0_hasEnd_1 : decode cX0_hasEnd 1 = .ok (.ifCond .lt 15, 3) := by decide +kernel
theorem dX0_hasEnd_4 : decode cX0_hasEnd 4 = .ok (.iload_n 1, 1) := by decide +kernel
theorem dX0_hasEnd_5 : decode cX0_hasEnd 5 = .ok (.aload_n 0, 1) := by decide +kernel
theorem dX0_hasEnd_6 : decode cX0_hasEnd 6 = .ok (.getfield 31, 3) := by decide +kernel
theorem dX0_hasEnd_9 : decode cX0_hasEnd 9 = .ok (.if_icmp .ge 7, 3) := by decide +kernel
theorem dX0_hasEnd_12 : decode cX0_hasEnd 12 = .ok (.iconst 1, 1) := by decide +kernel
theorem dX0_hasEnd_13 : decode cX0_hasEnd 13 = .ok (.goto 4, 3) := by decide +kernel
theorem dX0_hasEnd_16 : decode cX0_hasEnd 16 = .ok (.iconst 0, 1) := by decide +kernel
theorem dX0_hasEnd_17 : decode cX0_hasEnd 17 = .ok (.ireturn, 1) := by decide +kernel
theorem dX0_wayLength_0 : decode cX0_wayLength 0 = .ok (.iconst 0, 1) := by decide +kernel
theorem dX0_wayLength_1 : decode cX0_wayLength 1 = .ok (.istore_n 2, 1) := by decide +kernel
theorem dX0_wayLength_2 : decode cX0_wayLength 2 = .ok (.aload_n 0, 1) := by decide +kernel
theorem dX0_wayLength_3 : decode cX0_wayLength 3 = .ok (.getfield 15, 3) := by decide +kernel
theorem dX0_wayLength_6 : decode cX0_wayLength 6 = .ok (.iload_n 1, 1) := by decide +kernel
theorem dX0_wayLength_7 : decode cX0_wayLength 7 = .ok (.iaload, 1) := by decide +kernel
theorem dX0_wayLength_8 : decode cX0_wayLength 8 = .ok (.istore_n 3, 1) := by decide +kernel
theorem dX0_wayLength_9 : decode cX0_wayLength 9 = .ok (.iload_n 3, 1) := by decide +kernel
theorem dX0_wayLength_10 : decode cX0_wayLength 10 = .ok (.ifCond .le 23, 3) := by decide +kernel
theorem dX0_wayLength_13 : decode cX0_wayLength 13 = .ok (.iload_n 2, 1) := by decide +kernel
theorem dX0_wayLength_14 : decode cX0_wayLength 14 = .ok (.sipush 600, 3) := by decide +kernel
theorem dX0_wayLength_17 : decode cX0_wayLength 17 = .ok (.if_icmp .ge 16, 3) := by decide +kernel
theorem dX0_wayLength_20 : decode cX0_wayLength 20 = .ok (.aload_n 0, 1) := by decide +kernel
theorem dX0_wayLength_21 : decode cX0_wayLength 21 = .ok (.getfield 18, 3) := by decide +kernel
theorem dX0_wayLength_24 : decode cX0_wayLength 24 = .ok (.iload_n 3, 1) := by decide +kernel
theorem dX0_wayLength_25 : decode cX0_wayLength 25 = .ok (.iaload, 1) := by decide +kernel
theorem dX0_wayLength_26 : decode cX0_wayLength 26 = .ok (.istore_n 3, 1) := by decide +kernel
theorem dX0_wayLength_27 : decode cX0_wayLength 27 = .ok (.iinc 2 1, 3) := by decide +kernel
theorem dX0_wayLength_30 : decode cX0_wayLength 30 = .ok (.goto (-21), 3) := by decide +kernel
theorem dX0_wayLength_33 : decode cX0_wayLength 33 = .ok (.iload_n 2, 1) := by decide +kernel
theorem dX0_wayLength_34 : decode cX0_wayLength 34 = .ok (.ireturn, 1) := by decide +kernel
theorem dX0_stepBefore_0 : decode cX0_stepBefore 0 = .ok (.aload_n 0, 1) := by decide +kernel
theorem dX0_stepBefore_1 : decode cX0_stepBefore 1 = .ok (.getfield 15, 3) := by decide +kernel
theorem dX0_stepBefore_4 : decode cX0_stepBefore 4 = .ok (.iload_n 1, 1) := by decide +kernel
theorem dX0_stepBefore_5 : decode cX0_stepBefore 5 = .ok (.iaload, 1) := by decide +kernel
theorem dX0_stepBefore_6 : decode cX0_stepBefore 6 = .ok (.istore_n 3, 1) := by decide +kernel
theorem dX0_stepBefore_7 : decode cX0_stepBefore 7 = .ok (.iconst 0, 1) := by decide +kernel
theorem dX0_stepBefore_8 : decode cX0_stepBefore 8 = .ok (.istore 4, 2) := by decide +kernel
theorem dX0_stepBefore_10 : decode cX0_stepBefore 10 = .ok (.iload 4, 2) := by decide +kernel
theorem dX0_stepBefore_12 : decode cX0_stepBefore 12 = .ok (.iload_n 2, 1) := by decide +kernel
theorem dX0_stepBefore_13 : decode cX0_stepBefore 13 = .ok (.if_icmp .ge 20, 3) := by decide +kernel
theorem dX0_stepBefore_16 : decode cX0_stepBefore 16 = .ok (.iload_n 3, 1) := by decide +kernel
theorem dX0_stepBefore_17 : decode cX0_stepBefore 17 = .ok (.ifCond .le 16, 3) := by decide +kernel
theorem dX0_stepBefore_20 : decode cX0_stepBefore 20 = .ok (.aload_n 0, 1) := by decide +kernel
theorem dX0_stepBefore_21 : decode cX0_stepBefore 21 = .ok (.getfield 18, 3) := by decide +kernel
theorem dX0_stepBefore_24 : decode cX0_stepBefore 24 = .ok (.iload_n 3, 1) := by decide +kernel
theorem dX0_stepBefore_25 : decode cX0_stepBefore 25 = .ok (.iaload, 1) := by decide +kernel
theorem dX0_stepBefore_26 : decode cX0_stepBefore 26 = .ok (.istore_n 3, 1) := by decide +kernel
theorem dX0_stepBefore_27 : decode cX0_stepBefore 27 = .ok (.iinc 4 1, 3) := by decide +kernel
theorem dX0_stepBefore_30 : decode cX0_stepBefore 30 = .ok (.goto (-20), 3) := by decide +kernel
theorem dX0_stepBefore_33 : decode cX0_stepBefore 33 = .ok (.aload_n 0, 1) := by decide +kernel
theorem dX0_stepBefore_34 : decode cX0_stepBefore 34 = .ok (.getfield 21, 3) := by decide +kernel
theorem dX0_stepBefore_37 : decode cX0_stepBefore 37 = .ok (.iload_n 3, 1) := by decide +kernel
theorem dX0_stepBefore_38 : decode cX0_stepBefore 38 = .ok (.iaload, 1) := by decide +kernel
theorem dX0_stepBefore_39 : decode cX0_stepBefore 39 = .ok (.ireturn, 1) := by decide +kernel
theorem dX1_init_0 : decode cX1_init 0 = .ok (.aload_n 0, 1) := by decide +kernel
theorem dX1_init_1 : decode cX1_init 1 = .ok (.invokespecial 3, 3) := by decide +kernel
theorem dX1_init_4 : decode cX1_init 4 = .ok (.aload_n 0, 1) := by decide +kernel
theorem dX1_init_5 : decode cX1_init 5 = .ok (.iconst 5, 1) := by decide +kernel
theorem dX1_init_6 : decode cX1_init 6 = .ok (.newarray .int, 2) := by decide +kernel
theorem dX1_init_8 : decode cX1_init 8 = .ok (.putfield 9, 3) := by decide +kernel
theorem dX1_init_11 : decode cX1_init 11 = .ok (.aload_n 0, 1) := by decide +kernel
theorem dX1_init_12 : decode cX1_init 12 = .ok (.bipush 8, 2) := by decide +kernel
theorem dX1_init_14 : decode cX1_init 14 = .ok (.newarray .int, 2) := by decide +kernel
theorem dX1_init_16 : decode cX1_init 16 = .ok (.putfield 15, 3) := by decide +kernel
theorem dX1_init_19 : decode cX1_init 19 = .ok (.aload_n 0, 1) := by decide +kernel
theorem dX1_init_20 : decode cX1_init 20 = .ok (.bipush 8, 2) := by decide +kernel
theorem dX1_init_22 : decode cX1_init 22 = .ok (.newarray .int, 2) := by decide +kernel
theorem dX1_init_24 : decode cX1_init 24 = .ok (.putfield 18, 3) := by decide +kernel
theorem dX1_init_27 : decode cX1_init 27 = .ok (.aload_n 0, 1) := by decide +kernel
theorem dX1_init_28 : decode cX1_init 28 = .ok (.bipush 8, 2) := by decide +kernel
theorem dX1_init_30 : decode cX1_init 30 = .ok (.newarray .int, 2) := by decide +kernel
theorem dX1_init_32 : decode cX1_init 32 = .ok (.putfield 21, 3) := by decide +kernel
theorem dX1_init_35 : decode cX1_init 35 = .ok (.aload_n 0, 1) := by decide +kernel
theorem dX1_init_36 : decode cX1_init 36 = .ok (.iconst 4, 1) := by decide +kernel
theorem dX1_init_37 : decode cX1_init 37 = .ok (.newarray .int, 2) := by decide +kernel
theorem dX1_init_39 : decode cX1_init 39 = .ok (.putfield 24, 3) := by decide +kernel
theorem dX1_init_42 : decode cX1_init 42 = .ok (.aload_n 0, 1) := by decide +kernel
theorem dX1_init_43 : decode cX1_init 43 = .ok (.iconst 4, 1) := by decide +kernel
theorem dX1_init_44 : decode cX1_init 44 = .ok (.newarray .int, 2) := by decide +kernel
theorem dX1_init_46 : decode cX1_init 46 = .ok (.putfield 27, 3) := by decide +kernel
theorem dX1_init_49 : decode cX1_init 49 = .ok (.return_, 1) := by decide +kernel
theorem dX1_hasVertex_0 : decode cX1_hasVertex 0 = .ok (.iload_n 1, 1) := by decide +kernel
theorem dX1_hasVertex_1 : decode cX1_hasVertex 1 = .ok (.ifCond .lt 15, 3) := by decide +kernel
theorem dX1_hasVertex_4 : decode cX1_hasVertex 4 = .ok (.iload_n 1, 1) := by decide +kernel
theorem dX1_hasVertex_5 : decode cX1_hasVertex 5 = .ok (.aload_n 0, 1) := by decide +kernel
theorem dX1_hasVertex_6 : decode cX1_hasVertex 6 = .ok (.getfield 30, 3) := by decide +kernel
theorem dX1_hasVertex_9 : decode cX1_hasVertex 9 = .ok (.if_icmp .ge 7, 3) := by decide +kernel
theorem dX1_hasVertex_12 : decode cX1_hasVertex 12 = .ok (.iconst 1, 1) := by decide +kernel
theorem dX1_hasVertex_13 : decode cX1_hasVertex 13 = .ok (.goto 4, 3) := by decide +kernel
theorem dX1_hasVertex_16 : decode cX1_hasVertex 16 = .ok (.iconst 0, 1) := by decide +kernel
theorem dX1_hasVertex_17 : decode cX1_hasVertex 17 = .ok (.ireturn, 1) := by decide +kernel
theorem dX1_allArcs_0 : decode cX1_allArcs 0 = .ok (.iconst 1, 1) := by decide +kernel
theorem dX1_allArcs_1 : decode cX1_allArcs 1 = .ok (.aload_n 0, 1) := by decide +kernel
theorem dX1_allArcs_2 : decode cX1_allArcs 2 = .ok (.getfield 34, 3) := by decide +kernel
theorem dX1_allArcs_5 : decode cX1_allArcs 5 = .ok (.ishl, 1) := by decide +kernel
theorem dX1_allArcs_6 : decode cX1_allArcs 6 = .ok (.iconst 1, 1) := by decide +kernel
theorem dX1_allArcs_7 : decode cX1_allArcs 7 = .ok (.isub, 1) := by decide +kernel
theorem dX1_allArcs_8 : decode cX1_allArcs 8 = .ok (.ireturn, 1) := by decide +kernel
theorem dX1_addVertex_0 : decode cX1_addVertex 0 = .ok (.aload_n 0, 1) := by decide +kernel
theorem dX1_addVertex_1 : decode cX1_addVertex 1 = .ok (.getfield 30, 3) := by decide +kernel
theorem dX1_addVertex_4 : decode cX1_addVertex 4 = .ok (.iconst 5, 1) := by decide +kernel
theorem dX1_addVertex_5 : decode cX1_addVertex 5 = .ok (.if_icmp .lt 6, 3) := by decide +kernel
theorem dX1_addVertex_8 : decode cX1_addVertex 8 = .ok (.bipush (-104), 2) := by decide +kernel
theorem dX1_addVertex_10 : decode cX1_addVertex 10 = .ok (.ireturn, 1) := by decide +kernel
theorem dX1_addVertex_11 : decode cX1_addVertex 11 = .ok (.aload_n 0, 1) := by decide +kernel
theorem dX1_addVertex_12 : decode cX1_addVertex 12 = .ok (.getfield 9, 3) := by decide +kernel
theorem dX1_addVertex_15 : decode cX1_addVertex 15 = .ok (.aload_n 0, 1) := by decide +kernel
theorem dX1_addVertex_16 : decode cX1_addVertex 16 = .ok (.getfield 30, 3) := by decide +kernel
theorem dX1_addVertex_19 : decode cX1_addVertex 19 = .ok (.iload_n 1, 1) := by decide +kernel
theorem dX1_addVertex_20 : decode cX1_addVertex 20 = .ok (.iastore, 1) := by decide +kernel
theorem dX1_addVertex_21 : decode cX1_addVertex 21 = .ok (.aload_n 0, 1) := by decide +kernel
theorem dX1_addVertex_22 : decode cX1_addVertex 22 = .ok (.dup, 1) := by decide +kernel
theorem dX1_addVertex_23 : decode cX1_addVertex 23 = .ok (.getfield 30, 3) := by decide +kernel
theorem dX1_addVertex_26 : decode cX1_addVertex 26 = .ok (.iconst 1, 1) := by decide +kernel
theorem dX1_addVertex_27 : decode cX1_addVertex 27 = .ok (.iadd, 1) := by decide +kernel
theorem dX1_addVertex_28 : decode cX1_addVertex 28 = .ok (.putfield 30, 3) := by decide +kernel
theorem dX1_addVertex_31 : decode cX1_addVertex 31 = .ok (.aload_n 0, 1) := by decide +kernel
theorem dX1_addVertex_32 : decode cX1_addVertex 32 = .ok (.getfield 30, 3) := by decide +kernel
theorem dX1_addVertex_35 : decode cX1_addVertex 35 = .ok (.iconst 1, 1) := by decide +kernel
theorem dX1_addVertex_36 : decode cX1_addVertex 36 = .ok (.isub, 1) := by decide +kernel
theorem dX1_addVertex_37 : decode cX1_addVertex 37 = .ok (.ireturn, 1) := by decide +kernel
theorem dX1_addArc_0 : decode cX1_addArc 0 = .ok (.aload_n 0, 1) := by decide +kernel
theorem dX1_addArc_1 : decode cX1_addArc 1 = .ok (.getfield 34, 3) := by decide +kernel
theorem dX1_addArc_4 : decode cX1_addArc 4 = .ok (.bipush 8, 2) := by decide +kernel
theorem dX1_addArc_6 : decode cX1_addArc 6 = .ok (.if_icmp .lt 6, 3) := by decide +kernel
theorem dX1_addArc_9 : decode cX1_addArc 9 = .ok (.bipush (-104), 2) := by decide +kernel
theorem dX1_addArc_11 : decode cX1_addArc 11 = .ok (.ireturn, 1) := by decide +kernel
theorem dX1_addArc_12 : decode cX1_addArc 12 = .ok (.aload_n 0, 1) := by decide +kernel
theorem dX1_addArc_13 : decode cX1_addArc 13 = .ok (.getfield 15, 3) := by decide +kernel
theorem dX1_addArc_16 : decode cX1_addArc 16 = .ok (.aload_n 0, 1) := by decide +kernel
theorem dX1_addArc_17 : decode cX1_addArc 17 = .ok (.getfield 34, 3) := by decide +kernel
theorem dX1_addArc_20 : decode cX1_addArc 20 = .ok (.iload_n 1, 1) := by decide +kernel
theorem dX1_addArc_21 : decode cX1_addArc 21 = .ok (.iastore, 1) := by decide +kernel
theorem dX1_addArc_22 : decode cX1_addArc 22 = .ok (.aload_n 0, 1) := by decide +kernel
theorem dX1_addArc_23 : decode cX1_addArc 23 = .ok (.getfield 18, 3) := by decide +kernel
theorem dX1_addArc_26 : decode cX1_addArc 26 = .ok (.aload_n 0, 1) := by decide +kernel
theorem dX1_addArc_27 : decode cX1_addArc 27 = .ok (.getfield 34, 3) := by decide +kernel
theorem dX1_addArc_30 : decode cX1_addArc 30 = .ok (.iload_n 2, 1) := by decide +kernel
theorem dX1_addArc_31 : decode cX1_addArc 31 = .ok (.iastore, 1) := by decide +kernel
theorem dX1_addArc_32 : decode cX1_addArc 32 = .ok (.aload_n 0, 1) := by decide +kernel
theorem dX1_addArc_33 : decode cX1_addArc 33 = .ok (.getfield 21, 3) := by decide +kernel
theorem dX1_addArc_36 : decode cX1_addArc 36 = .ok (.aload_n 0, 1) := by decide +kernel
theorem dX1_addArc_37 : decode cX1_addArc 37 = .ok (.getfield 34, 3) := by decide +kernel
theorem dX1_addArc_40 : decode cX1_addArc 40 = .ok (.iload_n 3, 1) := by decide +kernel
theorem dX1_addArc_41 : decode cX1_addArc 41 = .ok (.iastore, 1) := by decide +kernel
theorem dX1_addArc_42 : decode cX1_addArc 42 = .ok (.aload_n 0, 1) := by decide +kernel
theorem dX1_addArc_43 : decode cX1_addArc 43 = .ok (.dup, 1) := by decide +kernel
theorem dX1_addArc_44 : decode cX1_addArc 44 = .ok (.getfield 34, 3) := by decide +kernel
theorem dX1_addArc_47 : decode cX1_addArc 47 = .ok (.iconst 1, 1) := by decide +kernel
theorem dX1_addArc_48 : decode cX1_addArc 48 = .ok (.iadd, 1) := by decide +kernel
theorem dX1_addArc_49 : decode cX1_addArc 49 = .ok (.putfield 34, 3) := by decide +kernel
theorem dX1_addArc_52 : decode cX1_addArc 52 = .ok (.aload_n 0, 1) := by decide +kernel
theorem dX1_addArc_53 : decode cX1_addArc 53 = .ok (.getfield 34, 3) := by decide +kernel
theorem dX1_addArc_56 : decode cX1_addArc 56 = .ok (.iconst 1, 1) := by decide +kernel
theorem dX1_addArc_57 : decode cX1_addArc 57 = .ok (.isub, 1) := by decide +kernel
theorem dX1_addArc_58 : decode cX1_addArc 58 = .ok (.ireturn, 1) := by decide +kernel
theorem dX1_addFirst_0 : decode cX1_addFirst 0 = .ok (.aload_n 0, 1) := by decide +kernel
theorem dX1_addFirst_1 : decode cX1_addFirst 1 = .ok (.getfield 37, 3) := by decide +kernel
theorem dX1_addFirst_4 : decode cX1_addFirst 4 = .ok (.iconst 4, 1) := by decide +kernel
theorem dX1_addFirst_5 : decode cX1_addFirst 5 = .ok (.if_icmp .lt 6, 3) := by decide +kernel
theorem dX1_addFirst_8 : decode cX1_addFirst 8 = .ok (.bipush (-104), 2) := by decide +kernel
theorem dX1_addFirst_10 : decode cX1_addFirst 10 = .ok (.ireturn, 1) := by decide +kernel
theorem dX1_addFirst_11 : decode cX1_addFirst 11 = .ok (.aload_n 0, 1) := by decide +kernel
theorem dX1_addFirst_12 : decode cX1_addFirst 12 = .ok (.getfield 24, 3) := by decide +kernel
theorem dX1_addFirst_15 : decode cX1_addFirst 15 = .ok (.aload_n 0, 1) := by decide +kernel
theorem dX1_addFirst_16 : decode cX1_addFirst 16 = .ok (.getfield 37, 3) := by decide +kernel
theorem dX1_addFirst_19 : decode cX1_addFirst 19 = .ok (.iload_n 1, 1) := by decide +kernel
theorem dX1_addFirst_20 : decode cX1_addFirst 20 = .ok (.iastore, 1) := by decide +kernel
theorem dX1_addFirst_21 : decode cX1_addFirst 21 = .ok (.aload_n 0, 1) := by decide +kernel
theorem dX1_addFirst_22 : decode cX1_addFirst 22 = .ok (.getfield 27, 3) := by decide +kernel
theorem dX1_addFirst_25 : decode cX1_addFirst 25 = .ok (.aload_n 0, 1) := by decide +kernel
theorem dX1_addFirst_26 : decode cX1_addFirst 26 = .ok (.getfield 37, 3) := by decide +kernel
theorem dX1_addFirst_29 : decode cX1_addFirst 29 = .ok (.iload_n 2, 1) := by decide +kernel
theorem dX1_addFirst_30 : decode cX1_addFirst 30 = .ok (.iastore, 1) := by decide +kernel
theorem dX1_addFirst_31 : decode cX1_addFirst 31 = .ok (.aload_n 0, 1) := by decide +kernel
theorem dX1_addFirst_32 : decode cX1_addFirst 32 = .ok (.dup, 1) := by decide +kernel
theorem dX1_addFirst_33 : decode cX1_addFirst 33 = .ok (.getfield 37, 3) := by decide +kernel
theorem dX1_addFirst_36 : decode cX1_addFirst 36 = .ok (.iconst 1, 1) := by decide +kernel
theorem dX1_addFirst_37 : decode cX1_addFirst 37 = .ok (.iadd, 1) := by decide +kernel
theorem dX1_addFirst_38 : decode cX1_addFirst 38 = .ok (.putfield 37, 3) := by decide +kernel
theorem dX1_addFirst_41 : decode cX1_addFirst 41 = .ok (.aload_n 0, 1) := by decide +kernel
theorem dX1_addFirst_42 : decode cX1_addFirst 42 = .ok (.getfield 37, 3) := by decide +kernel
theorem dX1_addFirst_45 : decode cX1_addFirst 45 = .ok (.iconst 1, 1) := by decide +kernel
theorem dX1_addFirst_46 : decode cX1_addFirst 46 = .ok (.isub, 1) := by decide +kernel
theorem dX1_addFirst_47 : decode cX1_addFirst 47 = .ok (.ireturn, 1) := by decide +kernel
theorem dX2_init_0 : decode cX2_init 0 = .ok (.aload_n 0, 1) := by decide +kernel
theorem dX2_init_1 : decode cX2_init 1 = .ok (.invokespecial 3, 3) := by decide +kernel
theorem dX2_init_4 : decode cX2_init 4 = .ok (.aload_n 0, 1) := by decide +kernel
theorem dX2_init_5 : decode cX2_init 5 = .ok (.bipush 6, 2) := by decide +kernel
theorem dX2_init_7 : decode cX2_init 7 = .ok (.newarray .int, 2) := by decide +kernel
theorem dX2_init_9 : decode cX2_init 9 = .ok (.dup, 1) := by decide +kernel
theorem dX2_init_10 : decode cX2_init 10 = .ok (.iconst 0, 1) := by decide +kernel
theorem dX2_init_11 : decode cX2_init 11 = .ok (.iconst 0, 1) := by decide +kernel
theorem dX2_init_12 : decode cX2_init 12 = .ok (.iastore, 1) := by decide +kernel
theorem dX2_init_13 : decode cX2_init 13 = .ok (.dup, 1) := by decide +kernel
theorem dX2_init_14 : decode cX2_init 14 = .ok (.iconst 1, 1) := by decide +kernel
theorem dX2_init_15 : decode cX2_init 15 = .ok (.iconst 0, 1) := by decide +kernel
theorem dX2_init_16 : decode cX2_init 16 = .ok (.iastore, 1) := by decide +kernel
theorem dX2_init_17 : decode cX2_init 17 = .ok (.dup, 1) := by decide +kernel
theorem dX2_init_18 : decode cX2_init 18 = .ok (.iconst 2, 1) := by decide +kernel
theorem dX2_init_19 : decode cX2_init 19 = .ok (.iconst 0, 1) := by decide +kernel
theorem dX2_init_20 : decode cX2_init 20 = .ok (.iastore, 1) := by decide +kernel
theorem dX2_init_21 : decode cX2_init 21 = .ok (.dup, 1) := by decide +kernel
theorem dX2_init_22 : decode cX2_init 22 = .ok (.iconst 3, 1) := by decide +kernel
theorem dX2_init_23 : decode cX2_init 23 = .ok (.iconst 1, 1) := by decide +kernel
theorem dX2_init_24 : decode cX2_init 24 = .ok (.iastore, 1) := by decide +kernel
theorem dX2_init_25 : decode cX2_init 25 = .ok (.dup, 1) := by decide +kernel
theorem dX2_init_26 : decode cX2_init 26 = .ok (.iconst 4, 1) := by decide +kernel
theorem dX2_init_27 : decode cX2_init 27 = .ok (.iconst 0, 1) := by decide +kernel
theorem dX2_init_28 : decode cX2_init 28 = .ok (.iastore, 1) := by decide +kernel
theorem dX2_init_29 : decode cX2_init 29 = .ok (.dup, 1) := by decide +kernel
theorem dX2_init_30 : decode cX2_init 30 = .ok (.iconst 5, 1) := by decide +kernel
theorem dX2_init_31 : decode cX2_init 31 = .ok (.iconst 0, 1) := by decide +kernel
theorem dX2_init_32 : decode cX2_init 32 = .ok (.iastore, 1) := by decide +kernel
theorem dX2_init_33 : decode cX2_init 33 = .ok (.putfield 9, 3) := by decide +kernel
theorem dX2_init_36 : decode cX2_init 36 = .ok (.aload_n 0, 1) := by decide +kernel
theorem dX2_init_37 : decode cX2_init 37 = .ok (.sipush 256, 3) := by decide +kernel
theorem dX2_init_40 : decode cX2_init 40 = .ok (.newarray .int, 2) := by decide +kernel
theorem dX2_init_42 : decode cX2_init 42 = .ok (.putfield 15, 3) := by decide +kernel
theorem dX2_init_45 : decode cX2_init 45 = .ok (.return_, 1) := by decide +kernel
theorem dX2_cell_0 : decode cX2_cell 0 = .ok (.iload_n 0, 1) := by decide +kernel
theorem dX2_cell_1 : decode cX2_cell 1 = .ok (.bipush 15, 2) := by decide +kernel
theorem dX2_cell_3 : decode cX2_cell 3 = .ok (.iand, 1) := by decide +kernel
theorem dX2_cell_4 : decode cX2_cell 4 = .ok (.iconst 4, 1) := by decide +kernel
theorem dX2_cell_5 : decode cX2_cell 5 = .ok (.ishl, 1) := by decide +kernel
theorem dX2_cell_6 : decode cX2_cell 6 = .ok (.iload_n 1, 1) := by decide +kernel
theorem dX2_cell_7 : decode cX2_cell 7 = .ok (.bipush 15, 2) := by decide +kernel
theorem dX2_cell_9 : decode cX2_cell 9 = .ok (.iand, 1) := by decide +kernel
theorem dX2_cell_10 : decode cX2_cell 10 = .ok (.ior, 1) := by decide +kernel
theorem dX2_cell_11 : decode cX2_cell 11 = .ok (.ireturn, 1) := by decide +kernel
set_option maxRecDepth 20000 in
theorem ggX2_tell_X2_cell : GoodIn wsX2_tell wsX2_cell := goodIn_r _ [5] (by decide +kernel) (by decide +kernel)
set_option maxRecDepth 20000 in
theorem gX2_tell_X2_cell : GoodIn wsX2_tell (va_wsS RX2 18 yX2_cell wsX2_cell) := goodIn_app (goodIn_of _ (by decide +kernel)) ggX2_tell_X2_cell
theorem dX2_tell_0 : decode cX2_tell 0 = .ok (.aload_n 0, 1) := by decide +kernel
theorem dX2_tell_1 : decode cX2_tell 1 = .ok (.getfield 15, 3) := by decide +kernel
theorem dX2_tell_4 : decode cX2_tell 4 = .ok (.iload_n 1, 1) := by decide +kernel
theorem dX2_tell_5 : decode cX2_tell 5 = .ok (.iload_n 2, 1) := by decide +kernel
theorem dX2_tell_6 : decode cX2_tell 6 = .ok (.invokestatic 18, 3) := by decide +kernel
theorem dX2_tell_9 : decode cX2_tell 9 = .ok (.iaload, 1) := by decide +kernel
theorem dX2_tell_10 : decode cX2_tell 10 = .ok (.istore 4, 2) := by decide +kernel
theorem dX2_tell_12 : decode cX2_tell 12 = .ok (.aload_n 0, 1) := by decide +kernel
theorem dX2_tell_13 : decode cX2_tell 13 = .ok (.getfield 15, 3) := by decide +kernel
theorem dX2_tell_16 : decode cX2_tell 16 = .ok (.iload_n 1, 1) := by decide +kernel
theorem dX2_tell_17 : decode cX2_tell 17 = .ok (.iload_n 2, 1) := by decide +kernel
theorem dX2_tell_18 : decode cX2_tell 18 = .ok (.invokestatic 18, 3) := by decide +kernel
theorem dX2_tell_21 : decode cX2_tell 21 = .ok (.iload_n 3, 1) := by decide +kernel
theorem dX2_tell_22 : decode cX2_tell 22 = .ok (.iastore, 1) := by decide +kernel
theorem dX2_tell_23 : decode cX2_tell 23 = .ok (.iload 4, 2) := by decide +kernel
theorem dX2_tell_25 : decode cX2_tell 25 = .ok (.ireturn, 1) := by decide +kernel
set_option maxRecDepth 20000 in
theorem ggX2_folded_X2_cell : GoodIn wsX2_folded wsX2_cell := goodIn_r _ [13] (by decide +kernel) (by decide +kernel)
set_option maxRecDepth 20000 in
theorem gX2_folded_X2_cell : GoodIn wsX2_folded (va_wsS RX2 18 yX2_cell wsX2_cell) := goodIn_app (goodIn_of _ (by decide +kernel)) ggX2_folded_X2_cell
theorem dX2_folded_0 : decode cX2_folded 0 = .ok (.aload_n 0, 1) := by decide +kernel
theorem dX2_folded_1 : decode cX2_folded 1 = .ok (.getfield 9, 3) := by decide +kernel
theorem dX2_folded_4 : decode cX2_folded 4 = .ok (.iconst 0, 1) := by decide +kernel
theorem dX2_folded_5 : decode cX2_folded 5 = .ok (.iaload, 1) := by decide +kernel
theorem dX2_folded_6 : decode cX2_folded 6 = .ok (.tableswitch 94 0 8 #[50, 57, 63, 69, 73, 75, 77, 86, 90], 50) := by decide +kernel
theorem dX2_folded_56 : decode cX2_folded 56 = .ok (.iload_n 1, 1) := by decide +kernel
theorem dX2_folded_57 : decode cX2_folded 57 = .ok (.iload_n 2, 1) := by decide +kernel
theorem dX2_folded_58 : decode cX2_folded 58 = .ok (.iadd, 1) := by decide +kernel
theorem dX2_folded_59 : decode cX2_folded 59 = .ok (.bipush 15, 2) := by decide +kernel
theorem dX2_folded_61 : decode cX2_folded 61 = .ok (.iand, 1) := by decide +kernel
theorem dX2_folded_62 : decode cX2_folded 62 = .ok (.ireturn, 1) := by decide +kernel
theorem dX2_folded_63 : decode cX2_folded 63 = .ok (.iload_n 1, 1) := by decide +kernel
theorem dX2_folded_64 : decode cX2_folded 64 = .ok (.iload_n 2, 1) := by decide +kernel
theorem dX2_folded_65 : decode cX2_folded 65 = .ok (.invokestatic 22, 3) := by decide +kernel
theorem dX2_folded_68 : decode cX2_folded 68 = .ok (.ireturn, 1) := by decide +kernel
theorem dX2_folded_69 : decode cX2_folded 69 = .ok (.iload_n 1, 1) := by decide +kernel
theorem dX2_folded_70 : decode cX2_folded 70 = .ok (.iload_n 2, 1) := by decide +kernel
theorem dX2_folded_71 : decode cX2_folded 71 = .ok (.invokestatic 27, 3) := by decide +kernel
theorem dX2_folded_74 : decode cX2_folded 74 = .ok (.ireturn, 1) := by decide +kernel
theorem dX2_folded_75 : decode cX2_folded 75 = .ok (.iload_n 1, 1) := by decide +kernel
theorem dX2_folded_76 : decode cX2_folded 76 = .ok (.iload_n 2, 1) := by decide +kernel
theorem dX2_folded_77 : decode cX2_folded 77 = .ok (.ixor, 1) := by decide +kernel
theorem dX2_folded_78 : decode cX2_folded 78 = .ok (.ireturn, 1) := by decide +kernel
theorem dX2_folded_79 : decode cX2_folded 79 = .ok (.iload_n 2, 1) := by decide +kernel
theorem dX2_folded_80 : decode cX2_folded 80 = .ok (.ireturn, 1) := by decide +kernel
theorem dX2_folded_81 : decode cX2_folded 81 = .ok (.iload_n 1, 1) := by decide +kernel
theorem dX2_folded_82 : decode cX2_folded 82 = .ok (.ireturn, 1) := by decide +kernel
theorem dX2_folded_83 : decode cX2_folded 83 = .ok (.iconst 2, 1) := by decide +kernel
theorem dX2_folded_84 : decode cX2_folded 84 = .ok (.iload_n 1, 1) := by decide +kernel
theorem dX2_folded_85 : decode cX2_folded 85 = .ok (.imul, 1) := by decide +kernel
theorem dX2_folded_86 : decode cX2_folded 86 = .ok (.iload_n 2, 1) := by decide +kernel
theorem dX2_folded_87 : decode cX2_folded 87 = .ok (.iadd, 1) := by decide +kernel
theorem dX2_folded_88 : decode cX2_folded 88 = .ok (.bipush 15, 2) := by decide +kernel
theorem dX2_folded_90 : decode cX2_folded 90 = .ok (.iand, 1) := by decide +kernel
theorem dX2_folded_91 : decode cX2_folded 91 = .ok (.ireturn, 1) := by decide +kernel
theorem dX2_folded_92 : decode cX2_folded 92 = .ok (.iload_n 1, 1) := by decide +kernel
theorem dX2_folded_93 : decode cX2_folded 93 = .ok (.iload_n 2, 1) := by decide +kernel
theorem dX2_folded_94 : decode cX2_folded 94 = .ok (.iand, 1) := by decide +kernel
theorem dX2_folded_95 : decode cX2_folded 95 = .ok (.ireturn, 1) := by decide +kernel
theorem dX2_folded_96 : decode cX2_folded 96 = .ok (.iload_n 1, 1) := by decide +kernel
theorem dX2_folded_97 : decode cX2_folded 97 = .ok (.iload_n 2, 1) := by decide +kernel
theorem dX2_folded_98 : decode cX2_folded 98 = .ok (.ior, 1) := by decide +kernel
theorem dX2_folded_99 : decode cX2_folded 99 = .ok (.ireturn, 1) := by decide +kernel
theorem dX2_folded_100 : decode cX2_folded 100 = .ok (.aload_n 0, 1) := by decide +kernel
theorem dX2_folded_101 : decode cX2_folded 101 = .ok (.getfield 15, 3) := by decide +kernel
theorem dX2_folded_104 : decode cX2_folded 104 = .ok (.iload_n 1, 1) := by decide +kernel
theorem dX2_folded_105 : decode cX2_folded 105 = .ok (.iload_n 2, 1) := by decide +kernel
theorem dX2_folded_106 : decode cX2_folded 106 = .ok (.invokestatic 18, 3) := by decide +kernel
theorem dX2_folded_109 : decode cX2_folded 109 = .ok (.iaload, 1) := by decide +kernel
theorem dX2_folded_110 : decode cX2_folded 110 = .ok (.ireturn, 1) := by decide +kernel
theorem dX2_sentOut_0 : decode cX2_sentOut 0 = .ok (.aload_n 0, 1) := by decide +kernel
theorem dX2_sentOut_1 : decode cX2_sentOut 1 = .ok (.getfield 9, 3) := by decide +kernel
theorem dX2_sentOut_4 : decode cX2_sentOut 4 = .ok (.iconst 1, 1) := by decide +kernel
theorem dX2_sentOut_5 : decode cX2_sentOut 5 = .ok (.iaload, 1) := by decide +kernel
theorem dX2_sentOut_6 : decode cX2_sentOut 6 = .ok (.tableswitch 51 0 3 #[30, 32, 39, 45], 30) := by decide +kernel
theorem dX2_sentOut_36 : decode cX2_sentOut 36 = .ok (.iload_n 1, 1) := by decide +kernel
theorem dX2_sentOut_37 : decode cX2_sentOut 37 = .ok (.ireturn, 1) := by decide +kernel
theorem dX2_sentOut_38 : decode cX2_sentOut 38 = .ok (.iload_n 1, 1) := by decide +kernel
theorem dX2_sentOut_39 : decode cX2_sentOut 39 = .ok (.iload_n 2, 1) := by decide +kernel
theorem dX2_sentOut_40 : decode cX2_sentOut 40 = .ok (.iadd, 1) := by decide +kernel
theorem dX2_sentOut_41 : decode cX2_sentOut 41 = .ok (.bipush 15, 2) := by decide +kernel
theorem dX2_sentOut_43 : decode cX2_sentOut 43 = .ok (.iand, 1) := by decide +kernel
theorem dX2_sentOut_44 : decode cX2_sentOut 44 = .ok (.ireturn, 1) := by decide +kernel
theorem dX2_sentOut_45 : decode cX2_sentOut 45 = .ok (.iload_n 1, 1) := by decide +kernel
theorem dX2_sentOut_46 : decode cX2_sentOut 46 = .ok (.iload_n 2, 1) := by decide +kernel
theorem dX2_sentOut_47 : decode cX2_sentOut 47 = .ok (.invokestatic 22, 3) := by decide +kernel
theorem dX2_sentOut_50 : decode cX2_sentOut 50 = .ok (.ireturn, 1) := by decide +kernel
theorem dX2_sentOut_51 : decode cX2_sentOut 51 = .ok (.iload_n 1, 1) := by decide +kernel
theorem dX2_sentOut_52 : decode cX2_sentOut 52 = .ok (.iload_n 2, 1) := by decide +kernel
theorem dX2_sentOut_53 : decode cX2_sentOut 53 = .ok (.invokestatic 27, 3) := by decide +kernel
theorem dX2_sentOut_56 : decode cX2_sentOut 56 = .ok (.ireturn, 1) := by decide +kernel
theorem dX2_sentOut_57 : decode cX2_sentOut 57 = .ok (.iload_n 1, 1) := by decide +kernel
theorem dX2_sentOut_58 : decode cX2_sentOut 58 = .ok (.iload_n 2, 1) := by decide +kernel
theorem dX2_sentOut_59 : decode cX2_sentOut 59 = .ok (.imul, 1) := by decide +kernel
theorem dX2_sentOut_60 : decode cX2_sentOut 60 = .ok (.bipush 15, 2) := by decide +kernel
theorem dX2_sentOut_62 : decode cX2_sentOut 62 = .ok (.iand, 1) := by decide +kernel
theorem dX2_sentOut_63 : decode cX2_sentOut 63 = .ok (.ireturn, 1) := by decide +kernel
set_option maxRecDepth 20000 in
theorem ggX2_lawHolds_X2_folded : GoodIn wsX2_lawHolds wsX2_folded := goodIn_r _ [5, 6, 7, 8, 9, 10, 11, 12, 13, 14, 15, 16, 4, 17, 18, 19] (by decide +kernel) (by decide +kernel)
set_option maxRecDepth 20000 in
theorem gX2_lawHolds_X2_folded : GoodIn wsX2_lawHolds (wsV RX2 30 RX2 yX2_folded wsX2_folded) := goodIn_app (goodIn_of _ (by decide +kernel)) ggX2_lawHolds_X2_folded
theorem dX2_lawHolds_0 : decode cX2_lawHolds 0 = .ok (.iload_n 1, 1) := by decide +kernel
theorem dX2_lawHolds_1 : decode cX2_lawHolds 1 = .ok (.tableswitch 196 0 5 #[39, 72, 93, 109, 142, 168], 39) := by decide +kernel
theorem dX2_lawHolds_40 : decode cX2_lawHolds 40 = .ok (.aload_n 0, 1) := by decide +kernel
theorem dX2_lawHolds_41 : decode cX2_lawHolds 41 = .ok (.aload_n 0, 1) := by decide +kernel
theorem dX2_lawHolds_42 : decode cX2_lawHolds 42 = .ok (.iload_n 2, 1) := by decide +kernel
theorem dX2_lawHolds_43 : decode cX2_lawHolds 43 = .ok (.iload_n 3, 1) := by decide +kernel
theorem dX2_lawHolds_44 : decode cX2_lawHolds 44 = .ok (.invokevirtual 30, 3) := by decide +kernel
theorem dX2_lawHolds_47 : decode cX2_lawHolds 47 = .ok (.iload 4, 2) := by decide +kernel
theorem dX2_lawHolds_49 : decode cX2_lawHolds 49 = .ok (.invokevirtual 30, 3) := by decide +kernel
theorem dX2_lawHolds_52 : decode cX2_lawHolds 52 = .ok (.aload_n 0, 1) := by decide +kernel
theorem dX2_lawHolds_53 : decode cX2_lawHolds 53 = .ok (.iload_n 2, 1) := by decide +kernel
theorem dX2_lawHolds_54 : decode cX2_lawHolds 54 = .ok (.aload_n 0, 1) := by decide +kernel
theorem dX2_lawHolds_55 : decode cX2_lawHolds 55 = .ok (.iload_n 3, 1) := by decide +kernel
theorem dX2_lawHolds_56 : decode cX2_lawHolds 56 = .ok (.iload 4, 2) := by decide +kernel
theorem dX2_lawHolds_58 : decode cX2_lawHolds 58 = .ok (.invokevirtual 30, 3) := by decide +kernel
theorem dX2_lawHolds_61 : decode cX2_lawHolds 61 = .ok (.invokevirtual 30, 3) := by decide +kernel
theorem dX2_lawHolds_64 : decode cX2_lawHolds 64 = .ok (.if_icmp .ne 7, 3) := by decide +kernel
theorem dX2_lawHolds_67 : decode cX2_lawHolds 67 = .ok (.iconst 1, 1) := by decide +kernel
theorem dX2_lawHolds_68 : decode cX2_lawHolds 68 = .ok (.goto 4, 3) := by decide +kernel
theorem dX2_lawHolds_71 : decode cX2_lawHolds 71 = .ok (.iconst 0, 1) := by decide +kernel
theorem dX2_lawHolds_72 : decode cX2_lawHolds 72 = .ok (.ireturn, 1) := by decide +kernel
theorem dX2_lawHolds_73 : decode cX2_lawHolds 73 = .ok (.aload_n 0, 1) := by decide +kernel
theorem dX2_lawHolds_74 : decode cX2_lawHolds 74 = .ok (.iload_n 2, 1) := by decide +kernel
theorem dX2_lawHolds_75 : decode cX2_lawHolds 75 = .ok (.iload_n 3, 1) := by decide +kernel
theorem dX2_lawHolds_76 : decode cX2_lawHolds 76 = .ok (.invokevirtual 30, 3) := by decide +kernel
theorem dX2_lawHolds_79 : decode cX2_lawHolds 79 = .ok (.aload_n 0, 1) := by decide +kernel
theorem dX2_lawHolds_80 : decode cX2_lawHolds 80 = .ok (.iload_n 3, 1) := by decide +kernel
theorem dX2_lawHolds_81 : decode cX2_lawHolds 81 = .ok (.iload_n 2, 1) := by decide +kernel
theorem dX2_lawHolds_82 : decode cX2_lawHolds 82 = .ok (.invokevirtual 30, 3) := by decide +kernel
theorem dX2_lawHolds_85 : decode cX2_lawHolds 85 = .ok (.if_icmp .ne 7, 3) := by decide +kernel
theorem dX2_lawHolds_88 : decode cX2_lawHolds 88 = .ok (.iconst 1, 1) := by decide +kernel
theorem dX2_lawHolds_89 : decode cX2_lawHolds 89 = .ok (.goto 4, 3) := by decide +kernel
theorem dX2_lawHolds_92 : decode cX2_lawHolds 92 = .ok (.iconst 0, 1) := by decide +kernel
theorem dX2_lawHolds_93 : decode cX2_lawHolds 93 = .ok (.ireturn, 1) := by decide +kernel
theorem dX2_lawHolds_94 : decode cX2_lawHolds 94 = .ok (.aload_n 0, 1) := by decide +kernel
theorem dX2_lawHolds_95 : decode cX2_lawHolds 95 = .ok (.iload_n 2, 1) := by decide +kernel
theorem dX2_lawHolds_96 : decode cX2_lawHolds 96 = .ok (.iload_n 2, 1) := by decide +kernel
theorem dX2_lawHolds_97 : decode cX2_lawHolds 97 = .ok (.invokevirtual 30, 3) := by decide +kernel
theorem dX2_lawHolds_100 : decode cX2_lawHolds 100 = .ok (.iload_n 2, 1) := by decide +kernel
theorem dX2_lawHolds_101 : decode cX2_lawHolds 101 = .ok (.if_icmp .ne 7, 3) := by decide +kernel
theorem dX2_lawHolds_104 : decode cX2_lawHolds 104 = .ok (.iconst 1, 1) := by decide +kernel
theorem dX2_lawHolds_105 : decode cX2_lawHolds 105 = .ok (.goto 4, 3) := by decide +kernel
theorem dX2_lawHolds_108 : decode cX2_lawHolds 108 = .ok (.iconst 0, 1) := by decide +kernel
theorem dX2_lawHolds_109 : decode cX2_lawHolds 109 = .ok (.ireturn, 1) := by decide +kernel
theorem dX2_lawHolds_110 : decode cX2_lawHolds 110 = .ok (.aload_n 0, 1) := by decide +kernel
theorem dX2_lawHolds_111 : decode cX2_lawHolds 111 = .ok (.aload_n 0, 1) := by decide +kernel
theorem dX2_lawHolds_112 : decode cX2_lawHolds 112 = .ok (.iload_n 2, 1) := by decide +kernel
theorem dX2_lawHolds_113 : decode cX2_lawHolds 113 = .ok (.iload_n 3, 1) := by decide +kernel
theorem dX2_lawHolds_114 : decode cX2_lawHolds 114 = .ok (.invokevirtual 30, 3) := by decide +kernel
theorem dX2_lawHolds_117 : decode cX2_lawHolds 117 = .ok (.iload 4, 2) := by decide +kernel
theorem dX2_lawHolds_119 : decode cX2_lawHolds 119 = .ok (.invokevirtual 30, 3) := by decide +kernel
theorem dX2_lawHolds_122 : decode cX2_lawHolds 122 = .ok (.aload_n 0, 1) := by decide +kernel
theorem dX2_lawHolds_123 : decode cX2_lawHolds 123 = .ok (.aload_n 0, 1) := by decide +kernel
theorem dX2_lawHolds_124 : decode cX2_lawHolds 124 = .ok (.iload_n 2, 1) := by decide +kernel
theorem dX2_lawHolds_125 : decode cX2_lawHolds 125 = .ok (.iload 4, 2) := by decide +kernel
theorem dX2_lawHolds_127 : decode cX2_lawHolds 127 = .ok (.invokevirtual 30, 3) := by decide +kernel
theorem dX2_lawHolds_130 : decode cX2_lawHolds 130 = .ok (.iload_n 3, 1) := by decide +kernel
theorem dX2_lawHolds_131 : decode cX2_lawHolds 131 = .ok (.invokevirtual 30, 3) := by decide +kernel
theorem dX2_lawHolds_134 : decode cX2_lawHolds 134 = .ok (.if_icmp .ne 7, 3) := by decide +kernel
theorem dX2_lawHolds_137 : decode cX2_lawHolds 137 = .ok (.iconst 1, 1) := by decide +kernel
theorem dX2_lawHolds_138 : decode cX2_lawHolds 138 = .ok (.goto 4, 3) := by decide +kernel
theorem dX2_lawHolds_141 : decode cX2_lawHolds 141 = .ok (.iconst 0, 1) := by decide +kernel
theorem dX2_lawHolds_142 : decode cX2_lawHolds 142 = .ok (.ireturn, 1) := by decide +kernel
theorem dX2_lawHolds_143 : decode cX2_lawHolds 143 = .ok (.aload_n 0, 1) := by decide +kernel
theorem dX2_lawHolds_144 : decode cX2_lawHolds 144 = .ok (.aload_n 0, 1) := by decide +kernel
theorem dX2_lawHolds_145 : decode cX2_lawHolds 145 = .ok (.iload_n 2, 1) := by decide +kernel
theorem dX2_lawHolds_146 : decode cX2_lawHolds 146 = .ok (.iload_n 3, 1) := by decide +kernel
theorem dX2_lawHolds_147 : decode cX2_lawHolds 147 = .ok (.invokevirtual 30, 3) := by decide +kernel
theorem dX2_lawHolds_150 : decode cX2_lawHolds 150 = .ok (.iload_n 3, 1) := by decide +kernel
theorem dX2_lawHolds_151 : decode cX2_lawHolds 151 = .ok (.invokevirtual 30, 3) := by decide +kernel
theorem dX2_lawHolds_154 : decode cX2_lawHolds 154 = .ok (.aload_n 0, 1) := by decide +kernel
theorem dX2_lawHolds_155 : decode cX2_lawHolds 155 = .ok (.iload_n 2, 1) := by decide +kernel
theorem dX2_lawHolds_156 : decode cX2_lawHolds 156 = .ok (.iload_n 3, 1) := by decide +kernel
theorem dX2_lawHolds_157 : decode cX2_lawHolds 157 = .ok (.invokevirtual 30, 3) := by decide +kernel
theorem dX2_lawHolds_160 : decode cX2_lawHolds 160 = .ok (.if_icmp .ne 7, 3) := by decide +kernel
theorem dX2_lawHolds_163 : decode cX2_lawHolds 163 = .ok (.iconst 1, 1) := by decide +kernel
theorem dX2_lawHolds_164 : decode cX2_lawHolds 164 = .ok (.goto 4, 3) := by decide +kernel
theorem dX2_lawHolds_167 : decode cX2_lawHolds 167 = .ok (.iconst 0, 1) := by decide +kernel
theorem dX2_lawHolds_168 : decode cX2_lawHolds 168 = .ok (.ireturn, 1) := by decide +kernel
theorem dX2_lawHolds_169 : decode cX2_lawHolds 169 = .ok (.iload_n 2, 1) := by decide +kernel
theorem dX2_lawHolds_170 : decode cX2_lawHolds 170 = .ok (.iload_n 3, 1) := by decide +kernel
theorem dX2_lawHolds_171 : decode cX2_lawHolds 171 = .ok (.if_icmp .gt 20, 3) := by decide +kernel
theorem dX2_lawHolds_174 : decode cX2_lawHolds 174 = .ok (.aload_n 0, 1) := by decide +kernel
theorem dX2_lawHolds_175 : decode cX2_lawHolds 175 = .ok (.iload_n 2, 1) := by decide +kernel
theorem dX2_lawHolds_176 : decode cX2_lawHolds 176 = .ok (.iload 4, 2) := by decide +kernel
theorem dX2_lawHolds_178 : decode cX2_lawHolds 178 = .ok (.invokevirtual 30, 3) := by decide +kernel
theorem dX2_lawHolds_181 : decode cX2_lawHolds 181 = .ok (.aload_n 0, 1) := by decide +kernel
theorem dX2_lawHolds_182 : decode cX2_lawHolds 182 = .ok (.iload_n 3, 1) := by decide +kernel
theorem dX2_lawHolds_183 : decode cX2_lawHolds 183 = .ok (.iload 4, 2) := by decide +kernel
theorem dX2_lawHolds_185 : decode cX2_lawHolds 185 = .ok (.invokevirtual 30, 3) := by decide +kernel
theorem dX2_lawHolds_188 : decode cX2_lawHolds 188 = .ok (.if_icmp .gt 7, 3) := by decide +kernel
theorem dX2_lawHolds_191 : decode cX2_lawHolds 191 = .ok (.iconst 1, 1) := by decide +kernel
theorem dX2_lawHolds_192 : decode cX2_lawHolds 192 = .ok (.goto 4, 3) := by decide +kernel
theorem dX2_lawHolds_195 : decode cX2_lawHolds 195 = .ok (.iconst 0, 1) := by decide +kernel
theorem dX2_lawHolds_196 : decode cX2_lawHolds 196 = .ok (.ireturn, 1) := by decide +kernel
theorem dX2_lawHolds_197 : decode cX2_lawHolds 197 = .ok (.aload_n 0, 1) := by decide +kernel
theorem dX2_lawHolds_198 : decode cX2_lawHolds 198 = .ok (.iload_n 2, 1) := by decide +kernel
theorem dX2_lawHolds_199 : decode cX2_lawHolds 199 = .ok (.iload_n 3, 1) := by decide +kernel
theorem dX2_lawHolds_200 : decode cX2_lawHolds 200 = .ok (.invokevirtual 30, 3) := by decide +kernel
theorem dX2_lawHolds_203 : decode cX2_lawHolds 203 = .ok (.iload_n 2, 1) := by decide +kernel
theorem dX2_lawHolds_204 : decode cX2_lawHolds 204 = .ok (.if_icmp .gt 7, 3) := by decide +kernel
theorem dX2_lawHolds_207 : decode cX2_lawHolds 207 = .ok (.iconst 1, 1) := by decide +kernel
theorem dX2_lawHolds_208 : decode cX2_lawHolds 208 = .ok (.goto 4, 3) := by decide +kernel
theorem dX2_lawHolds_211 : decode cX2_lawHolds 211 = .ok (.iconst 0, 1) := by decide +kernel
theorem dX2_lawHolds_212 : decode cX2_lawHolds 212 = .ok (.ireturn, 1) := by decide +kernel
set_option maxRecDepth 20000 in
theorem ggX3_init_X5_init : GoodIn wsX3_init wsX5_init := goodIn_r _ [17, 18, 2, 3, 19, 20, 21, 22, 23, 24, 29, 30, 31, 32, 33] (by decide +kernel) (by decide +kernel)
set_option maxRecDepth 20000 in
theorem gX3_init_X5_init_n11 : GoodIn wsX3_init (wsX5_init) := ggX3_init_X5_init
set_option maxRecDepth 20000 in
theorem ggX3_init_X4_init : GoodIn wsX3_init wsX4_init := goodIn_r _ [26, 27, 2, 3, 19, 28, 43, 44, 45] (by decide +kernel) (by decide +kernel)
set_option maxRecDepth 20000 in
theorem gX3_init_X4_init_n20 : GoodIn wsX3_init (wsX4_init) := ggX3_init_X4_init
theorem dX3_init_0 : decode cX3_init 0 = .ok (.aload_n 0, 1) := by decide +kernel
theorem dX3_init_1 : decode cX3_init 1 = .ok (.invokespecial 3, 3) := by decide +kernel
theorem dX3_init_4 : decode cX3_init 4 = .ok (.aload_n 0, 1) := by decide +kernel
theorem dX3_init_5 : decode cX3_init 5 = .ok (.new 9, 3) := by decide +kernel
theorem dX3_init_8 : decode cX3_init 8 = .ok (.dup, 1) := by decide +kernel
theorem dX3_init_9 : decode cX3_init 9 = .ok (.invokespecial 11, 3) := by decide +kernel
theorem dX3_init_12 : decode cX3_init 12 = .ok (.putfield 12, 3) := by decide +kernel
theorem dX3_init_15 : decode cX3_init 15 = .ok (.aload_n 0, 1) := by decide +kernel
theorem dX3_init_16 : decode cX3_init 16 = .ok (.new 18, 3) := by decide +kernel
theorem dX3_init_19 : decode cX3_init 19 = .ok (.dup, 1) := by decide +kernel
theorem dX3_init_20 : decode cX3_init 20 = .ok (.invokespecial 20, 3) := by decide +kernel
theorem dX3_init_23 : decode cX3_init 23 = .ok (.putfield 21, 3) := by decide +kernel
theorem dX3_init_26 : decode cX3_init 26 = .ok (.aload_n 0, 1) := by decide +kernel
theorem dX3_init_27 : decode cX3_init 27 = .ok (.new 18, 3) := by decide +kernel
theorem dX3_init_30 : decode cX3_init 30 = .ok (.dup, 1) := by decide +kernel
theorem dX3_init_31 : decode cX3_init 31 = .ok (.invokespecial 20, 3) := by decide +kernel
theorem dX3_init_34 : decode cX3_init 34 = .ok (.putfield 25, 3) := by decide +kernel
theorem dX3_init_37 : decode cX3_init 37 = .ok (.aload_n 0, 1) := by decide +kernel
theorem dX3_init_38 : decode cX3_init 38 = .ok (.aload_n 1, 1) := by decide +kernel
theorem dX3_init_39 : decode cX3_init 39 = .ok (.putfield 28, 3) := by decide +kernel
theorem dX3_init_42 : decode cX3_init 42 = .ok (.aload_n 0, 1) := by decide +kernel
theorem dX3_init_43 : decode cX3_init 43 = .ok (.aload_n 2, 1) := by decide +kernel
theorem dX3_init_44 : decode cX3_init 44 = .ok (.putfield 32, 3) := by decide +kernel
theorem dX3_init_47 : decode cX3_init 47 = .ok (.aload_n 0, 1) := by decide +kernel
theorem dX3_init_48 : decode cX3_init 48 = .ok (.aload_n 3, 1) := by decide +kernel
theorem dX3_init_49 : decode cX3_init 49 = .ok (.putfield 36, 3) := by decide +kernel
theorem dX3_init_52 : decode cX3_init 52 = .ok (.return_, 1) := by decide +kernel
set_option maxRecDepth 20000 in
theorem ggX3_run_X5_clear : GoodIn wsX3_run wsX5_clear := goodIn_r _ [17, 18, 19, 20, 21, 22, 23, 240, 241, 242, 243, 244] (by decide +kernel) (by decide +kernel)
set_option maxRecDepth 20000 in
theorem gX3_run_X5_clear : GoodIn wsX3_run (wsV RX3 51 RX5 yX5_clear wsX5_clear) := goodIn_app (goodIn_of _ (by decide +kernel)) ggX3_run_X5_clear
set_option maxRecDepth 20000 in
theorem ggX3_run_X0_clear : GoodIn wsX3_run wsX0_clear := goodIn_r _ [28, 29, 30, 31, 32, 33, 34, 245, 246, 247, 248, 249, 250, 251, 252, 253, 254] (by decide +kernel) (by decide +kernel)
set_option maxRecDepth 20000 in
theorem gX3_run_X0_clear : GoodIn wsX3_run (wsV RX3 59 RX0 yX0_clear wsX0_clear) := goodIn_app (goodIn_of _ (by decide +kernel)) ggX3_run_X0_clear
set_option maxRecDepth 20000 in
theorem ggX3_run_X4_begin : GoodIn wsX3_run wsX4_begin := goodIn_r _ [39, 40, 41, 42, 43, 44, 45, 46, 22, 47, 255, 256, 257, 229, 230, 231, 232, 233, 234, 235, 236, 237] (by decide +kernel) (by decide +kernel)
set_option maxRecDepth 20000 in
theorem gX3_run_X4_begin : GoodIn wsX3_run (wsV RX3 70 RX4 yX4_begin wsX4_begin) := goodIn_app (goodIn_of _ (by decide +kernel)) ggX3_run_X4_begin
set_option maxRecDepth 20000 in
theorem ggX3_run_X3_keepNext : GoodIn wsX3_run wsX3_keepNext := goodIn_r _ [52, 5, 8, 11, 2, 4, 1, 6, 53, 54, 55, 56, 16, 57, 19, 58, 59, 60, 38, 61, 40, 43, 62, 44, 63, 64, 65, 66, 67, 68, 69, 70, 71, 72, 73, 74, 75, 76, 18, 77, 78, 79, 80, 81, 82, 83, 84, 85, 86, 87, 88, 89, 90, 91, 92, 93, 94, 95, 96, 97, 98, 99, 100, 101, 102, 103, 104, 27, 105, 29, 106, 107, 33, 108, 109, 110, 111, 32, 112, 113, 114, 115, 31, 116, 117, 220, 221, 222, 223, 224, 225, 226, 227, 228, 240, 241, 242, 243, 244, 229, 230, 231, 232, 233, 234, 235, 236, 237, 255, 256, 257, 245, 246, 247, 248, 249, 250, 251, 252, 253, 254] (by decide +kernel) (by decide +kernel)
set_option maxRecDepth 20000 in
theorem gX3_run_X3_keepNext : GoodIn wsX3_run (wsV RX3 74 RX3 yX3_keepNext wsX3_keepNext) := goodIn_app (goodIn_of _ (by decide +kernel)) ggX3_run_X3_keepNext
set_option maxRecDepth 20000 in
theorem ggX3_run_X3_goThrough : GoodIn wsX3_run wsX3_goThrough := goodIn_r _ [121, 5, 122, 6, 53, 123, 124, 125, 126, 16, 127, 67, 68, 69, 70, 71, 72, 77, 78, 79, 80, 128, 129, 130, 38, 131, 40, 132, 133, 134, 135, 136, 137, 138, 51, 139, 4, 8, 140, 141, 142, 143, 144, 145, 146, 43, 44, 147, 148, 149, 150, 151, 152, 153, 154, 155, 156, 157, 158, 159, 160, 161, 162, 163, 164, 165, 166, 167, 168, 9, 10, 169, 3, 170, 171, 172, 173, 174, 175, 176, 177, 178, 179, 180, 181, 182, 110, 183, 184, 109, 111, 185, 186, 187, 188, 189, 190, 191, 192, 193, 194, 195, 196, 197, 198, 199, 200, 201, 202, 203, 204, 205, 206, 207, 208, 209, 93, 94, 95, 96, 210, 211, 212, 213, 214, 48, 49, 50, 52, 11, 2, 1, 54, 55, 56, 57, 19, 58, 59, 60, 61, 62, 63, 64, 65, 66, 73, 74, 75, 76, 18, 81, 82, 83, 84, 85, 86, 87, 88, 89, 90, 91, 92, 97, 98, 99, 100, 101, 102, 103, 104, 27, 105, 29, 106, 107, 33, 108, 32, 112, 113, 114, 115, 31, 116, 117, 215, 216, 217, 218, 219, 220, 221, 222, 223, 224, 225, 226, 227, 228, 229, 230, 231, 232, 233, 234, 235, 236, 237, 240, 241, 242, 243, 244, 255, 256, 257, 238, 239, 245, 246, 247, 248, 249, 250, 251, 252, 253, 254] (by decide +kernel) (by decide +kernel)
set_option maxRecDepth 20000 in
theorem gX3_run_X3_goThrough : GoodIn wsX3_run (wsV RX3 81 RX3 yX3_goThrough wsX3_goThrough) := goodIn_app (goodIn_of _ (by decide +kernel)) ggX3_run_X3_goThrough
theorem dX3_run_0 : decode cX3_run 0 = .ok (.aload_n 0, 1) := by decide +kernel
theorem dX3_run_1 : decode cX3_run 1 = .ok (.aload_n 3, 1) := by decide +kernel
theorem dX3_run_2 : decode cX3_run 2 = .ok (.putfield 36, 3) := by decide +kernel
theorem dX3_run_5 : decode cX3_run 5 = .ok (.aload_n 0, 1) := by decide +kernel
theorem dX3_run_6 : decode cX3_run 6 = .ok (.iload_n 1, 1) := by decide +kernel
theorem dX3_run_7 : decode cX3_run 7 = .ok (.putfield 40, 3) := by decide +kernel
theorem dX3_run_10 : decode cX3_run 10 = .ok (.aload_n 0, 1) := by decide +kernel
theorem dX3_run_11 : decode cX3_run 11 = .ok (.iload_n 2, 1) := by decide +kernel
theorem dX3_run_12 : decode cX3_run 12 = .ok (.putfield 44, 3) := by decide +kernel
theorem dX3_run_15 : decode cX3_run 15 = .ok (.aload_n 0, 1) := by decide +kernel
theorem dX3_run_16 : decode cX3_run 16 = .ok (.iconst 0, 1) := by decide +kernel
theorem dX3_run_17 : decode cX3_run 17 = .ok (.putfield 47, 3) := by decide +kernel
theorem dX3_run_20 : decode cX3_run 20 = .ok (.aload_n 0, 1) := by decide +kernel
theorem dX3_run_21 : decode cX3_run 21 = .ok (.getfield 12, 3) := by decide +kernel
theorem dX3_run_24 : decode cX3_run 24 = .ok (.invokevirtual 51, 3) := by decide +kernel
theorem dX3_run_27 : decode cX3_run 27 = .ok (.aload_n 3, 1) := by decide +kernel
theorem dX3_run_28 : decode cX3_run 28 = .ok (.aload_n 0, 1) := by decide +kernel
theorem dX3_run_29 : decode cX3_run 29 = .ok (.getfield 28, 3) := by decide +kernel
theorem dX3_run_32 : decode cX3_run 32 = .ok (.getfield 54, 3) := by decide +kernel
theorem dX3_run_35 : decode cX3_run 35 = .ok (.invokevirtual 59, 3) := by decide +kernel
theorem dX3_run_38 : decode cX3_run 38 = .ok (.aload_n 0, 1) := by decide +kernel
theorem dX3_run_39 : decode cX3_run 39 = .ok (.getfield 25, 3) := by decide +kernel
theorem dX3_run_42 : decode cX3_run 42 = .ok (.aload_n 0, 1) := by decide +kernel
theorem dX3_run_43 : decode cX3_run 43 = .ok (.getfield 28, 3) := by decide +kernel
theorem dX3_run_46 : decode cX3_run 46 = .ok (.aload_n 0, 1) := by decide +kernel
theorem dX3_run_47 : decode cX3_run 47 = .ok (.getfield 32, 3) := by decide +kernel
theorem dX3_run_50 : decode cX3_run 50 = .ok (.getfield 64, 3) := by decide +kernel
theorem dX3_run_53 : decode cX3_run 53 = .ok (.iconst 5, 1) := by decide +kernel
theorem dX3_run_54 : decode cX3_run 54 = .ok (.iaload, 1) := by decide +kernel
theorem dX3_run_55 : decode cX3_run 55 = .ok (.invokevirtual 70, 3) := by decide +kernel
theorem dX3_run_58 : decode cX3_run 58 = .ok (.aload_n 0, 1) := by decide +kernel
theorem dX3_run_59 : decode cX3_run 59 = .ok (.iconst 0, 1) := by decide +kernel
theorem dX3_run_60 : decode cX3_run 60 = .ok (.iconst 0, 1) := by decide +kernel
theorem dX3_run_61 : decode cX3_run 61 = .ok (.invokevirtual 74, 3) := by decide +kernel
theorem dX3_run_64 : decode cX3_run 64 = .ok (.iconst 0, 1) := by decide +kernel
theorem dX3_run_65 : decode cX3_run 65 = .ok (.istore 4, 2) := by decide +kernel
theorem dX3_run_67 : decode cX3_run 67 = .ok (.iload 4, 2) := by decide +kernel
theorem dX3_run_69 : decode cX3_run 69 = .ok (.aload_n 0, 1) := by decide +kernel
theorem dX3_run_70 : decode cX3_run 70 = .ok (.getfield 12, 3) := by decide +kernel
theorem dX3_run_73 : decode cX3_run 73 = .ok (.getfield 78, 3) := by decide +kernel
theorem dX3_run_76 : decode cX3_run 76 = .ok (.if_icmp .ge 30, 3) := by decide +kernel
theorem dX3_run_79 : decode cX3_run 79 = .ok (.iload 4, 2) := by decide +kernel
theorem dX3_run_81 : decode cX3_run 81 = .ok (.sipush 600, 3) := by decide +kernel
theorem dX3_run_84 : decode cX3_run 84 = .ok (.if_icmp .ge 22, 3) := by decide +kernel
theorem dX3_run_87 : decode cX3_run 87 = .ok (.aload_n 0, 1) := by decide +kernel
theorem dX3_run_88 : decode cX3_run 88 = .ok (.getfield 47, 3) := by decide +kernel
theorem dX3_run_91 : decode cX3_run 91 = .ok (.ifCond .ne 15, 3) := by decide +kernel
theorem dX3_run_94 : decode cX3_run 94 = .ok (.aload_n 0, 1) := by decide +kernel
theorem dX3_run_95 : decode cX3_run 95 = .ok (.iload 4, 2) := by decide +kernel
theorem dX3_run_97 : decode cX3_run 97 = .ok (.invokevirtual 81, 3) := by decide +kernel
theorem dX3_run_100 : decode cX3_run 100 = .ok (.iinc 4 1, 3) := by decide +kernel
theorem dX3_run_103 : decode cX3_run 103 = .ok (.goto (-36), 3) := by decide +kernel
theorem dX3_run_106 : decode cX3_run 106 = .ok (.aload_n 3, 1) := by decide +kernel
theorem dX3_run_107 : decode cX3_run 107 = .ok (.aload_n 0, 1) := by decide +kernel
theorem dX3_run_108 : decode cX3_run 108 = .ok (.getfield 47, 3) := by decide +kernel
theorem dX3_run_111 : decode cX3_run 111 = .ok (.ifCond .ne 7, 3) := by decide +kernel
theorem dX3_run_114 : decode cX3_run 114 = .ok (.iconst 1, 1) := by decide +kernel
theorem dX3_run_115 : decode cX3_run 115 = .ok (.goto 4, 3) := by decide +kernel
theorem dX3_run_118 : decode cX3_run 118 = .ok (.iconst 0, 1) := by decide +kernel
theorem dX3_run_119 : decode cX3_run 119 = .ok (.putfield 84, 3) := by decide +kernel
theorem dX3_run_122 : decode cX3_run 122 = .ok (.return_, 1) := by decide +kernel
set_option maxRecDepth 20000 in
theorem ggX3_goThrough_X5_load : GoodIn wsX3_goThrough wsX5_load := goodIn_r _ [10, 11, 12, 13, 14, 15, 16, 17, 18, 19, 20, 209, 210, 211, 212, 213, 214, 215, 216] (by decide +kernel) (by decide +kernel)
set_option maxRecDepth 20000 in
theorem gX3_goThrough_X5_load : GoodIn wsX3_goThrough (wsV RX3 87 RX5 yX5_load wsX5_load) := goodIn_app (goodIn_of _ (by decide +kernel)) ggX3_goThrough_X5_load
set_option maxRecDepth 20000 in
theorem ggX3_goThrough_X4_doublesLeft : GoodIn wsX3_goThrough wsX4_doublesLeft := goodIn_r _ [25, 26, 214, 215, 216] (by decide +kernel) (by decide +kernel)
set_option maxRecDepth 20000 in
theorem gX3_goThrough_X4_doublesLeft : GoodIn wsX3_goThrough (wsV RX3 91 RX4 yX4_doublesLeft wsX4_doublesLeft) := goodIn_app (goodIn_of _ (by decide +kernel)) ggX3_goThrough_X4_doublesLeft
set_option maxRecDepth 20000 in
theorem ggX3_goThrough_X4_hasCome : GoodIn wsX3_goThrough wsX4_hasCome := goodIn_r _ [30, 26, 214, 215, 216] (by decide +kernel) (by decide +kernel)
set_option maxRecDepth 20000 in
theorem gX3_goThrough_X4_hasCome : GoodIn wsX3_goThrough (wsV RX3 98 RX4 yX4_hasCome wsX4_hasCome) := goodIn_app (goodIn_of _ (by decide +kernel)) ggX3_goThrough_X4_hasCome
set_option maxRecDepth 20000 in
theorem ggX3_goThrough_X3_take : GoodIn wsX3_goThrough wsX3_take := goodIn_r _ [35, 36, 37, 2, 3, 38, 39, 40, 41, 42, 43, 24, 44, 26, 45, 46, 47, 18, 19, 20, 48, 49, 50, 51, 52, 53, 54, 55, 56, 57, 58, 59, 60, 61, 62, 63, 64, 65, 66, 67, 34, 68, 69, 70, 5, 71, 72, 73, 74, 75, 76, 77, 78, 79, 80, 81, 82, 83, 84, 85, 86, 87, 88, 89, 90, 91, 92, 93, 94, 95, 96, 97, 98, 99, 100, 101, 102, 103, 104, 105, 106, 107, 108, 109, 110, 111, 112, 113, 114, 115, 116, 117, 118, 119, 120, 121, 122, 123, 124, 125, 126, 127, 128, 1, 129, 130, 131, 4, 132, 133, 134, 9, 135, 136, 137, 138, 139, 140, 141, 142, 143, 144, 145, 11, 12, 13, 14, 15, 16, 146, 147, 148, 149, 150, 17, 151, 152, 153, 154, 155, 156, 157, 158, 159, 160, 161, 162, 163, 164, 165, 166, 167, 168, 169, 170, 171, 172, 173, 174, 175, 176, 177, 178, 179, 180, 181, 182, 183, 184, 185, 191, 192, 193, 194, 195, 196, 197, 198, 199, 200, 201, 202, 203, 204, 205, 206, 207, 208, 214, 215, 216, 217, 218, 209, 210, 211, 212, 213, 219, 220, 221, 222, 223, 224, 225, 226, 227, 228] (by decide +kernel) (by decide +kernel)
set_option maxRecDepth 20000 in
theorem gX3_goThrough_X3_take : GoodIn wsX3_goThrough (wsV RX3 102 RX3 yX3_take wsX3_take) := goodIn_app (goodIn_of _ (by decide +kernel)) ggX3_goThrough_X3_take
set_option maxRecDepth 20000 in
theorem ggX3_goThrough_X4_underWay : GoodIn wsX3_goThrough wsX4_underWay := goodIn_r _ [119, 45, 214, 215, 216] (by decide +kernel) (by decide +kernel)
set_option maxRecDepth 20000 in
theorem gX3_goThrough_X4_underWay : GoodIn wsX3_goThrough (wsV RX3 109 RX4 yX4_underWay wsX4_underWay) := goodIn_app (goodIn_of _ (by decide +kernel)) ggX3_goThrough_X4_underWay
set_option maxRecDepth 20000 in
theorem ggX3_goThrough_X3_isStep : GoodIn wsX3_goThrough wsX3_isStep := goodIn_r _ [190, 69, 70, 2, 61, 62, 63, 24, 64, 46, 191, 192, 193, 194, 195, 196, 197, 198, 199, 217, 218, 214, 215, 216] (by decide +kernel) (by decide +kernel)
set_option maxRecDepth 20000 in
theorem gX3_goThrough_X3_isStep : GoodIn wsX3_goThrough (wsV RX3 113 RX3 yX3_isStep wsX3_isStep) := goodIn_app (goodIn_of _ (by decide +kernel)) ggX3_goThrough_X3_isStep
theorem dX3_goThrough_0 : decode cX3_goThrough 0 = .ok (.aload_n 0, 1) := by decide +kernel
theorem dX3_goThrough_1 : decode cX3_goThrough 1 = .ok (.getfield 12, 3) := by decide +kernel
theorem dX3_goThrough_4 : decode cX3_goThrough 4 = .ok (.iload_n 1, 1) := by decide +kernel
theorem dX3_goThrough_5 : decode cX3_goThrough 5 = .ok (.aload_n 0, 1) := by decide +kernel
theorem dX3_goThrough_6 : decode cX3_goThrough 6 = .ok (.getfield 21, 3) := by decide +kernel
theorem dX3_goThrough_9 : decode cX3_goThrough 9 = .ok (.invokevirtual 87, 3) := by decide +kernel
theorem dX3_goThrough_12 : decode cX3_goThrough 12 = .ok (.aload_n 0, 1) := by decide +kernel
theorem dX3_goThrough_13 : decode cX3_goThrough 13 = .ok (.getfield 21, 3) := by decide +kernel
theorem dX3_goThrough_16 : decode cX3_goThrough 16 = .ok (.invokevirtual 91, 3) := by decide +kernel
theorem dX3_goThrough_19 : decode cX3_goThrough 19 = .ok (.ifCond .le 7, 3) := by decide +kernel
theorem dX3_goThrough_22 : decode cX3_goThrough 22 = .ok (.iconst 2, 1) := by decide +kernel
theorem dX3_goThrough_23 : decode cX3_goThrough 23 = .ok (.goto 4, 3) := by decide +kernel
theorem dX3_goThrough_26 : decode cX3_goThrough 26 = .ok (.iconst 1, 1) := by decide +kernel
theorem dX3_goThrough_27 : decode cX3_goThrough 27 = .ok (.istore_n 2, 1) := by decide +kernel
theorem dX3_goThrough_28 : decode cX3_goThrough 28 = .ok (.iconst 0, 1) := by decide +kernel
theorem dX3_goThrough_29 : decode cX3_goThrough 29 = .ok (.istore_n 3, 1) := by decide +kernel
theorem dX3_goThrough_30 : decode cX3_goThrough 30 = .ok (.iload_n 3, 1) := by decide +kernel
theorem dX3_goThrough_31 : decode cX3_goThrough 31 = .ok (.aload_n 0, 1) := by decide +kernel
theorem dX3_goThrough_32 : decode cX3_goThrough 32 = .ok (.getfield 28, 3) := by decide +kernel
theorem dX3_goThrough_35 : decode cX3_goThrough 35 = .ok (.getfield 95, 3) := by decide +kernel
theorem dX3_goThrough_38 : decode cX3_goThrough 38 = .ok (.if_icmp .ge 47, 3) := by decide +kernel
theorem dX3_goThrough_41 : decode cX3_goThrough 41 = .ok (.iconst 0, 1) := by decide +kernel
theorem dX3_goThrough_42 : decode cX3_goThrough 42 = .ok (.istore 4, 2) := by decide +kernel
theorem dX3_goThrough_44 : decode cX3_goThrough 44 = .ok (.iload 4, 2) := by decide +kernel
theorem dX3_goThrough_46 : decode cX3_goThrough 46 = .ok (.iload_n 2, 1) := by decide +kernel
theorem dX3_goThrough_47 : decode cX3_goThrough 47 = .ok (.if_icmp .ge 32, 3) := by decide +kernel
theorem dX3_goThrough_50 : decode cX3_goThrough 50 = .ok (.aload_n 0, 1) := by decide +kernel
theorem dX3_goThrough_51 : decode cX3_goThrough 51 = .ok (.getfield 21, 3) := by decide +kernel
theorem dX3_goThrough_54 : decode cX3_goThrough 54 = .ok (.iload_n 3, 1) := by decide +kernel
theorem dX3_goThrough_55 : decode cX3_goThrough 55 = .ok (.invokevirtual 98, 3) := by decide +kernel
theorem dX3_goThrough_58 : decode cX3_goThrough 58 = .ok (.ifCond .ne 21, 3) := by decide +kernel
theorem dX3_goThrough_61 : decode cX3_goThrough 61 = .ok (.aload_n 0, 1) := by decide +kernel
theorem dX3_goThrough_62 : decode cX3_goThrough 62 = .ok (.iload_n 1, 1) := by decide +kernel
theorem dX3_goThrough_63 : decode cX3_goThrough 63 = .ok (.bipush 100, 2) := by decide +kernel
theorem dX3_goThrough_65 : decode cX3_goThrough 65 = .ok (.iload_n 3, 1) := by decide +kernel
theorem dX3_goThrough_66 : decode cX3_goThrough 66 = .ok (.iadd, 1) := by decide +kernel
theorem dX3_goThrough_67 : decode cX3_goThrough 67 = .ok (.iconst 0, 1) := by decide +kernel
theorem dX3_goThrough_68 : decode cX3_goThrough 68 = .ok (.iload 4, 2) := by decide +kernel
theorem dX3_goThrough_70 : decode cX3_goThrough 70 = .ok (.invokevirtual 102, 3) := by decide +kernel
theorem dX3_goThrough_73 : decode cX3_goThrough 73 = .ok (.iinc 4 1, 3) := by decide +kernel
theorem dX3_goThrough_76 : decode cX3_goThrough 76 = .ok (.goto (-32), 3) := by decide +kernel
theorem dX3_goThrough_79 : decode cX3_goThrough 79 = .ok (.iinc 3 1, 3) := by decide +kernel
theorem dX3_goThrough_82 : decode cX3_goThrough 82 = .ok (.goto (-52), 3) := by decide +kernel
theorem dX3_goThrough_85 : decode cX3_goThrough 85 = .ok (.iconst 0, 1) := by decide +kernel
theorem dX3_goThrough_86 : decode cX3_goThrough 86 = .ok (.istore_n 3, 1) := by decide +kernel
theorem dX3_goThrough_87 : decode cX3_goThrough 87 = .ok (.iload_n 3, 1) := by decide +kernel
theorem dX3_goThrough_88 : decode cX3_goThrough 88 = .ok (.aload_n 0, 1) := by decide +kernel
theorem dX3_goThrough_89 : decode cX3_goThrough 89 = .ok (.getfield 28, 3) := by decide +kernel
theorem dX3_goThrough_92 : decode cX3_goThrough 92 = .ok (.getfield 106, 3) := by decide +kernel
theorem dX3_goThrough_95 : decode cX3_goThrough 95 = .ok (.if_icmp .ge 70, 3) := by decide +kernel
theorem dX3_goThrough_98 : decode cX3_goThrough 98 = .ok (.aload_n 0, 1) := by decide +kernel
theorem dX3_goThrough_99 : decode cX3_goThrough 99 = .ok (.getfield 21, 3) := by decide +kernel
theorem dX3_goThrough_102 : decode cX3_goThrough 102 = .ok (.iload_n 3, 1) := by decide +kernel
theorem dX3_goThrough_103 : decode cX3_goThrough 103 = .ok (.invokevirtual 109, 3) := by decide +kernel
theorem dX3_goThrough_106 : decode cX3_goThrough 106 = .ok (.istore 4, 2) := by decide +kernel
theorem dX3_goThrough_108 : decode cX3_goThrough 108 = .ok (.iconst 0, 1) := by decide +kernel
theorem dX3_goThrough_109 : decode cX3_goThrough 109 = .ok (.istore 5, 2) := by decide +kernel
theorem dX3_goThrough_111 : decode cX3_goThrough 111 = .ok (.iload 5, 2) := by decide +kernel
theorem dX3_goThrough_113 : decode cX3_goThrough 113 = .ok (.iload 4, 2) := by decide +kernel
theorem dX3_goThrough_115 : decode cX3_goThrough 115 = .ok (.if_icmp .ge 44, 3) := by decide +kernel
theorem dX3_goThrough_118 : decode cX3_goThrough 118 = .ok (.iconst 0, 1) := by decide +kernel
theorem dX3_goThrough_119 : decode cX3_goThrough 119 = .ok (.istore 6, 2) := by decide +kernel
theorem dX3_goThrough_121 : decode cX3_goThrough 121 = .ok (.iload 6, 2) := by decide +kernel
theorem dX3_goThrough_123 : decode cX3_goThrough 123 = .ok (.iload_n 2, 1) := by decide +kernel
theorem dX3_goThrough_124 : decode cX3_goThrough 124 = .ok (.if_icmp .ge 29, 3) := by decide +kernel
theorem dX3_goThrough_127 : decode cX3_goThrough 127 = .ok (.aload_n 0, 1) := by decide +kernel
theorem dX3_goThrough_128 : decode cX3_goThrough 128 = .ok (.iload_n 3, 1) := by decide +kernel
theorem dX3_goThrough_129 : decode cX3_goThrough 129 = .ok (.iload 5, 2) := by decide +kernel
theorem dX3_goThrough_131 : decode cX3_goThrough 131 = .ok (.invokevirtual 113, 3) := by decide +kernel
theorem dX3_goThrough_134 : decode cX3_goThrough 134 = .ok (.ifCond .eq 19, 3) := by decide +kernel
theorem dX3_goThrough_137 : decode cX3_goThrough 137 = .ok (.aload_n 0, 1) := by decide +kernel
theorem dX3_goThrough_138 : decode cX3_goThrough 138 = .ok (.iload_n 1, 1) := by decide +kernel
theorem dX3_goThrough_139 : decode cX3_goThrough 139 = .ok (.iload_n 3, 1) := by decide +kernel
theorem dX3_goThrough_140 : decode cX3_goThrough 140 = .ok (.iload 5, 2) := by decide +kernel
theorem dX3_goThrough_142 : decode cX3_goThrough 142 = .ok (.iload 6, 2) := by decide +kernel
theorem dX3_goThrough_144 : decode cX3_goThrough 144 = .ok (.invokevirtual 102, 3) := by decide +kernel
theorem dX3_goThrough_147 : decode cX3_goThrough 147 = .ok (.iinc 6 1, 3) := by decide +kernel
theorem dX3_goThrough_150 : decode cX3_goThrough 150 = .ok (.goto (-29), 3) := by decide +kernel
theorem dX3_goThrough_153 : decode cX3_goThrough 153 = .ok (.iinc 5 1, 3) := by decide +kernel
theorem dX3_goThrough_156 : decode cX3_goThrough 156 = .ok (.goto (-45), 3) := by decide +kernel
theorem dX3_goThrough_159 : decode cX3_goThrough 159 = .ok (.iinc 3 1, 3) := by decide +kernel
theorem dX3_goThrough_162 : decode cX3_goThrough 162 = .ok (.goto (-75), 3) := by decide +kernel
theorem dX3_goThrough_165 : decode cX3_goThrough 165 = .ok (.return_, 1) := by decide +kernel
set_option maxRecDepth 20000 in
theorem ggX3_isStep_X4_messageAt : GoodIn wsX3_isStep wsX4_messageAt := goodIn_r _ [8, 9, 21, 22, 23] (by decide +kernel) (by decide +kernel)
set_option maxRecDepth 20000 in
theorem gX3_isStep_X4_messageAt : GoodIn wsX3_isStep (wsV RX3 117 RX4 yX4_messageAt wsX4_messageAt) := goodIn_app (goodIn_of _ (by decide +kernel)) ggX3_isStep_X4_messageAt
theorem dX3_isStep_0 : decode cX3_isStep 0 = .ok (.iload_n 2, 1) := by decide +kernel
theorem dX3_isStep_1 : decode cX3_isStep 1 = .ok (.ifCond .ne 5, 3) := by decide +kernel
theorem dX3_isStep_4 : decode cX3_isStep 4 = .ok (.iconst 1, 1) := by decide +kernel
theorem dX3_isStep_5 : decode cX3_isStep 5 = .ok (.ireturn, 1) := by decide +kernel
theorem dX3_isStep_6 : decode cX3_isStep 6 = .ok (.aload_n 0, 1) := by decide +kernel
theorem dX3_isStep_7 : decode cX3_isStep 7 = .ok (.getfield 32, 3) := by decide +kernel
theorem dX3_isStep_10 : decode cX3_isStep 10 = .ok (.getfield 64, 3) := by decide +kernel
theorem dX3_isStep_13 : decode cX3_isStep 13 = .ok (.iconst 4, 1) := by decide +kernel
theorem dX3_isStep_14 : decode cX3_isStep 14 = .ok (.iaload, 1) := by decide +kernel
theorem dX3_isStep_15 : decode cX3_isStep 15 = .ok (.ifCond .ne 30, 3) := by decide +kernel
theorem dX3_isStep_18 : decode cX3_isStep 18 = .ok (.aload_n 0, 1) := by decide +kernel
theorem dX3_isStep_19 : decode cX3_isStep 19 = .ok (.getfield 21, 3) := by decide +kernel
theorem dX3_isStep_22 : decode cX3_isStep 22 = .ok (.iload_n 1, 1) := by decide +kernel
theorem dX3_isStep_23 : decode cX3_isStep 23 = .ok (.iload_n 2, 1) := by decide +kernel
theorem dX3_isStep_24 : decode cX3_isStep 24 = .ok (.invokevirtual 117, 3) := by decide +kernel
theorem dX3_isStep_27 : decode cX3_isStep 27 = .ok (.aload_n 0, 1) := by decide +kernel
theorem dX3_isStep_28 : decode cX3_isStep 28 = .ok (.getfield 21, 3) := by decide +kernel
theorem dX3_isStep_31 : decode cX3_isStep 31 = .ok (.iload_n 1, 1) := by decide +kernel
theorem dX3_isStep_32 : decode cX3_isStep 32 = .ok (.iload_n 2, 1) := by decide +kernel
theorem dX3_isStep_33 : decode cX3_isStep 33 = .ok (.iconst 1, 1) := by decide +kernel
theorem dX3_isStep_34 : decode cX3_isStep 34 = .ok (.isub, 1) := by decide +kernel
theorem dX3_isStep_35 : decode cX3_isStep 35 = .ok (.invokevirtual 117, 3) := by decide +kernel
theorem dX3_isStep_38 : decode cX3_isStep 38 = .ok (.if_icmp .eq 7, 3) := by decide +kernel
theorem dX3_isStep_41 : decode cX3_isStep 41 = .ok (.iconst 1, 1) := by decide +kernel
theorem dX3_isStep_42 : decode cX3_isStep 42 = .ok (.goto 4, 3) := by decide +kernel
theorem dX3_isStep_45 : decode cX3_isStep 45 = .ok (.iconst 0, 1) := by decide +kernel
theorem dX3_isStep_46 : decode cX3_isStep 46 = .ok (.ireturn, 1) := by decide +kernel
set_option maxRecDepth 20000 in
theorem ggX3_take_X4_copy : GoodIn wsX3_take wsX4_copy := goodIn_r _ [12, 13, 14, 15, 16, 17, 18, 19, 188, 189, 190] (by decide +kernel) (by decide +kernel)
set_option maxRecDepth 20000 in
theorem gX3_take_X4_copy : GoodIn wsX3_take (wsV RX3 121 RX4 yX4_copy wsX4_copy) := goodIn_app (goodIn_of _ (by decide +kernel)) ggX3_take_X4_copy
set_option maxRecDepth 20000 in
theorem ggX3_take_X4_useDouble : GoodIn wsX3_take wsX4_useDouble := goodIn_r _ [23, 13, 24, 188, 189, 190] (by decide +kernel) (by decide +kernel)
set_option maxRecDepth 20000 in
theorem gX3_take_X4_useDouble : GoodIn wsX3_take (wsV RX3 125 RX4 yX4_useDouble wsX4_useDouble) := goodIn_app (goodIn_of _ (by decide +kernel)) ggX3_take_X4_useDouble
set_option maxRecDepth 20000 in
theorem ggX3_take_X4_markCome : GoodIn wsX3_take wsX4_markCome := goodIn_r _ [28, 13, 188, 189, 190] (by decide +kernel) (by decide +kernel)
set_option maxRecDepth 20000 in
theorem gX3_take_X4_markCome : GoodIn wsX3_take (wsV RX3 128 RX4 yX4_markCome wsX4_markCome) := goodIn_app (goodIn_of _ (by decide +kernel)) ggX3_take_X4_markCome
set_option maxRecDepth 20000 in
theorem ggX3_take_X4_take : GoodIn wsX3_take wsX4_take := goodIn_r _ [32, 15, 14, 188, 189, 190] (by decide +kernel) (by decide +kernel)
set_option maxRecDepth 20000 in
theorem gX3_take_X4_take : GoodIn wsX3_take (wsV RX3 131 RX4 yX4_take wsX4_take) := goodIn_app (goodIn_of _ (by decide +kernel)) ggX3_take_X4_take
set_option maxRecDepth 20000 in
theorem ggX3_take_X4_messageAt : GoodIn wsX3_take wsX4_messageAt := goodIn_r _ [36, 15, 188, 189, 190] (by decide +kernel) (by decide +kernel)
set_option maxRecDepth 20000 in
theorem gX3_take_X4_messageAt : GoodIn wsX3_take (wsV RX3 117 RX4 yX4_messageAt wsX4_messageAt) := goodIn_app (goodIn_of _ (by decide +kernel)) ggX3_take_X4_messageAt
set_option maxRecDepth 20000 in
theorem ggX3_take_X3_deliver : GoodIn wsX3_take wsX3_deliver := goodIn_r _ [41, 2, 42, 43, 4, 44, 45, 46, 47, 48, 49, 50, 11, 51, 13, 52, 53, 54, 55, 56, 57, 58, 59, 60, 61, 62, 63, 64, 65, 66, 67, 68, 69, 70, 71, 72, 73, 74, 75, 76, 77, 78, 79, 80, 81, 82, 83, 84, 85, 86, 87, 88, 89, 15, 14, 90, 91, 92, 93, 94, 34, 35, 36, 170, 171, 172, 173, 174, 175, 176, 177, 178, 191, 192, 179, 180, 181, 182, 183, 184, 185, 186, 187, 188, 189, 190] (by decide +kernel) (by decide +kernel)
set_option maxRecDepth 20000 in
theorem gX3_take_X3_deliver : GoodIn wsX3_take (wsV RX3 142 RX3 yX3_deliver wsX3_deliver) := goodIn_app (goodIn_of _ (by decide +kernel)) ggX3_take_X3_deliver
set_option maxRecDepth 20000 in
theorem ggX3_take_X6_of : GoodIn wsX3_take wsX6_of := goodIn_r _ [98] (by decide +kernel) (by decide +kernel)
set_option maxRecDepth 20000 in
theorem gX3_take_X6_of : GoodIn wsX3_take (va_wsS RX3 145 yX6_of wsX6_of) := goodIn_app (goodIn_of _ (by decide +kernel)) ggX3_take_X6_of
set_option maxRecDepth 20000 in
theorem ggX3_take_X3_keepNext : GoodIn wsX3_take wsX3_keepNext := goodIn_r _ [102, 103, 2, 104, 105, 1, 106, 4, 107, 108, 109, 110, 111, 112, 113, 114, 115, 116, 11, 117, 13, 14, 118, 15, 119, 120, 121, 122, 123, 124, 125, 126, 127, 128, 129, 130, 131, 132, 133, 134, 17, 18, 19, 135, 136, 137, 138, 139, 140, 141, 142, 143, 144, 145, 146, 90, 91, 92, 93, 147, 148, 149, 150, 151, 152, 153, 154, 155, 156, 157, 158, 159, 160, 161, 63, 60, 64, 162, 163, 164, 165, 166, 167, 168, 169, 170, 171, 172, 173, 174, 175, 176, 177, 178, 193, 194, 195, 196, 197, 179, 180, 181, 182, 183, 184, 185, 186, 187, 188, 189, 190, 198, 199, 200, 201, 202, 203, 204, 205, 206, 207] (by decide +kernel) (by decide +kernel)
set_option maxRecDepth 20000 in
theorem gX3_take_X3_keepNext : GoodIn wsX3_take (wsV RX3 74 RX3 yX3_keepNext wsX3_keepNext) := goodIn_app (goodIn_of _ (by decide +kernel)) ggX3_take_X3_keepNext
theorem dX3_take_0 : decode cX3_take 0 = .ok (.aload_n 0, 1) := by decide +kernel
theorem dX3_take_1 : decode cX3_take 1 = .ok (.getfield 47, 3) := by decide +kernel
theorem dX3_take_4 : decode cX3_take 4 = .ok (.ifCond .eq 4, 3) := by decide +kernel
theorem dX3_take_7 : decode cX3_take 7 = .ok (.return_, 1) := by decide +kernel
theorem dX3_take_8 : decode cX3_take 8 = .ok (.aload_n 0, 1) := by decide +kernel
theorem dX3_take_9 : decode cX3_take 9 = .ok (.getfield 25, 3) := by decide +kernel
theorem dX3_take_12 : decode cX3_take 12 = .ok (.aload_n 0, 1) := by decide +kernel
theorem dX3_take_13 : decode cX3_take 13 = .ok (.getfield 21, 3) := by decide +kernel
theorem dX3_take_16 : decode cX3_take 16 = .ok (.invokevirtual 121, 3) := by decide +kernel
theorem dX3_take_19 : decode cX3_take 19 = .ok (.iload_n 2, 1) := by decide +kernel
theorem dX3_take_20 : decode cX3_take 20 = .ok (.bipush 100, 2) := by decide +kernel
theorem dX3_take_22 : decode cX3_take 22 = .ok (.isub, 1) := by decide +kernel
theorem dX3_take_23 : decode cX3_take 23 = .ok (.istore 5, 2) := by decide +kernel
theorem dX3_take_25 : decode cX3_take 25 = .ok (.iload 5, 2) := by decide +kernel
theorem dX3_take_27 : decode cX3_take 27 = .ok (.ifCond .lt 7, 3) := by decide +kernel
theorem dX3_take_30 : decode cX3_take 30 = .ok (.iconst 1, 1) := by decide +kernel
theorem dX3_take_31 : decode cX3_take 31 = .ok (.goto 4, 3) := by decide +kernel
theorem dX3_take_34 : decode cX3_take 34 = .ok (.iconst 0, 1) := by decide +kernel
theorem dX3_take_35 : decode cX3_take 35 = .ok (.istore 6, 2) := by decide +kernel
theorem dX3_take_37 : decode cX3_take 37 = .ok (.iload 4, 2) := by decide +kernel
theorem dX3_take_39 : decode cX3_take 39 = .ok (.iconst 1, 1) := by decide +kernel
theorem dX3_take_40 : decode cX3_take 40 = .ok (.if_icmp .ne 13, 3) := by decide +kernel
theorem dX3_take_43 : decode cX3_take 43 = .ok (.aload_n 0, 1) := by decide +kernel
theorem dX3_take_44 : decode cX3_take 44 = .ok (.getfield 25, 3) := by decide +kernel
theorem dX3_take_47 : decode cX3_take 47 = .ok (.invokevirtual 125, 3) := by decide +kernel
theorem dX3_take_50 : decode cX3_take 50 = .ok (.goto 29, 3) := by decide +kernel
theorem dX3_take_53 : decode cX3_take 53 = .ok (.iload 6, 2) := by decide +kernel
theorem dX3_take_55 : decode cX3_take 55 = .ok (.ifCond .eq 15, 3) := by decide +kernel
theorem dX3_take_58 : decode cX3_take 58 = .ok (.aload_n 0, 1) := by decide +kernel
theorem dX3_take_59 : decode cX3_take 59 = .ok (.getfield 25, 3) := by decide +kernel
theorem dX3_take_62 : decode cX3_take 62 = .ok (.iload 5, 2) := by decide +kernel
theorem dX3_take_64 : decode cX3_take 64 = .ok (.invokevirtual 128, 3) := by decide +kernel
theorem dX3_take_67 : decode cX3_take 67 = .ok (.goto 12, 3) := by decide +kernel
theorem dX3_take_70 : decode cX3_take 70 = .ok (.aload_n 0, 1) := by decide +kernel
theorem dX3_take_71 : decode cX3_take 71 = .ok (.getfield 25, 3) := by decide +kernel
theorem dX3_take_74 : decode cX3_take 74 = .ok (.iload_n 2, 1) := by decide +kernel
theorem dX3_take_75 : decode cX3_take 75 = .ok (.iload_n 3, 1) := by decide +kernel
theorem dX3_take_76 : decode cX3_take 76 = .ok (.invokevirtual 131, 3) := by decide +kernel
theorem dX3_take_79 : decode cX3_take 79 = .ok (.iload 6, 2) := by decide +kernel
theorem dX3_take_81 : decode cX3_take 81 = .ok (.ifCond .eq 16, 3) := by decide +kernel
theorem dX3_take_84 : decode cX3_take 84 = .ok (.aload_n 0, 1) := by decide +kernel
theorem dX3_take_85 : decode cX3_take 85 = .ok (.getfield 28, 3) := by decide +kernel
theorem dX3_take_88 : decode cX3_take 88 = .ok (.getfield 133, 3) := by decide +kernel
theorem dX3_take_91 : decode cX3_take 91 = .ok (.iload 5, 2) := by decide +kernel
theorem dX3_take_93 : decode cX3_take 93 = .ok (.iaload, 1) := by decide +kernel
theorem dX3_take_94 : decode cX3_take 94 = .ok (.goto 12, 3) := by decide +kernel
theorem dX3_take_97 : decode cX3_take 97 = .ok (.aload_n 0, 1) := by decide +kernel
theorem dX3_take_98 : decode cX3_take 98 = .ok (.getfield 21, 3) := by decide +kernel
theorem dX3_take_101 : decode cX3_take 101 = .ok (.iload_n 2, 1) := by decide +kernel
theorem dX3_take_102 : decode cX3_take 102 = .ok (.iload_n 3, 1) := by decide +kernel
theorem dX3_take_103 : decode cX3_take 103 = .ok (.invokevirtual 117, 3) := by decide +kernel
end
section
theorem dX3_take_106 : decode cX3_take 106 = .ok (.istore 7, 2) := by decide +kernel
theorem dX3_take_108 : decode cX3_take 108 = .ok (.aload_n 0, 1) := by decide +kernel
theorem dX3_take_109 : decode cX3_take 109 = .ok (.iload 6, 2) := by decide +kernel
theorem dX3_take_111 : decode cX3_take 111 = .ok (.ifCond .eq 16, 3) := by decide +kernel
theorem dX3_take_114 : decode cX3_take 114 = .ok (.aload_n 0, 1) := by decide +kernel
theorem dX3_take_115 : decode cX3_take 115 = .ok (.getfield 28, 3) := by decide +kernel
theorem dX3_take_118 : decode cX3_take 118 = .ok (.getfield 136, 3) := by decide +kernel
theorem dX3_take_121 : decode cX3_take 121 = .ok (.iload 5, 2) := by decide +kernel
theorem dX3_take_123 : decode cX3_take 123 = .ok (.iaload, 1) := by decide +kernel
theorem dX3_take_124 : decode cX3_take 124 = .ok (.goto 12, 3) := by decide +kernel
theorem dX3_take_127 : decode cX3_take 127 = .ok (.aload_n 0, 1) := by decide +kernel
theorem dX3_take_128 : decode cX3_take 128 = .ok (.getfield 28, 3) := by decide +kernel
theorem dX3_take_131 : decode cX3_take 131 = .ok (.getfield 139, 3) := by decide +kernel
theorem dX3_take_134 : decode cX3_take 134 = .ok (.iload_n 2, 1) := by decide +kernel
theorem dX3_take_135 : decode cX3_take 135 = .ok (.iaload, 1) := by decide +kernel
theorem dX3_take_136 : decode cX3_take 136 = .ok (.iload 7, 2) := by decide +kernel
theorem dX3_take_138 : decode cX3_take 138 = .ok (.invokevirtual 142, 3) := by decide +kernel
theorem dX3_take_141 : decode cX3_take 141 = .ok (.aload_n 0, 1) := by decide +kernel
theorem dX3_take_142 : decode cX3_take 142 = .ok (.iload_n 1, 1) := by decide +kernel
theorem dX3_take_143 : decode cX3_take 143 = .ok (.iload_n 2, 1) := by decide +kernel
theorem dX3_take_144 : decode cX3_take 144 = .ok (.iload 7, 2) := by decide +kernel
theorem dX3_take_146 : decode cX3_take 146 = .ok (.iload 4, 2) := by decide +kernel
theorem dX3_take_148 : decode cX3_take 148 = .ok (.invokestatic 145, 3) := by decide +kernel
theorem dX3_take_151 : decode cX3_take 151 = .ok (.invokevirtual 74, 3) := by decide +kernel
theorem dX3_take_154 : decode cX3_take 154 = .ok (.return_, 1) := by decide +kernel
set_option maxRecDepth 20000 in
theorem ggX3_deliver_X4_valueOf : GoodIn wsX3_deliver wsX4_valueOf := goodIn_r _ [13, 14, 83, 84, 85] (by decide +kernel) (by decide +kernel)
set_option maxRecDepth 20000 in
theorem gX3_deliver_X4_valueOf : GoodIn wsX3_deliver (wsV RX3 151 RX4 yX4_valueOf wsX4_valueOf) := goodIn_app (goodIn_of _ (by decide +kernel)) ggX3_deliver_X4_valueOf
set_option maxRecDepth 20000 in
theorem ggX3_deliver_X2_folded : GoodIn wsX3_deliver wsX2_folded := goodIn_r _ [19, 20, 21, 22, 23, 24, 25, 26, 27, 28, 29, 30, 18, 31, 72, 73] (by decide +kernel) (by decide +kernel)
set_option maxRecDepth 20000 in
theorem gX3_deliver_X2_folded : GoodIn wsX3_deliver (wsV RX3 154 RX2 yX2_folded wsX2_folded) := goodIn_app (goodIn_of _ (by decide +kernel)) ggX3_deliver_X2_folded
set_option maxRecDepth 20000 in
theorem ggX3_deliver_X4_change : GoodIn wsX3_deliver wsX4_change := goodIn_r _ [35, 14, 36, 10, 11, 12, 13, 83, 84, 85] (by decide +kernel) (by decide +kernel)
set_option maxRecDepth 20000 in
theorem gX3_deliver_X4_change : GoodIn wsX3_deliver (wsV RX3 157 RX4 yX4_change wsX4_change) := goodIn_app (goodIn_of _ (by decide +kernel)) ggX3_deliver_X4_change
set_option maxRecDepth 20000 in
theorem ggX3_deliver_X4_sentBy : GoodIn wsX3_deliver wsX4_sentBy := goodIn_r _ [40, 14, 83, 84, 85] (by decide +kernel) (by decide +kernel)
set_option maxRecDepth 20000 in
theorem gX3_deliver_X4_sentBy : GoodIn wsX3_deliver (wsV RX3 160 RX4 yX4_sentBy wsX4_sentBy) := goodIn_app (goodIn_of _ (by decide +kernel)) ggX3_deliver_X4_sentBy
set_option maxRecDepth 20000 in
theorem ggX3_deliver_X4_countSend : GoodIn wsX3_deliver wsX4_countSend := goodIn_r _ [44, 14, 83, 84, 85] (by decide +kernel) (by decide +kernel)
set_option maxRecDepth 20000 in
theorem gX3_deliver_X4_countSend : GoodIn wsX3_deliver (wsV RX3 163 RX4 yX4_countSend wsX4_countSend) := goodIn_app (goodIn_of _ (by decide +kernel)) ggX3_deliver_X4_countSend
set_option maxRecDepth 20000 in
theorem ggX3_deliver_X2_sentOut : GoodIn wsX3_deliver wsX2_sentOut := goodIn_r _ [48, 20, 21, 22, 23, 24, 25, 26, 27, 72, 73] (by decide +kernel) (by decide +kernel)
set_option maxRecDepth 20000 in
theorem gX3_deliver_X2_sentOut : GoodIn wsX3_deliver (wsV RX3 172 RX2 yX2_sentOut wsX2_sentOut) := goodIn_app (goodIn_of _ (by decide +kernel)) ggX3_deliver_X2_sentOut
set_option maxRecDepth 20000 in
theorem ggX3_deliver_X4_put : GoodIn wsX3_deliver wsX4_put := goodIn_r _ [52, 53, 54, 55, 56, 57, 12, 58, 59, 60, 61, 62, 83, 84, 85] (by decide +kernel) (by decide +kernel)
set_option maxRecDepth 20000 in
theorem gX3_deliver_X4_put : GoodIn wsX3_deliver (wsV RX3 175 RX4 yX4_put wsX4_put) := goodIn_app (goodIn_of _ (by decide +kernel)) ggX3_deliver_X4_put
theorem dX3_deliver_0 : decode cX3_deliver 0 = .ok (.aload_n 0, 1) := by decide +kernel
theorem dX3_deliver_1 : decode cX3_deliver 1 = .ok (.getfield 25, 3) := by decide +kernel
theorem dX3_deliver_4 : decode cX3_deliver 4 = .ok (.iload_n 1, 1) := by decide +kernel
theorem dX3_deliver_5 : decode cX3_deliver 5 = .ok (.invokevirtual 151, 3) := by decide +kernel
theorem dX3_deliver_8 : decode cX3_deliver 8 = .ok (.istore_n 3, 1) := by decide +kernel
theorem dX3_deliver_9 : decode cX3_deliver 9 = .ok (.aload_n 0, 1) := by decide +kernel
theorem dX3_deliver_10 : decode cX3_deliver 10 = .ok (.getfield 32, 3) := by decide +kernel
theorem dX3_deliver_13 : decode cX3_deliver 13 = .ok (.iload_n 3, 1) := by decide +kernel
theorem dX3_deliver_14 : decode cX3_deliver 14 = .ok (.iload_n 2, 1) := by decide +kernel
theorem dX3_deliver_15 : decode cX3_deliver 15 = .ok (.invokevirtual 154, 3) := by decide +kernel
theorem dX3_deliver_18 : decode cX3_deliver 18 = .ok (.istore 4, 2) := by decide +kernel
theorem dX3_deliver_20 : decode cX3_deliver 20 = .ok (.aload_n 0, 1) := by decide +kernel
theorem dX3_deliver_21 : decode cX3_deliver 21 = .ok (.getfield 25, 3) := by decide +kernel
theorem dX3_deliver_24 : decode cX3_deliver 24 = .ok (.iload_n 1, 1) := by decide +kernel
theorem dX3_deliver_25 : decode cX3_deliver 25 = .ok (.iload 4, 2) := by decide +kernel
theorem dX3_deliver_27 : decode cX3_deliver 27 = .ok (.invokevirtual 157, 3) := by decide +kernel
theorem dX3_deliver_30 : decode cX3_deliver 30 = .ok (.iload 4, 2) := by decide +kernel
theorem dX3_deliver_32 : decode cX3_deliver 32 = .ok (.iload_n 3, 1) := by decide +kernel
theorem dX3_deliver_33 : decode cX3_deliver 33 = .ok (.if_icmp .ne 16, 3) := by decide +kernel
theorem dX3_deliver_36 : decode cX3_deliver 36 = .ok (.aload_n 0, 1) := by decide +kernel
theorem dX3_deliver_37 : decode cX3_deliver 37 = .ok (.getfield 32, 3) := by decide +kernel
theorem dX3_deliver_40 : decode cX3_deliver 40 = .ok (.getfield 64, 3) := by decide +kernel
theorem dX3_deliver_43 : decode cX3_deliver 43 = .ok (.iconst 2, 1) := by decide +kernel
theorem dX3_deliver_44 : decode cX3_deliver 44 = .ok (.iaload, 1) := by decide +kernel
theorem dX3_deliver_45 : decode cX3_deliver 45 = .ok (.iconst 1, 1) := by decide +kernel
theorem dX3_deliver_46 : decode cX3_deliver 46 = .ok (.if_icmp .ne 7, 3) := by decide +kernel
theorem dX3_deliver_49 : decode cX3_deliver 49 = .ok (.iconst 1, 1) := by decide +kernel
theorem dX3_deliver_50 : decode cX3_deliver 50 = .ok (.goto 4, 3) := by decide +kernel
theorem dX3_deliver_53 : decode cX3_deliver 53 = .ok (.iconst 0, 1) := by decide +kernel
theorem dX3_deliver_54 : decode cX3_deliver 54 = .ok (.istore 5, 2) := by decide +kernel
theorem dX3_deliver_56 : decode cX3_deliver 56 = .ok (.iload 5, 2) := by decide +kernel
theorem dX3_deliver_58 : decode cX3_deliver 58 = .ok (.ifCond .eq 23, 3) := by decide +kernel
theorem dX3_deliver_61 : decode cX3_deliver 61 = .ok (.aload_n 0, 1) := by decide +kernel
theorem dX3_deliver_62 : decode cX3_deliver 62 = .ok (.getfield 25, 3) := by decide +kernel
theorem dX3_deliver_65 : decode cX3_deliver 65 = .ok (.iload_n 1, 1) := by decide +kernel
theorem dX3_deliver_66 : decode cX3_deliver 66 = .ok (.invokevirtual 160, 3) := by decide +kernel
theorem dX3_deliver_69 : decode cX3_deliver 69 = .ok (.aload_n 0, 1) := by decide +kernel
theorem dX3_deliver_70 : decode cX3_deliver 70 = .ok (.getfield 32, 3) := by decide +kernel
theorem dX3_deliver_73 : decode cX3_deliver 73 = .ok (.getfield 64, 3) := by decide +kernel
theorem dX3_deliver_76 : decode cX3_deliver 76 = .ok (.iconst 3, 1) := by decide +kernel
theorem dX3_deliver_77 : decode cX3_deliver 77 = .ok (.iaload, 1) := by decide +kernel
theorem dX3_deliver_78 : decode cX3_deliver 78 = .ok (.if_icmp .lt 4, 3) := by decide +kernel
theorem dX3_deliver_81 : decode cX3_deliver 81 = .ok (.return_, 1) := by decide +kernel
theorem dX3_deliver_82 : decode cX3_deliver 82 = .ok (.aload_n 0, 1) := by decide +kernel
theorem dX3_deliver_83 : decode cX3_deliver 83 = .ok (.getfield 25, 3) := by decide +kernel
theorem dX3_deliver_86 : decode cX3_deliver 86 = .ok (.iload_n 1, 1) := by decide +kernel
theorem dX3_deliver_87 : decode cX3_deliver 87 = .ok (.invokevirtual 163, 3) := by decide +kernel
theorem dX3_deliver_90 : decode cX3_deliver 90 = .ok (.iconst 0, 1) := by decide +kernel
theorem dX3_deliver_91 : decode cX3_deliver 91 = .ok (.istore 6, 2) := by decide +kernel
theorem dX3_deliver_93 : decode cX3_deliver 93 = .ok (.iload 6, 2) := by decide +kernel
theorem dX3_deliver_95 : decode cX3_deliver 95 = .ok (.aload_n 0, 1) := by decide +kernel
theorem dX3_deliver_96 : decode cX3_deliver 96 = .ok (.getfield 28, 3) := by decide +kernel
theorem dX3_deliver_99 : decode cX3_deliver 99 = .ok (.getfield 106, 3) := by decide +kernel
theorem dX3_deliver_102 : decode cX3_deliver 102 = .ok (.if_icmp .ge 82, 3) := by decide +kernel
theorem dX3_deliver_105 : decode cX3_deliver 105 = .ok (.aload_n 0, 1) := by decide +kernel
theorem dX3_deliver_106 : decode cX3_deliver 106 = .ok (.getfield 28, 3) := by decide +kernel
theorem dX3_deliver_109 : decode cX3_deliver 109 = .ok (.getfield 166, 3) := by decide +kernel
theorem dX3_deliver_112 : decode cX3_deliver 112 = .ok (.iload 6, 2) := by decide +kernel
theorem dX3_deliver_114 : decode cX3_deliver 114 = .ok (.iaload, 1) := by decide +kernel
theorem dX3_deliver_115 : decode cX3_deliver 115 = .ok (.iload_n 1, 1) := by decide +kernel
theorem dX3_deliver_116 : decode cX3_deliver 116 = .ok (.if_icmp .ne 62, 3) := by decide +kernel
theorem dX3_deliver_119 : decode cX3_deliver 119 = .ok (.aload_n 0, 1) := by decide +kernel
theorem dX3_deliver_120 : decode cX3_deliver 120 = .ok (.getfield 44, 3) := by decide +kernel
theorem dX3_deliver_123 : decode cX3_deliver 123 = .ok (.iload 6, 2) := by decide +kernel
theorem dX3_deliver_125 : decode cX3_deliver 125 = .ok (.iushr, 1) := by decide +kernel
theorem dX3_deliver_126 : decode cX3_deliver 126 = .ok (.iconst 1, 1) := by decide +kernel
theorem dX3_deliver_127 : decode cX3_deliver 127 = .ok (.iand, 1) := by decide +kernel
theorem dX3_deliver_128 : decode cX3_deliver 128 = .ok (.iconst 1, 1) := by decide +kernel
theorem dX3_deliver_129 : decode cX3_deliver 129 = .ok (.if_icmp .ne 49, 3) := by decide +kernel
theorem dX3_deliver_132 : decode cX3_deliver 132 = .ok (.aload_n 0, 1) := by decide +kernel
theorem dX3_deliver_133 : decode cX3_deliver 133 = .ok (.getfield 25, 3) := by decide +kernel
theorem dX3_deliver_136 : decode cX3_deliver 136 = .ok (.iload 6, 2) := by decide +kernel
theorem dX3_deliver_138 : decode cX3_deliver 138 = .ok (.aload_n 0, 1) := by decide +kernel
theorem dX3_deliver_139 : decode cX3_deliver 139 = .ok (.getfield 32, 3) := by decide +kernel
theorem dX3_deliver_142 : decode cX3_deliver 142 = .ok (.iload 4, 2) := by decide +kernel
theorem dX3_deliver_144 : decode cX3_deliver 144 = .ok (.aload_n 0, 1) := by decide +kernel
theorem dX3_deliver_145 : decode cX3_deliver 145 = .ok (.getfield 28, 3) := by decide +kernel
theorem dX3_deliver_148 : decode cX3_deliver 148 = .ok (.getfield 169, 3) := by decide +kernel
theorem dX3_deliver_151 : decode cX3_deliver 151 = .ok (.iload 6, 2) := by decide +kernel
theorem dX3_deliver_153 : decode cX3_deliver 153 = .ok (.iaload, 1) := by decide +kernel
theorem dX3_deliver_154 : decode cX3_deliver 154 = .ok (.invokevirtual 172, 3) := by decide +kernel
theorem dX3_deliver_157 : decode cX3_deliver 157 = .ok (.aload_n 0, 1) := by decide +kernel
theorem dX3_deliver_158 : decode cX3_deliver 158 = .ok (.getfield 32, 3) := by decide +kernel
theorem dX3_deliver_161 : decode cX3_deliver 161 = .ok (.getfield 64, 3) := by decide +kernel
theorem dX3_deliver_164 : decode cX3_deliver 164 = .ok (.iconst 4, 1) := by decide +kernel
theorem dX3_deliver_165 : decode cX3_deliver 165 = .ok (.iaload, 1) := by decide +kernel
theorem dX3_deliver_166 : decode cX3_deliver 166 = .ok (.iconst 1, 1) := by decide +kernel
theorem dX3_deliver_167 : decode cX3_deliver 167 = .ok (.if_icmp .ne 7, 3) := by decide +kernel
theorem dX3_deliver_170 : decode cX3_deliver 170 = .ok (.iconst 1, 1) := by decide +kernel
theorem dX3_deliver_171 : decode cX3_deliver 171 = .ok (.goto 4, 3) := by decide +kernel
theorem dX3_deliver_174 : decode cX3_deliver 174 = .ok (.iconst 0, 1) := by decide +kernel
theorem dX3_deliver_175 : decode cX3_deliver 175 = .ok (.invokevirtual 175, 3) := by decide +kernel
theorem dX3_deliver_178 : decode cX3_deliver 178 = .ok (.iinc 6 1, 3) := by decide +kernel
theorem dX3_deliver_181 : decode cX3_deliver 181 = .ok (.goto (-88), 3) := by decide +kernel
theorem dX3_deliver_184 : decode cX3_deliver 184 = .ok (.return_, 1) := by decide +kernel
set_option maxRecDepth 20000 in
theorem ggX3_keepNext_X5_freeSlot : GoodIn wsX3_keepNext wsX5_freeSlot := goodIn_r _ [13, 14, 15, 16, 17, 18, 19, 20, 21, 22, 23, 24, 25, 26, 12, 27, 28, 29, 30, 31, 32, 33, 94, 95, 96, 97, 98, 108, 109, 110] (by decide +kernel) (by decide +kernel)
set_option maxRecDepth 20000 in
theorem gX3_keepNext_X5_freeSlot : GoodIn wsX3_keepNext (wsV RX3 179 RX5 yX5_freeSlot wsX5_freeSlot) := goodIn_app (goodIn_of _ (by decide +kernel)) ggX3_keepNext_X5_freeSlot
set_option maxRecDepth 20000 in
theorem ggX3_keepNext_X5_add : GoodIn wsX3_keepNext wsX5_add := goodIn_r _ [37, 38, 28, 29, 30, 31, 33, 32, 39, 40, 41, 42, 14, 94, 95, 96, 97, 98, 108, 109, 110] (by decide +kernel) (by decide +kernel)
set_option maxRecDepth 20000 in
theorem gX3_keepNext_X5_add : GoodIn wsX3_keepNext (wsV RX3 183 RX5 yX5_add wsX5_add) := goodIn_app (goodIn_of _ (by decide +kernel)) ggX3_keepNext_X5_add
set_option maxRecDepth 20000 in
theorem ggX3_keepNext_X4_pending : GoodIn wsX3_keepNext wsX4_pending := goodIn_r _ [46, 20, 47, 48, 49, 50, 51, 52, 53, 54, 55, 56, 57, 18, 58, 21, 108, 109, 110] (by decide +kernel) (by decide +kernel)
set_option maxRecDepth 20000 in
theorem gX3_keepNext_X4_pending : GoodIn wsX3_keepNext (wsV RX3 187 RX4 yX4_pending wsX4_pending) := goodIn_app (goodIn_of _ (by decide +kernel)) ggX3_keepNext_X4_pending
set_option maxRecDepth 20000 in
theorem ggX3_keepNext_X4_allValues : GoodIn wsX3_keepNext wsX4_allValues := goodIn_r _ [62, 20, 63, 108, 109, 110] (by decide +kernel) (by decide +kernel)
set_option maxRecDepth 20000 in
theorem gX3_keepNext_X4_allValues : GoodIn wsX3_keepNext (wsV RX3 190 RX4 yX4_allValues wsX4_allValues) := goodIn_app (goodIn_of _ (by decide +kernel)) ggX3_keepNext_X4_allValues
set_option maxRecDepth 20000 in
theorem ggX3_keepNext_X0_note : GoodIn wsX3_keepNext wsX0_note := goodIn_r _ [68, 69, 70, 71, 72, 73, 74, 75, 76, 77, 78, 79, 80, 67, 81, 82, 83, 84, 111, 112, 113, 114, 115, 116, 117, 118, 119, 120] (by decide +kernel) (by decide +kernel)
set_option maxRecDepth 20000 in
theorem gX3_keepNext_X0_note : GoodIn wsX3_keepNext (wsV RX3 193 RX0 yX0_note wsX0_note) := goodIn_app (goodIn_of _ (by decide +kernel)) ggX3_keepNext_X0_note
theorem dX3_keepNext_0 : decode cX3_keepNext 0 = .ok (.aload_n 0, 1) := by decide +kernel
theorem dX3_keepNext_1 : decode cX3_keepNext 1 = .ok (.getfield 12, 3) := by decide +kernel
theorem dX3_keepNext_4 : decode cX3_keepNext 4 = .ok (.aload_n 0, 1) := by decide +kernel
theorem dX3_keepNext_5 : decode cX3_keepNext 5 = .ok (.getfield 25, 3) := by decide +kernel
theorem dX3_keepNext_8 : decode cX3_keepNext 8 = .ok (.invokevirtual 179, 3) := by decide +kernel
theorem dX3_keepNext_11 : decode cX3_keepNext 11 = .ok (.istore_n 3, 1) := by decide +kernel
theorem dX3_keepNext_12 : decode cX3_keepNext 12 = .ok (.iload_n 3, 1) := by decide +kernel
theorem dX3_keepNext_13 : decode cX3_keepNext 13 = .ok (.iconst (-1), 1) := by decide +kernel
theorem dX3_keepNext_14 : decode cX3_keepNext 14 = .ok (.if_icmp .ne 4, 3) := by decide +kernel
theorem dX3_keepNext_17 : decode cX3_keepNext 17 = .ok (.return_, 1) := by decide +kernel
theorem dX3_keepNext_18 : decode cX3_keepNext 18 = .ok (.aload_n 0, 1) := by decide +kernel
theorem dX3_keepNext_19 : decode cX3_keepNext 19 = .ok (.getfield 12, 3) := by decide +kernel
theorem dX3_keepNext_22 : decode cX3_keepNext 22 = .ok (.getfield 78, 3) := by decide +kernel
theorem dX3_keepNext_25 : decode cX3_keepNext 25 = .ok (.aload_n 0, 1) := by decide +kernel
theorem dX3_keepNext_26 : decode cX3_keepNext 26 = .ok (.getfield 40, 3) := by decide +kernel
theorem dX3_keepNext_29 : decode cX3_keepNext 29 = .ok (.if_icmp .lt 9, 3) := by decide +kernel
theorem dX3_keepNext_32 : decode cX3_keepNext 32 = .ok (.aload_n 0, 1) := by decide +kernel
theorem dX3_keepNext_33 : decode cX3_keepNext 33 = .ok (.iconst 1, 1) := by decide +kernel
theorem dX3_keepNext_34 : decode cX3_keepNext 34 = .ok (.putfield 47, 3) := by decide +kernel
theorem dX3_keepNext_37 : decode cX3_keepNext 37 = .ok (.return_, 1) := by decide +kernel
theorem dX3_keepNext_38 : decode cX3_keepNext 38 = .ok (.aload_n 0, 1) := by decide +kernel
theorem dX3_keepNext_39 : decode cX3_keepNext 39 = .ok (.getfield 12, 3) := by decide +kernel
theorem dX3_keepNext_42 : decode cX3_keepNext 42 = .ok (.aload_n 0, 1) := by decide +kernel
theorem dX3_keepNext_43 : decode cX3_keepNext 43 = .ok (.getfield 25, 3) := by decide +kernel
theorem dX3_keepNext_46 : decode cX3_keepNext 46 = .ok (.iload_n 3, 1) := by decide +kernel
theorem dX3_keepNext_47 : decode cX3_keepNext 47 = .ok (.invokevirtual 183, 3) := by decide +kernel
theorem dX3_keepNext_50 : decode cX3_keepNext 50 = .ok (.aload_n 0, 1) := by decide +kernel
theorem dX3_keepNext_51 : decode cX3_keepNext 51 = .ok (.getfield 36, 3) := by decide +kernel
theorem dX3_keepNext_54 : decode cX3_keepNext 54 = .ok (.iload_n 1, 1) := by decide +kernel
theorem dX3_keepNext_55 : decode cX3_keepNext 55 = .ok (.iload_n 2, 1) := by decide +kernel
theorem dX3_keepNext_56 : decode cX3_keepNext 56 = .ok (.aload_n 0, 1) := by decide +kernel
theorem dX3_keepNext_57 : decode cX3_keepNext 57 = .ok (.getfield 25, 3) := by decide +kernel
theorem dX3_keepNext_60 : decode cX3_keepNext 60 = .ok (.aload_n 0, 1) := by decide +kernel
theorem dX3_keepNext_61 : decode cX3_keepNext 61 = .ok (.getfield 28, 3) := by decide +kernel
theorem dX3_keepNext_64 : decode cX3_keepNext 64 = .ok (.getfield 95, 3) := by decide +kernel
theorem dX3_keepNext_67 : decode cX3_keepNext 67 = .ok (.invokevirtual 187, 3) := by decide +kernel
theorem dX3_keepNext_70 : decode cX3_keepNext 70 = .ok (.aload_n 0, 1) := by decide +kernel
theorem dX3_keepNext_71 : decode cX3_keepNext 71 = .ok (.getfield 25, 3) := by decide +kernel
theorem dX3_keepNext_74 : decode cX3_keepNext 74 = .ok (.invokevirtual 190, 3) := by decide +kernel
theorem dX3_keepNext_77 : decode cX3_keepNext 77 = .ok (.invokevirtual 193, 3) := by decide +kernel
theorem dX3_keepNext_80 : decode cX3_keepNext 80 = .ok (.return_, 1) := by decide +kernel
theorem dX4_init_0 : decode cX4_init 0 = .ok (.aload_n 0, 1) := by decide +kernel
theorem dX4_init_1 : decode cX4_init 1 = .ok (.invokespecial 5, 3) := by decide +kernel
theorem dX4_init_4 : decode cX4_init 4 = .ok (.aload_n 0, 1) := by decide +kernel
theorem dX4_init_5 : decode cX4_init 5 = .ok (.bipush 8, 2) := by decide +kernel
theorem dX4_init_7 : decode cX4_init 7 = .ok (.newarray .long, 2) := by decide +kernel
theorem dX4_init_9 : decode cX4_init 9 = .ok (.putfield 11, 3) := by decide +kernel
theorem dX4_init_12 : decode cX4_init 12 = .ok (.return_, 1) := by decide +kernel
set_option maxRecDepth 20000 in
theorem ggX4_begin_J7_fill_d0a16 : GoodIn wsX4_begin wsJ7_fill_d0a16 := goodIn_r _ [9] (by decide +kernel) (by decide +kernel)
set_option maxRecDepth 20000 in
theorem gX4_begin_J7_fill_d0a16 : GoodIn wsX4_begin (va_wsS RX4 32 yJ7_fill_d0a16 wsJ7_fill_d0a16) := goodIn_app (goodIn_of _ (by decide +kernel)) ggX4_begin_J7_fill_d0a16
theorem dX4_begin_0 : decode cX4_begin 0 = .ok (.aload_n 0, 1) := by decide +kernel
theorem dX4_begin_1 : decode cX4_begin 1 = .ok (.iload_n 2, 1) := by decide +kernel
theorem dX4_begin_2 : decode cX4_begin 2 = .ok (.i2l, 1) := by decide +kernel
theorem dX4_begin_3 : decode cX4_begin 3 = .ok (.bipush 49, 2) := by decide +kernel
theorem dX4_begin_5 : decode cX4_begin 5 = .ok (.lshl, 1) := by decide +kernel
theorem dX4_begin_6 : decode cX4_begin 6 = .ok (.putfield 15, 3) := by decide +kernel
theorem dX4_begin_9 : decode cX4_begin 9 = .ok (.iconst 0, 1) := by decide +kernel
theorem dX4_begin_10 : decode cX4_begin 10 = .ok (.istore_n 3, 1) := by decide +kernel
theorem dX4_begin_11 : decode cX4_begin 11 = .ok (.iload_n 3, 1) := by decide +kernel
theorem dX4_begin_12 : decode cX4_begin 12 = .ok (.aload_n 1, 1) := by decide +kernel
theorem dX4_begin_13 : decode cX4_begin 13 = .ok (.getfield 19, 3) := by decide +kernel
theorem dX4_begin_16 : decode cX4_begin 16 = .ok (.if_icmp .ge 29, 3) := by decide +kernel
theorem dX4_begin_19 : decode cX4_begin 19 = .ok (.aload_n 0, 1) := by decide +kernel
theorem dX4_begin_20 : decode cX4_begin 20 = .ok (.dup, 1) := by decide +kernel
theorem dX4_begin_21 : decode cX4_begin 21 = .ok (.getfield 15, 3) := by decide +kernel
theorem dX4_begin_24 : decode cX4_begin 24 = .ok (.aload_n 1, 1) := by decide +kernel
theorem dX4_begin_25 : decode cX4_begin 25 = .ok (.getfield 25, 3) := by decide +kernel
theorem dX4_begin_28 : decode cX4_begin 28 = .ok (.iload_n 3, 1) := by decide +kernel
theorem dX4_begin_29 : decode cX4_begin 29 = .ok (.iaload, 1) := by decide +kernel
theorem dX4_begin_30 : decode cX4_begin 30 = .ok (.i2l, 1) := by decide +kernel
theorem dX4_begin_31 : decode cX4_begin 31 = .ok (.iconst 4, 1) := by decide +kernel
theorem dX4_begin_32 : decode cX4_begin 32 = .ok (.iload_n 3, 1) := by decide +kernel
theorem dX4_begin_33 : decode cX4_begin 33 = .ok (.imul, 1) := by decide +kernel
theorem dX4_begin_34 : decode cX4_begin 34 = .ok (.lshl, 1) := by decide +kernel
theorem dX4_begin_35 : decode cX4_begin 35 = .ok (.lor, 1) := by decide +kernel
theorem dX4_begin_36 : decode cX4_begin 36 = .ok (.putfield 15, 3) := by decide +kernel
theorem dX4_begin_39 : decode cX4_begin 39 = .ok (.iinc 3 1, 3) := by decide +kernel
theorem dX4_begin_42 : decode cX4_begin 42 = .ok (.goto (-31), 3) := by decide +kernel
theorem dX4_begin_45 : decode cX4_begin 45 = .ok (.aload_n 0, 1) := by decide +kernel
theorem dX4_begin_46 : decode cX4_begin 46 = .ok (.lconst 0, 1) := by decide +kernel
theorem dX4_begin_47 : decode cX4_begin 47 = .ok (.putfield 29, 3) := by decide +kernel
theorem dX4_begin_50 : decode cX4_begin 50 = .ok (.aload_n 0, 1) := by decide +kernel
theorem dX4_begin_51 : decode cX4_begin 51 = .ok (.getfield 11, 3) := by decide +kernel
theorem dX4_begin_54 : decode cX4_begin 54 = .ok (.lconst 0, 1) := by decide +kernel
theorem dX4_begin_55 : decode cX4_begin 55 = .ok (.invokestatic 32, 3) := by decide +kernel
theorem dX4_begin_58 : decode cX4_begin 58 = .ok (.return_, 1) := by decide +kernel
theorem dX4_copy_0 : decode cX4_copy 0 = .ok (.aload_n 0, 1) := by decide +kernel
theorem dX4_copy_1 : decode cX4_copy 1 = .ok (.aload_n 1, 1) := by decide +kernel
theorem dX4_copy_2 : decode cX4_copy 2 = .ok (.getfield 15, 3) := by decide +kernel
theorem dX4_copy_5 : decode cX4_copy 5 = .ok (.putfield 15, 3) := by decide +kernel
theorem dX4_copy_8 : decode cX4_copy 8 = .ok (.aload_n 0, 1) := by decide +kernel
theorem dX4_copy_9 : decode cX4_copy 9 = .ok (.aload_n 1, 1) := by decide +kernel
theorem dX4_copy_10 : decode cX4_copy 10 = .ok (.getfield 29, 3) := by decide +kernel
theorem dX4_copy_13 : decode cX4_copy 13 = .ok (.putfield 29, 3) := by decide +kernel
theorem dX4_copy_16 : decode cX4_copy 16 = .ok (.aload_n 1, 1) := by decide +kernel
theorem dX4_copy_17 : decode cX4_copy 17 = .ok (.getfield 11, 3) := by decide +kernel
theorem dX4_copy_20 : decode cX4_copy 20 = .ok (.iconst 0, 1) := by decide +kernel
theorem dX4_copy_21 : decode cX4_copy 21 = .ok (.aload_n 0, 1) := by decide +kernel
theorem dX4_copy_22 : decode cX4_copy 22 = .ok (.getfield 11, 3) := by decide +kernel
theorem dX4_copy_25 : decode cX4_copy 25 = .ok (.iconst 0, 1) := by decide +kernel
theorem dX4_copy_26 : decode cX4_copy 26 = .ok (.bipush 8, 2) := by decide +kernel
theorem dX4_copy_28 : decode cX4_copy 28 = .ok (.invokestatic 38, 3) := by decide +kernel
theorem dX4_copy_31 : decode cX4_copy 31 = .ok (.return_, 1) := by decide +kernel
theorem dX4_allValues_0 : decode cX4_allValues 0 = .ok (.aload_n 0, 1) := by decide +kernel
theorem dX4_allValues_1 : decode cX4_allValues 1 = .ok (.getfield 15, 3) := by decide +kernel
theorem dX4_allValues_4 : decode cX4_allValues 4 = .ok (.l2i, 1) := by decide +kernel
theorem dX4_allValues_5 : decode cX4_allValues 5 = .ok (.ldc 44, 2) := by decide +kernel
theorem dX4_allValues_7 : decode cX4_allValues 7 = .ok (.iand, 1) := by decide +kernel
theorem dX4_allValues_8 : decode cX4_allValues 8 = .ok (.ireturn, 1) := by decide +kernel
theorem dX4_valueOf_0 : decode cX4_valueOf 0 = .ok (.aload_n 0, 1) := by decide +kernel
theorem dX4_valueOf_1 : decode cX4_valueOf 1 = .ok (.getfield 15, 3) := by decide +kernel
theorem dX4_valueOf_4 : decode cX4_valueOf 4 = .ok (.iconst 4, 1) := by decide +kernel
theorem dX4_valueOf_5 : decode cX4_valueOf 5 = .ok (.iload_n 1, 1) := by decide +kernel
theorem dX4_valueOf_6 : decode cX4_valueOf 6 = .ok (.imul, 1) := by decide +kernel
theorem dX4_valueOf_7 : decode cX4_valueOf 7 = .ok (.lushr, 1) := by decide +kernel
theorem dX4_valueOf_8 : decode cX4_valueOf 8 = .ok (.l2i, 1) := by decide +kernel
theorem dX4_valueOf_9 : decode cX4_valueOf 9 = .ok (.bipush 15, 2) := by decide +kernel
theorem dX4_valueOf_11 : decode cX4_valueOf 11 = .ok (.iand, 1) := by decide +kernel
theorem dX4_valueOf_12 : decode cX4_valueOf 12 = .ok (.ireturn, 1) := by decide +kernel
set_option maxRecDepth 20000 in
theorem ggX4_change_X4_valueOf : GoodIn wsX4_change wsX4_valueOf := goodIn_r _ [6, 1, 7, 8, 9] (by decide +kernel) (by decide +kernel)
set_option maxRecDepth 20000 in
theorem gX4_change_X4_valueOf : GoodIn wsX4_change (wsV RX4 45 RX4 yX4_valueOf wsX4_valueOf) := goodIn_app (goodIn_of _ (by decide +kernel)) ggX4_change_X4_valueOf
theorem dX4_change_0 : decode cX4_change 0 = .ok (.aload_n 0, 1) := by decide +kernel
theorem dX4_change_1 : decode cX4_change 1 = .ok (.dup, 1) := by decide +kernel
theorem dX4_change_2 : decode cX4_change 2 = .ok (.getfield 15, 3) := by decide +kernel
theorem dX4_change_5 : decode cX4_change 5 = .ok (.aload_n 0, 1) := by decide +kernel
theorem dX4_change_6 : decode cX4_change 6 = .ok (.iload_n 1, 1) := by decide +kernel
theorem dX4_change_7 : decode cX4_change 7 = .ok (.invokevirtual 45, 3) := by decide +kernel
theorem dX4_change_10 : decode cX4_change 10 = .ok (.iload_n 2, 1) := by decide +kernel
theorem dX4_change_11 : decode cX4_change 11 = .ok (.ixor, 1) := by decide +kernel
theorem dX4_change_12 : decode cX4_change 12 = .ok (.i2l, 1) := by decide +kernel
theorem dX4_change_13 : decode cX4_change 13 = .ok (.iconst 4, 1) := by decide +kernel
theorem dX4_change_14 : decode cX4_change 14 = .ok (.iload_n 1, 1) := by decide +kernel
theorem dX4_change_15 : decode cX4_change 15 = .ok (.imul, 1) := by decide +kernel
theorem dX4_change_16 : decode cX4_change 16 = .ok (.lshl, 1) := by decide +kernel
theorem dX4_change_17 : decode cX4_change 17 = .ok (.lxor, 1) := by decide +kernel
theorem dX4_change_18 : decode cX4_change 18 = .ok (.putfield 15, 3) := by decide +kernel
theorem dX4_change_21 : decode cX4_change 21 = .ok (.return_, 1) := by decide +kernel
theorem dX4_sentBy_0 : decode cX4_sentBy 0 = .ok (.aload_n 0, 1) := by decide +kernel
theorem dX4_sentBy_1 : decode cX4_sentBy 1 = .ok (.getfield 15, 3) := by decide +kernel
theorem dX4_sentBy_4 : decode cX4_sentBy 4 = .ok (.bipush 20, 2) := by decide +kernel
theorem dX4_sentBy_6 : decode cX4_sentBy 6 = .ok (.iconst 5, 1) := by decide +kernel
theorem dX4_sentBy_7 : decode cX4_sentBy 7 = .ok (.iload_n 1, 1) := by decide +kernel
theorem dX4_sentBy_8 : decode cX4_sentBy 8 = .ok (.imul, 1) := by decide +kernel
theorem dX4_sentBy_9 : decode cX4_sentBy 9 = .ok (.iadd, 1) := by decide +kernel
theorem dX4_sentBy_10 : decode cX4_sentBy 10 = .ok (.lushr, 1) := by decide +kernel
theorem dX4_sentBy_11 : decode cX4_sentBy 11 = .ok (.l2i, 1) := by decide +kernel
theorem dX4_sentBy_12 : decode cX4_sentBy 12 = .ok (.bipush 31, 2) := by decide +kernel
theorem dX4_sentBy_14 : decode cX4_sentBy 14 = .ok (.iand, 1) := by decide +kernel
theorem dX4_sentBy_15 : decode cX4_sentBy 15 = .ok (.ireturn, 1) := by decide +kernel
theorem dX4_countSend_0 : decode cX4_countSend 0 = .ok (.aload_n 0, 1) := by decide +kernel
theorem dX4_countSend_1 : decode cX4_countSend 1 = .ok (.dup, 1) := by decide +kernel
theorem dX4_countSend_2 : decode cX4_countSend 2 = .ok (.getfield 15, 3) := by decide +kernel
theorem dX4_countSend_5 : decode cX4_countSend 5 = .ok (.lconst 1, 1) := by decide +kernel
theorem dX4_countSend_6 : decode cX4_countSend 6 = .ok (.bipush 20, 2) := by decide +kernel
theorem dX4_countSend_8 : decode cX4_countSend 8 = .ok (.iconst 5, 1) := by decide +kernel
theorem dX4_countSend_9 : decode cX4_countSend 9 = .ok (.iload_n 1, 1) := by decide +kernel
theorem dX4_countSend_10 : decode cX4_countSend 10 = .ok (.imul, 1) := by decide +kernel
theorem dX4_countSend_11 : decode cX4_countSend 11 = .ok (.iadd, 1) := by decide +kernel
theorem dX4_countSend_12 : decode cX4_countSend 12 = .ok (.lshl, 1) := by decide +kernel
theorem dX4_countSend_13 : decode cX4_countSend 13 = .ok (.ladd, 1) := by decide +kernel
theorem dX4_countSend_14 : decode cX4_countSend 14 = .ok (.putfield 15, 3) := by decide +kernel
theorem dX4_countSend_17 : decode cX4_countSend 17 = .ok (.return_, 1) := by decide +kernel
theorem dX4_hasCome_0 : decode cX4_hasCome 0 = .ok (.aload_n 0, 1) := by decide +kernel
theorem dX4_hasCome_1 : decode cX4_hasCome 1 = .ok (.getfield 15, 3) := by decide +kernel
theorem dX4_hasCome_4 : decode cX4_hasCome 4 = .ok (.bipush 45, 2) := by decide +kernel
theorem dX4_hasCome_6 : decode cX4_hasCome 6 = .ok (.iload_n 1, 1) := by decide +kernel
theorem dX4_hasCome_7 : decode cX4_hasCome 7 = .ok (.iadd, 1) := by decide +kernel
theorem dX4_hasCome_8 : decode cX4_hasCome 8 = .ok (.lushr, 1) := by decide +kernel
theorem dX4_hasCome_9 : decode cX4_hasCome 9 = .ok (.lconst 1, 1) := by decide +kernel
theorem dX4_hasCome_10 : decode cX4_hasCome 10 = .ok (.land, 1) := by decide +kernel
theorem dX4_hasCome_11 : decode cX4_hasCome 11 = .ok (.lconst 0, 1) := by decide +kernel
theorem dX4_hasCome_12 : decode cX4_hasCome 12 = .ok (.lcmp, 1) := by decide +kernel
theorem dX4_hasCome_13 : decode cX4_hasCome 13 = .ok (.ifCond .eq 7, 3) := by decide +kernel
theorem dX4_hasCome_16 : decode cX4_hasCome 16 = .ok (.iconst 1, 1) := by decide +kernel
theorem dX4_hasCome_17 : decode cX4_hasCome 17 = .ok (.goto 4, 3) := by decide +kernel
theorem dX4_hasCome_20 : decode cX4_hasCome 20 = .ok (.iconst 0, 1) := by decide +kernel
theorem dX4_hasCome_21 : decode cX4_hasCome 21 = .ok (.ireturn, 1) := by decide +kernel
theorem dX4_markCome_0 : decode cX4_markCome 0 = .ok (.aload_n 0, 1) := by decide +kernel
theorem dX4_markCome_1 : decode cX4_markCome 1 = .ok (.dup, 1) := by decide +kernel
theorem dX4_markCome_2 : decode cX4_markCome 2 = .ok (.getfield 15, 3) := by decide +kernel
theorem dX4_markCome_5 : decode cX4_markCome 5 = .ok (.lconst 1, 1) := by decide +kernel
theorem dX4_markCome_6 : decode cX4_markCome 6 = .ok (.bipush 45, 2) := by decide +kernel
theorem dX4_markCome_8 : decode cX4_markCome 8 = .ok (.iload_n 1, 1) := by decide +kernel
theorem dX4_markCome_9 : decode cX4_markCome 9 = .ok (.iadd, 1) := by decide +kernel
theorem dX4_markCome_10 : decode cX4_markCome 10 = .ok (.lshl, 1) := by decide +kernel
theorem dX4_markCome_11 : decode cX4_markCome 11 = .ok (.lor, 1) := by decide +kernel
theorem dX4_markCome_12 : decode cX4_markCome 12 = .ok (.putfield 15, 3) := by decide +kernel
theorem dX4_markCome_15 : decode cX4_markCome 15 = .ok (.return_, 1) := by decide +kernel
theorem dX4_doublesLeft_0 : decode cX4_doublesLeft 0 = .ok (.aload_n 0, 1) := by decide +kernel
theorem dX4_doublesLeft_1 : decode cX4_doublesLeft 1 = .ok (.getfield 15, 3) := by decide +kernel
theorem dX4_doublesLeft_4 : decode cX4_doublesLeft 4 = .ok (.bipush 49, 2) := by decide +kernel
theorem dX4_doublesLeft_6 : decode cX4_doublesLeft 6 = .ok (.lushr, 1) := by decide +kernel
theorem dX4_doublesLeft_7 : decode cX4_doublesLeft 7 = .ok (.l2i, 1) := by decide +kernel
theorem dX4_doublesLeft_8 : decode cX4_doublesLeft 8 = .ok (.iconst 3, 1) := by decide +kernel
theorem dX4_doublesLeft_9 : decode cX4_doublesLeft 9 = .ok (.iand, 1) := by decide +kernel
theorem dX4_doublesLeft_10 : decode cX4_doublesLeft 10 = .ok (.ireturn, 1) := by decide +kernel
theorem dX4_useDouble_0 : decode cX4_useDouble 0 = .ok (.aload_n 0, 1) := by decide +kernel
theorem dX4_useDouble_1 : decode cX4_useDouble 1 = .ok (.dup, 1) := by decide +kernel
theorem dX4_useDouble_2 : decode cX4_useDouble 2 = .ok (.getfield 15, 3) := by decide +kernel
theorem dX4_useDouble_5 : decode cX4_useDouble 5 = .ok (.ldc2_w 49, 3) := by decide +kernel
theorem dX4_useDouble_8 : decode cX4_useDouble 8 = .ok (.lsub, 1) := by decide +kernel
theorem dX4_useDouble_9 : decode cX4_useDouble 9 = .ok (.putfield 15, 3) := by decide +kernel
theorem dX4_useDouble_12 : decode cX4_useDouble 12 = .ok (.return_, 1) := by decide +kernel
theorem dX4_underWay_0 : decode cX4_underWay 0 = .ok (.aload_n 0, 1) := by decide +kernel
theorem dX4_underWay_1 : decode cX4_underWay 1 = .ok (.getfield 29, 3) := by decide +kernel
theorem dX4_underWay_4 : decode cX4_underWay 4 = .ok (.iconst 5, 1) := by decide +kernel
theorem dX4_underWay_5 : decode cX4_underWay 5 = .ok (.iload_n 1, 1) := by decide +kernel
theorem dX4_underWay_6 : decode cX4_underWay 6 = .ok (.imul, 1) := by decide +kernel
theorem dX4_underWay_7 : decode cX4_underWay 7 = .ok (.lushr, 1) := by decide +kernel
theorem dX4_underWay_8 : decode cX4_underWay 8 = .ok (.l2i, 1) := by decide +kernel
theorem dX4_underWay_9 : decode cX4_underWay 9 = .ok (.bipush 31, 2) := by decide +kernel
theorem dX4_underWay_11 : decode cX4_underWay 11 = .ok (.iand, 1) := by decide +kernel
theorem dX4_underWay_12 : decode cX4_underWay 12 = .ok (.ireturn, 1) := by decide +kernel
theorem dX4_messageAt_0 : decode cX4_messageAt 0 = .ok (.aload_n 0, 1) := by decide +kernel
theorem dX4_messageAt_1 : decode cX4_messageAt 1 = .ok (.getfield 11, 3) := by decide +kernel
theorem dX4_messageAt_4 : decode cX4_messageAt 4 = .ok (.iload_n 1, 1) := by decide +kernel
theorem dX4_messageAt_5 : decode cX4_messageAt 5 = .ok (.laload, 1) := by decide +kernel
theorem dX4_messageAt_6 : decode cX4_messageAt 6 = .ok (.iconst 4, 1) := by decide +kernel
theorem dX4_messageAt_7 : decode cX4_messageAt 7 = .ok (.iload_n 2, 1) := by decide +kernel
theorem dX4_messageAt_8 : decode cX4_messageAt 8 = .ok (.imul, 1) := by decide +kernel
theorem dX4_messageAt_9 : decode cX4_messageAt 9 = .ok (.lushr, 1) := by decide +kernel
theorem dX4_messageAt_10 : decode cX4_messageAt 10 = .ok (.l2i, 1) := by decide +kernel
theorem dX4_messageAt_11 : decode cX4_messageAt 11 = .ok (.bipush 15, 2) := by decide +kernel
theorem dX4_messageAt_13 : decode cX4_messageAt 13 = .ok (.iand, 1) := by decide +kernel
theorem dX4_messageAt_14 : decode cX4_messageAt 14 = .ok (.ireturn, 1) := by decide +kernel
theorem dX4_take_0 : decode cX4_take 0 = .ok (.iconst 4, 1) := by decide +kernel
theorem dX4_take_1 : decode cX4_take 1 = .ok (.iload_n 2, 1) := by decide +kernel
theorem dX4_take_2 : decode cX4_take 2 = .ok (.imul, 1) := by decide +kernel
theorem dX4_take_3 : decode cX4_take 3 = .ok (.istore_n 3, 1) := by decide +kernel
theorem dX4_take_4 : decode cX4_take 4 = .ok (.aload_n 0, 1) := by decide +kernel
theorem dX4_take_5 : decode cX4_take 5 = .ok (.getfield 11, 3) := by decide +kernel
theorem dX4_take_8 : decode cX4_take 8 = .ok (.iload_n 1, 1) := by decide +kernel
theorem dX4_take_9 : decode cX4_take 9 = .ok (.laload, 1) := by decide +kernel
theorem dX4_take_10 : decode cX4_take 10 = .ok (.lstore 4, 2) := by decide +kernel
theorem dX4_take_12 : decode cX4_take 12 = .ok (.lload 4, 2) := by decide +kernel
theorem dX4_take_14 : decode cX4_take 14 = .ok (.lconst 1, 1) := by decide +kernel
theorem dX4_take_15 : decode cX4_take 15 = .ok (.iload_n 3, 1) := by decide +kernel
theorem dX4_take_16 : decode cX4_take 16 = .ok (.lshl, 1) := by decide +kernel
theorem dX4_take_17 : decode cX4_take 17 = .ok (.lconst 1, 1) := by decide +kernel
theorem dX4_take_18 : decode cX4_take 18 = .ok (.lsub, 1) := by decide +kernel
theorem dX4_take_19 : decode cX4_take 19 = .ok (.land, 1) := by decide +kernel
theorem dX4_take_20 : decode cX4_take 20 = .ok (.lstore 6, 2) := by decide +kernel
theorem dX4_take_22 : decode cX4_take 22 = .ok (.lload 4, 2) := by decide +kernel
theorem dX4_take_24 : decode cX4_take 24 = .ok (.iload_n 3, 1) := by decide +kernel
theorem dX4_take_25 : decode cX4_take 25 = .ok (.lushr, 1) := by decide +kernel
theorem dX4_take_26 : decode cX4_take 26 = .ok (.iconst 4, 1) := by decide +kernel
theorem dX4_take_27 : decode cX4_take 27 = .ok (.lushr, 1) := by decide +kernel
theorem dX4_take_28 : decode cX4_take 28 = .ok (.iload_n 3, 1) := by decide +kernel
theorem dX4_take_29 : decode cX4_take 29 = .ok (.lshl, 1) := by decide +kernel
theorem dX4_take_30 : decode cX4_take 30 = .ok (.lstore 8, 2) := by decide +kernel
theorem dX4_take_32 : decode cX4_take 32 = .ok (.aload_n 0, 1) := by decide +kernel
theorem dX4_take_33 : decode cX4_take 33 = .ok (.getfield 11, 3) := by decide +kernel
theorem dX4_take_36 : decode cX4_take 36 = .ok (.iload_n 1, 1) := by decide +kernel
theorem dX4_take_37 : decode cX4_take 37 = .ok (.lload 6, 2) := by decide +kernel
theorem dX4_take_39 : decode cX4_take 39 = .ok (.lload 8, 2) := by decide +kernel
theorem dX4_take_41 : decode cX4_take 41 = .ok (.lor, 1) := by decide +kernel
theorem dX4_take_42 : decode cX4_take 42 = .ok (.lastore, 1) := by decide +kernel
theorem dX4_take_43 : decode cX4_take 43 = .ok (.aload_n 0, 1) := by decide +kernel
theorem dX4_take_44 : decode cX4_take 44 = .ok (.dup, 1) := by decide +kernel
theorem dX4_take_45 : decode cX4_take 45 = .ok (.getfield 29, 3) := by decide +kernel
theorem dX4_take_48 : decode cX4_take 48 = .ok (.lconst 1, 1) := by decide +kernel
theorem dX4_take_49 : decode cX4_take 49 = .ok (.iconst 5, 1) := by decide +kernel
theorem dX4_take_50 : decode cX4_take 50 = .ok (.iload_n 1, 1) := by decide +kernel
theorem dX4_take_51 : decode cX4_take 51 = .ok (.imul, 1) := by decide +kernel
theorem dX4_take_52 : decode cX4_take 52 = .ok (.lshl, 1) := by decide +kernel
theorem dX4_take_53 : decode cX4_take 53 = .ok (.lsub, 1) := by decide +kernel
theorem dX4_take_54 : decode cX4_take 54 = .ok (.putfield 29, 3) := by decide +kernel
theorem dX4_take_57 : decode cX4_take 57 = .ok (.return_, 1) := by decide +kernel
set_option maxRecDepth 20000 in
theorem ggX4_put_X4_underWay : GoodIn wsX4_put wsX4_underWay := goodIn_r _ [7, 2, 12, 13, 14] (by decide +kernel) (by decide +kernel)
set_option maxRecDepth 20000 in
theorem gX4_put_X4_underWay : GoodIn wsX4_put (wsV RX4 51 RX4 yX4_underWay wsX4_underWay) := goodIn_app (goodIn_of _ (by decide +kernel)) ggX4_put_X4_underWay
set_option maxRecDepth 20000 in
theorem ggX4_put_X4_messageAt : GoodIn wsX4_put wsX4_messageAt := goodIn_r _ [11, 1, 12, 13, 14] (by decide +kernel) (by decide +kernel)
set_option maxRecDepth 20000 in
theorem gX4_put_X4_messageAt : GoodIn wsX4_put (wsV RX4 54 RX4 yX4_messageAt wsX4_messageAt) := goodIn_app (goodIn_of _ (by decide +kernel)) ggX4_put_X4_messageAt
theorem dX4_put_0 : decode cX4_put 0 = .ok (.aload_n 0, 1) := by decide +kernel
theorem dX4_put_1 : decode cX4_put 1 = .ok (.iload_n 1, 1) := by decide +kernel
theorem dX4_put_2 : decode cX4_put 2 = .ok (.invokevirtual 51, 3) := by decide +kernel
theorem dX4_put_5 : decode cX4_put 5 = .ok (.istore 4, 2) := by decide +kernel
theorem dX4_put_7 : decode cX4_put 7 = .ok (.iload 4, 2) := by decide +kernel
theorem dX4_put_9 : decode cX4_put 9 = .ok (.bipush 16, 2) := by decide +kernel
theorem dX4_put_11 : decode cX4_put 11 = .ok (.if_icmp .lt 4, 3) := by decide +kernel
theorem dX4_put_14 : decode cX4_put 14 = .ok (.return_, 1) := by decide +kernel
theorem dX4_put_15 : decode cX4_put 15 = .ok (.iload 4, 2) := by decide +kernel
theorem dX4_put_17 : decode cX4_put 17 = .ok (.istore 5, 2) := by decide +kernel
theorem dX4_put_19 : decode cX4_put 19 = .ok (.iload_n 3, 1) := by decide +kernel
theorem dX4_put_20 : decode cX4_put 20 = .ok (.ifCond .ne 27, 3) := by decide +kernel
theorem dX4_put_23 : decode cX4_put 23 = .ok (.iload 5, 2) := by decide +kernel
theorem dX4_put_25 : decode cX4_put 25 = .ok (.ifCond .le 22, 3) := by decide +kernel
theorem dX4_put_28 : decode cX4_put 28 = .ok (.aload_n 0, 1) := by decide +kernel
theorem dX4_put_29 : decode cX4_put 29 = .ok (.iload_n 1, 1) := by decide +kernel
theorem dX4_put_30 : decode cX4_put 30 = .ok (.iload 5, 2) := by decide +kernel
theorem dX4_put_32 : decode cX4_put 32 = .ok (.iconst 1, 1) := by decide +kernel
theorem dX4_put_33 : decode cX4_put 33 = .ok (.isub, 1) := by decide +kernel
theorem dX4_put_34 : decode cX4_put 34 = .ok (.invokevirtual 54, 3) := by decide +kernel
theorem dX4_put_37 : decode cX4_put 37 = .ok (.iload_n 2, 1) := by decide +kernel
theorem dX4_put_38 : decode cX4_put 38 = .ok (.if_icmp .le 9, 3) := by decide +kernel
theorem dX4_put_41 : decode cX4_put 41 = .ok (.iinc 5 (-1), 3) := by decide +kernel
theorem dX4_put_44 : decode cX4_put 44 = .ok (.goto (-21), 3) := by decide +kernel
theorem dX4_put_47 : decode cX4_put 47 = .ok (.iconst 4, 1) := by decide +kernel
theorem dX4_put_48 : decode cX4_put 48 = .ok (.iload 5, 2) := by decide +kernel
theorem dX4_put_50 : decode cX4_put 50 = .ok (.imul, 1) := by decide +kernel
theorem dX4_put_51 : decode cX4_put 51 = .ok (.istore 6, 2) := by decide +kernel
theorem dX4_put_53 : decode cX4_put 53 = .ok (.aload_n 0, 1) := by decide +kernel
theorem dX4_put_54 : decode cX4_put 54 = .ok (.getfield 11, 3) := by decide +kernel
theorem dX4_put_57 : decode cX4_put 57 = .ok (.iload_n 1, 1) := by decide +kernel
theorem dX4_put_58 : decode cX4_put 58 = .ok (.laload, 1) := by decide +kernel
theorem dX4_put_59 : decode cX4_put 59 = .ok (.lstore 7, 2) := by decide +kernel
theorem dX4_put_61 : decode cX4_put 61 = .ok (.lload 7, 2) := by decide +kernel
theorem dX4_put_63 : decode cX4_put 63 = .ok (.lconst 1, 1) := by decide +kernel
theorem dX4_put_64 : decode cX4_put 64 = .ok (.iload 6, 2) := by decide +kernel
theorem dX4_put_66 : decode cX4_put 66 = .ok (.lshl, 1) := by decide +kernel
theorem dX4_put_67 : decode cX4_put 67 = .ok (.lconst 1, 1) := by decide +kernel
theorem dX4_put_68 : decode cX4_put 68 = .ok (.lsub, 1) := by decide +kernel
theorem dX4_put_69 : decode cX4_put 69 = .ok (.land, 1) := by decide +kernel
theorem dX4_put_70 : decode cX4_put 70 = .ok (.lstore 9, 2) := by decide +kernel
theorem dX4_put_72 : decode cX4_put 72 = .ok (.lload 7, 2) := by decide +kernel
theorem dX4_put_74 : decode cX4_put 74 = .ok (.iload 6, 2) := by decide +kernel
theorem dX4_put_76 : decode cX4_put 76 = .ok (.lushr, 1) := by decide +kernel
theorem dX4_put_77 : decode cX4_put 77 = .ok (.iload 6, 2) := by decide +kernel
theorem dX4_put_79 : decode cX4_put 79 = .ok (.lshl, 1) := by decide +kernel
theorem dX4_put_80 : decode cX4_put 80 = .ok (.iconst 4, 1) := by decide +kernel
theorem dX4_put_81 : decode cX4_put 81 = .ok (.lshl, 1) := by decide +kernel
theorem dX4_put_82 : decode cX4_put 82 = .ok (.lstore 11, 2) := by decide +kernel
theorem dX4_put_84 : decode cX4_put 84 = .ok (.aload_n 0, 1) := by decide +kernel
theorem dX4_put_85 : decode cX4_put 85 = .ok (.getfield 11, 3) := by decide +kernel
theorem dX4_put_88 : decode cX4_put 88 = .ok (.iload_n 1, 1) := by decide +kernel
theorem dX4_put_89 : decode cX4_put 89 = .ok (.lload 9, 2) := by decide +kernel
theorem dX4_put_91 : decode cX4_put 91 = .ok (.iload_n 2, 1) := by decide +kernel
theorem dX4_put_92 : decode cX4_put 92 = .ok (.i2l, 1) := by decide +kernel
theorem dX4_put_93 : decode cX4_put 93 = .ok (.iload 6, 2) := by decide +kernel
theorem dX4_put_95 : decode cX4_put 95 = .ok (.lshl, 1) := by decide +kernel
theorem dX4_put_96 : decode cX4_put 96 = .ok (.lor, 1) := by decide +kernel
theorem dX4_put_97 : decode cX4_put 97 = .ok (.lload 11, 2) := by decide +kernel
theorem dX4_put_99 : decode cX4_put 99 = .ok (.lor, 1) := by decide +kernel
theorem dX4_put_100 : decode cX4_put 100 = .ok (.lastore, 1) := by decide +kernel
theorem dX4_put_101 : decode cX4_put 101 = .ok (.aload_n 0, 1) := by decide +kernel
theorem dX4_put_102 : decode cX4_put 102 = .ok (.dup, 1) := by decide +kernel
theorem dX4_put_103 : decode cX4_put 103 = .ok (.getfield 29, 3) := by decide +kernel
theorem dX4_put_106 : decode cX4_put 106 = .ok (.lconst 1, 1) := by decide +kernel
theorem dX4_put_107 : decode cX4_put 107 = .ok (.iconst 5, 1) := by decide +kernel
theorem dX4_put_108 : decode cX4_put 108 = .ok (.iload_n 1, 1) := by decide +kernel
theorem dX4_put_109 : decode cX4_put 109 = .ok (.imul, 1) := by decide +kernel
theorem dX4_put_110 : decode cX4_put 110 = .ok (.lshl, 1) := by decide +kernel
theorem dX4_put_111 : decode cX4_put 111 = .ok (.ladd, 1) := by decide +kernel
theorem dX4_put_112 : decode cX4_put 112 = .ok (.putfield 29, 3) := by decide +kernel
theorem dX4_put_115 : decode cX4_put 115 = .ok (.return_, 1) := by decide +kernel
set_option maxRecDepth 20000 in
theorem ggX4_pending_J13_bitCount_95d88 : GoodIn wsX4_pending wsJ13_bitCount_95d88 := goodIn_r _ [6, 7, 8, 9] (by decide +kernel) (by decide +kernel)
set_option maxRecDepth 20000 in
theorem gX4_pending_J13_bitCount_95d88 : GoodIn wsX4_pending (va_wsS RX4 60 yJ13_bitCount_95d88 wsJ13_bitCount_95d88) := goodIn_app (goodIn_of _ (by decide +kernel)) ggX4_pending_J13_bitCount_95d88
set_option maxRecDepth 20000 in
theorem ggX4_pending_X4_underWay : GoodIn wsX4_pending wsX4_underWay := goodIn_r _ [14, 15, 16, 17, 18] (by decide +kernel) (by decide +kernel)
set_option maxRecDepth 20000 in
theorem gX4_pending_X4_underWay : GoodIn wsX4_pending (wsV RX4 51 RX4 yX4_underWay wsX4_underWay) := goodIn_app (goodIn_of _ (by decide +kernel)) ggX4_pending_X4_underWay
theorem dX4_pending_0 : decode cX4_pending 0 = .ok (.iload_n 1, 1) := by decide +kernel
theorem dX4_pending_1 : decode cX4_pending 1 = .ok (.aload_n 0, 1) := by decide +kernel
theorem dX4_pending_2 : decode cX4_pending 2 = .ok (.getfield 15, 3) := by decide +kernel
theorem dX4_pending_5 : decode cX4_pending 5 = .ok (.bipush 45, 2) := by decide +kernel
theorem dX4_pending_7 : decode cX4_pending 7 = .ok (.lushr, 1) := by decide +kernel
theorem dX4_pending_8 : decode cX4_pending 8 = .ok (.ldc2_w 58, 3) := by decide +kernel
theorem dX4_pending_11 : decode cX4_pending 11 = .ok (.land, 1) := by decide +kernel
theorem dX4_pending_12 : decode cX4_pending 12 = .ok (.invokestatic 60, 3) := by decide +kernel
theorem dX4_pending_15 : decode cX4_pending 15 = .ok (.isub, 1) := by decide +kernel
theorem dX4_pending_16 : decode cX4_pending 16 = .ok (.istore_n 2, 1) := by decide +kernel
theorem dX4_pending_17 : decode cX4_pending 17 = .ok (.iconst 0, 1) := by decide +kernel
theorem dX4_pending_18 : decode cX4_pending 18 = .ok (.istore_n 3, 1) := by decide +kernel
theorem dX4_pending_19 : decode cX4_pending 19 = .ok (.iload_n 3, 1) := by decide +kernel
theorem dX4_pending_20 : decode cX4_pending 20 = .ok (.bipush 8, 2) := by decide +kernel
theorem dX4_pending_22 : decode cX4_pending 22 = .ok (.if_icmp .ge 17, 3) := by decide +kernel
theorem dX4_pending_25 : decode cX4_pending 25 = .ok (.iload_n 2, 1) := by decide +kernel
theorem dX4_pending_26 : decode cX4_pending 26 = .ok (.aload_n 0, 1) := by decide +kernel
theorem dX4_pending_27 : decode cX4_pending 27 = .ok (.iload_n 3, 1) := by decide +kernel
theorem dX4_pending_28 : decode cX4_pending 28 = .ok (.invokevirtual 51, 3) := by decide +kernel
theorem dX4_pending_31 : decode cX4_pending 31 = .ok (.iadd, 1) := by decide +kernel
theorem dX4_pending_32 : decode cX4_pending 32 = .ok (.istore_n 2, 1) := by decide +kernel
theorem dX4_pending_33 : decode cX4_pending 33 = .ok (.iinc 3 1, 3) := by decide +kernel
theorem dX4_pending_36 : decode cX4_pending 36 = .ok (.goto (-17), 3) := by decide +kernel
theorem dX4_pending_39 : decode cX4_pending 39 = .ok (.iload_n 2, 1) := by decide +kernel
theorem dX4_pending_40 : decode cX4_pending 40 = .ok (.ireturn, 1) := by decide +kernel
theorem dX4_hash_0 : decode cX4_hash 0 = .ok (.aload_n 0, 1) := by decide +kernel
theorem dX4_hash_1 : decode cX4_hash 1 = .ok (.getfield 15, 3) := by decide +kernel
theorem dX4_hash_4 : decode cX4_hash 4 = .ok (.aload_n 0, 1) := by decide +kernel
theorem dX4_hash_5 : decode cX4_hash 5 = .ok (.getfield 29, 3) := by decide +kernel
theorem dX4_hash_8 : decode cX4_hash 8 = .ok (.ldc2_w 66, 3) := by decide +kernel
theorem dX4_hash_11 : decode cX4_hash 11 = .ok (.lmul, 1) := by decide +kernel
theorem dX4_hash_12 : decode cX4_hash 12 = .ok (.lxor, 1) := by decide +kernel
theorem dX4_hash_13 : decode cX4_hash 13 = .ok (.ldc2_w 66, 3) := by decide +kernel
theorem dX4_hash_16 : decode cX4_hash 16 = .ok (.lmul, 1) := by decide +kernel
theorem dX4_hash_17 : decode cX4_hash 17 = .ok (.lstore_n 1, 1) := by decide +kernel
theorem dX4_hash_18 : decode cX4_hash 18 = .ok (.iconst 0, 1) := by decide +kernel
theorem dX4_hash_19 : decode cX4_hash 19 = .ok (.istore_n 3, 1) := by decide +kernel
theorem dX4_hash_20 : decode cX4_hash 20 = .ok (.iload_n 3, 1) := by decide +kernel
theorem dX4_hash_21 : decode cX4_hash 21 = .ok (.bipush 8, 2) := by decide +kernel
theorem dX4_hash_23 : decode cX4_hash 23 = .ok (.if_icmp .ge 27, 3) := by decide +kernel
theorem dX4_hash_26 : decode cX4_hash 26 = .ok (.lload_n 1, 1) := by decide +kernel
theorem dX4_hash_27 : decode cX4_hash 27 = .ok (.lload_n 1, 1) := by decide +kernel
theorem dX4_hash_28 : decode cX4_hash 28 = .ok (.bipush 29, 2) := by decide +kernel
theorem dX4_hash_30 : decode cX4_hash 30 = .ok (.lushr, 1) := by decide +kernel
theorem dX4_hash_31 : decode cX4_hash 31 = .ok (.lxor, 1) := by decide +kernel
theorem dX4_hash_32 : decode cX4_hash 32 = .ok (.aload_n 0, 1) := by decide +kernel
theorem dX4_hash_33 : decode cX4_hash 33 = .ok (.getfield 11, 3) := by decide +kernel
theorem dX4_hash_36 : decode cX4_hash 36 = .ok (.iload_n 3, 1) := by decide +kernel
theorem dX4_hash_37 : decode cX4_hash 37 = .ok (.laload, 1) := by decide +kernel
theorem dX4_hash_38 : decode cX4_hash 38 = .ok (.lxor, 1) := by decide +kernel
theorem dX4_hash_39 : decode cX4_hash 39 = .ok (.ldc2_w 66, 3) := by decide +kernel
theorem dX4_hash_42 : decode cX4_hash 42 = .ok (.lmul, 1) := by decide +kernel
theorem dX4_hash_43 : decode cX4_hash 43 = .ok (.lstore_n 1, 1) := by decide +kernel
theorem dX4_hash_44 : decode cX4_hash 44 = .ok (.iinc 3 1, 3) := by decide +kernel
theorem dX4_hash_47 : decode cX4_hash 47 = .ok (.goto (-27), 3) := by decide +kernel
theorem dX4_hash_50 : decode cX4_hash 50 = .ok (.lload_n 1, 1) := by decide +kernel
theorem dX4_hash_51 : decode cX4_hash 51 = .ok (.bipush 33, 2) := by decide +kernel
theorem dX4_hash_53 : decode cX4_hash 53 = .ok (.lushr, 1) := by decide +kernel
theorem dX4_hash_54 : decode cX4_hash 54 = .ok (.l2i, 1) := by decide +kernel
theorem dX4_hash_55 : decode cX4_hash 55 = .ok (.ireturn, 1) := by decide +kernel
theorem dX5_init_0 : decode cX5_init 0 = .ok (.aload_n 0, 1) := by decide +kernel
theorem dX5_init_1 : decode cX5_init 1 = .ok (.invokespecial 3, 3) := by decide +kernel
theorem dX5_init_4 : decode cX5_init 4 = .ok (.aload_n 0, 1) := by decide +kernel
theorem dX5_init_5 : decode cX5_init 5 = .ok (.sipush 600, 3) := by decide +kernel
theorem dX5_init_8 : decode cX5_init 8 = .ok (.newarray .long, 2) := by decide +kernel
theorem dX5_init_10 : decode cX5_init 10 = .ok (.putfield 9, 3) := by decide +kernel
theorem dX5_init_13 : decode cX5_init 13 = .ok (.aload_n 0, 1) := by decide +kernel
theorem dX5_init_14 : decode cX5_init 14 = .ok (.sipush 600, 3) := by decide +kernel
theorem dX5_init_17 : decode cX5_init 17 = .ok (.newarray .long, 2) := by decide +kernel
theorem dX5_init_19 : decode cX5_init 19 = .ok (.putfield 15, 3) := by decide +kernel
theorem dX5_init_22 : decode cX5_init 22 = .ok (.aload_n 0, 1) := by decide +kernel
theorem dX5_init_23 : decode cX5_init 23 = .ok (.sipush 4800, 3) := by decide +kernel
theorem dX5_init_26 : decode cX5_init 26 = .ok (.newarray .long, 2) := by decide +kernel
theorem dX5_init_28 : decode cX5_init 28 = .ok (.putfield 18, 3) := by decide +kernel
theorem dX5_init_31 : decode cX5_init 31 = .ok (.aload_n 0, 1) := by decide +kernel
theorem dX5_init_32 : decode cX5_init 32 = .ok (.sipush 1024, 3) := by decide +kernel
theorem dX5_init_35 : decode cX5_init 35 = .ok (.newarray .int, 2) := by decide +kernel
theorem dX5_init_37 : decode cX5_init 37 = .ok (.putfield 21, 3) := by decide +kernel
theorem dX5_init_40 : decode cX5_init 40 = .ok (.return_, 1) := by decide +kernel
set_option maxRecDepth 20000 in
theorem ggX5_clear_J7_fill_53178 : GoodIn wsX5_clear wsJ7_fill_53178 := goodIn_r _ [6] (by decide +kernel) (by decide +kernel)
set_option maxRecDepth 20000 in
theorem gX5_clear_J7_fill_53178 : GoodIn wsX5_clear (va_wsS RX5 29 yJ7_fill_53178 wsJ7_fill_53178) := goodIn_app (goodIn_of _ (by decide +kernel)) ggX5_clear_J7_fill_53178
theorem dX5_clear_0 : decode cX5_clear 0 = .ok (.aload_n 0, 1) := by decide +kernel
theorem dX5_clear_1 : decode cX5_clear 1 = .ok (.iconst 0, 1) := by decide +kernel
theorem dX5_clear_2 : decode cX5_clear 2 = .ok (.putfield 25, 3) := by decide +kernel
theorem dX5_clear_5 : decode cX5_clear 5 = .ok (.aload_n 0, 1) := by decide +kernel
theorem dX5_clear_6 : decode cX5_clear 6 = .ok (.getfield 21, 3) := by decide +kernel
theorem dX5_clear_9 : decode cX5_clear 9 = .ok (.iconst 0, 1) := by decide +kernel
theorem dX5_clear_10 : decode cX5_clear 10 = .ok (.invokestatic 29, 3) := by decide +kernel
theorem dX5_clear_13 : decode cX5_clear 13 = .ok (.return_, 1) := by decide +kernel
set_option maxRecDepth 20000 in
theorem ggX5_freeSlot_X4_hash : GoodIn wsX5_freeSlot wsX4_hash := goodIn_r _ [6, 7, 8, 9, 10, 27, 28, 29] (by decide +kernel) (by decide +kernel)
set_option maxRecDepth 20000 in
theorem gX5_freeSlot_X4_hash : GoodIn wsX5_freeSlot (wsV RX5 35 RX4 yX4_hash wsX4_hash) := goodIn_app (goodIn_of _ (by decide +kernel)) ggX5_freeSlot_X4_hash
set_option maxRecDepth 20000 in
theorem ggX5_freeSlot_X5_isLike : GoodIn wsX5_freeSlot wsX5_isLike := goodIn_r _ [15, 16, 17, 18, 19, 20, 21, 22, 23, 24, 25, 26, 27, 28, 29] (by decide +kernel) (by decide +kernel)
set_option maxRecDepth 20000 in
theorem gX5_freeSlot_X5_isLike : GoodIn wsX5_freeSlot (wsV RX5 41 RX5 yX5_isLike wsX5_isLike) := goodIn_app (goodIn_of _ (by decide +kernel)) ggX5_freeSlot_X5_isLike
theorem dX5_freeSlot_0 : decode cX5_freeSlot 0 = .ok (.aload_n 1, 1) := by decide +kernel
theorem dX5_freeSlot_1 : decode cX5_freeSlot 1 = .ok (.invokevirtual 35, 3) := by decide +kernel
theorem dX5_freeSlot_4 : decode cX5_freeSlot 4 = .ok (.istore_n 2, 1) := by decide +kernel
theorem dX5_freeSlot_5 : decode cX5_freeSlot 5 = .ok (.iconst 0, 1) := by decide +kernel
theorem dX5_freeSlot_6 : decode cX5_freeSlot 6 = .ok (.istore_n 3, 1) := by decide +kernel
theorem dX5_freeSlot_7 : decode cX5_freeSlot 7 = .ok (.iload_n 3, 1) := by decide +kernel
theorem dX5_freeSlot_8 : decode cX5_freeSlot 8 = .ok (.sipush 1024, 3) := by decide +kernel
theorem dX5_freeSlot_11 : decode cX5_freeSlot 11 = .ok (.if_icmp .ge 50, 3) := by decide +kernel
theorem dX5_freeSlot_14 : decode cX5_freeSlot 14 = .ok (.iload_n 2, 1) := by decide +kernel
theorem dX5_freeSlot_15 : decode cX5_freeSlot 15 = .ok (.iload_n 3, 1) := by decide +kernel
theorem dX5_freeSlot_16 : decode cX5_freeSlot 16 = .ok (.iadd, 1) := by decide +kernel
theorem dX5_freeSlot_17 : decode cX5_freeSlot 17 = .ok (.sipush 1023, 3) := by decide +kernel
theorem dX5_freeSlot_20 : decode cX5_freeSlot 20 = .ok (.iand, 1) := by decide +kernel
theorem dX5_freeSlot_21 : decode cX5_freeSlot 21 = .ok (.istore 4, 2) := by decide +kernel
theorem dX5_freeSlot_23 : decode cX5_freeSlot 23 = .ok (.aload_n 0, 1) := by decide +kernel
theorem dX5_freeSlot_24 : decode cX5_freeSlot 24 = .ok (.getfield 21, 3) := by decide +kernel
theorem dX5_freeSlot_27 : decode cX5_freeSlot 27 = .ok (.iload 4, 2) := by decide +kernel
theorem dX5_freeSlot_29 : decode cX5_freeSlot 29 = .ok (.iaload, 1) := by decide +kernel
theorem dX5_freeSlot_30 : decode cX5_freeSlot 30 = .ok (.ifCond .ne 6, 3) := by decide +kernel
theorem dX5_freeSlot_33 : decode cX5_freeSlot 33 = .ok (.iload 4, 2) := by decide +kernel
theorem dX5_freeSlot_35 : decode cX5_freeSlot 35 = .ok (.ireturn, 1) := by decide +kernel
theorem dX5_freeSlot_36 : decode cX5_freeSlot 36 = .ok (.aload_n 0, 1) := by decide +kernel
theorem dX5_freeSlot_37 : decode cX5_freeSlot 37 = .ok (.aload_n 0, 1) := by decide +kernel
theorem dX5_freeSlot_38 : decode cX5_freeSlot 38 = .ok (.getfield 21, 3) := by decide +kernel
theorem dX5_freeSlot_41 : decode cX5_freeSlot 41 = .ok (.iload 4, 2) := by decide +kernel
theorem dX5_freeSlot_43 : decode cX5_freeSlot 43 = .ok (.iaload, 1) := by decide +kernel
theorem dX5_freeSlot_44 : decode cX5_freeSlot 44 = .ok (.iconst 1, 1) := by decide +kernel
theorem dX5_freeSlot_45 : decode cX5_freeSlot 45 = .ok (.isub, 1) := by decide +kernel
theorem dX5_freeSlot_46 : decode cX5_freeSlot 46 = .ok (.aload_n 1, 1) := by decide +kernel
theorem dX5_freeSlot_47 : decode cX5_freeSlot 47 = .ok (.invokevirtual 41, 3) := by decide +kernel
theorem dX5_freeSlot_50 : decode cX5_freeSlot 50 = .ok (.ifCond .eq 5, 3) := by decide +kernel
theorem dX5_freeSlot_53 : decode cX5_freeSlot 53 = .ok (.iconst (-1), 1) := by decide +kernel
theorem dX5_freeSlot_54 : decode cX5_freeSlot 54 = .ok (.ireturn, 1) := by decide +kernel
theorem dX5_freeSlot_55 : decode cX5_freeSlot 55 = .ok (.iinc 3 1, 3) := by decide +kernel
theorem dX5_freeSlot_58 : decode cX5_freeSlot 58 = .ok (.goto (-51), 3) := by decide +kernel
theorem dX5_freeSlot_61 : decode cX5_freeSlot 61 = .ok (.iconst (-1), 1) := by decide +kernel
theorem dX5_freeSlot_62 : decode cX5_freeSlot 62 = .ok (.ireturn, 1) := by decide +kernel
theorem dX5_isLike_0 : decode cX5_isLike 0 = .ok (.aload_n 0, 1) := by decide +kernel
theorem dX5_isLike_1 : decode cX5_isLike 1 = .ok (.getfield 9, 3) := by decide +kernel
theorem dX5_isLike_4 : decode cX5_isLike 4 = .ok (.iload_n 1, 1) := by decide +kernel
theorem dX5_isLike_5 : decode cX5_isLike 5 = .ok (.laload, 1) := by decide +kernel
theorem dX5_isLike_6 : decode cX5_isLike 6 = .ok (.aload_n 2, 1) := by decide +kernel
theorem dX5_isLike_7 : decode cX5_isLike 7 = .ok (.getfield 45, 3) := by decide +kernel
theorem dX5_isLike_10 : decode cX5_isLike 10 = .ok (.lcmp, 1) := by decide +kernel
theorem dX5_isLike_11 : decode cX5_isLike 11 = .ok (.ifCond .ne 17, 3) := by decide +kernel
theorem dX5_isLike_14 : decode cX5_isLike 14 = .ok (.aload_n 0, 1) := by decide +kernel
theorem dX5_isLike_15 : decode cX5_isLike 15 = .ok (.getfield 15, 3) := by decide +kernel
theorem dX5_isLike_18 : decode cX5_isLike 18 = .ok (.iload_n 1, 1) := by decide +kernel
theorem dX5_isLike_19 : decode cX5_isLike 19 = .ok (.laload, 1) := by decide +kernel
theorem dX5_isLike_20 : decode cX5_isLike 20 = .ok (.aload_n 2, 1) := by decide +kernel
theorem dX5_isLike_21 : decode cX5_isLike 21 = .ok (.getfield 49, 3) := by decide +kernel
theorem dX5_isLike_24 : decode cX5_isLike 24 = .ok (.lcmp, 1) := by decide +kernel
theorem dX5_isLike_25 : decode cX5_isLike 25 = .ok (.ifCond .eq 5, 3) := by decide +kernel
theorem dX5_isLike_28 : decode cX5_isLike 28 = .ok (.iconst 0, 1) := by decide +kernel
theorem dX5_isLike_29 : decode cX5_isLike 29 = .ok (.ireturn, 1) := by decide +kernel
theorem dX5_isLike_30 : decode cX5_isLike 30 = .ok (.iconst 0, 1) := by decide +kernel
theorem dX5_isLike_31 : decode cX5_isLike 31 = .ok (.istore_n 3, 1) := by decide +kernel
theorem dX5_isLike_32 : decode cX5_isLike 32 = .ok (.iload_n 3, 1) := by decide +kernel
theorem dX5_isLike_33 : decode cX5_isLike 33 = .ok (.bipush 8, 2) := by decide +kernel
theorem dX5_isLike_35 : decode cX5_isLike 35 = .ok (.if_icmp .ge 32, 3) := by decide +kernel
theorem dX5_isLike_38 : decode cX5_isLike 38 = .ok (.aload_n 0, 1) := by decide +kernel
theorem dX5_isLike_39 : decode cX5_isLike 39 = .ok (.getfield 18, 3) := by decide +kernel
theorem dX5_isLike_42 : decode cX5_isLike 42 = .ok (.iload_n 1, 1) := by decide +kernel
theorem dX5_isLike_43 : decode cX5_isLike 43 = .ok (.bipush 8, 2) := by decide +kernel
theorem dX5_isLike_45 : decode cX5_isLike 45 = .ok (.imul, 1) := by decide +kernel
theorem dX5_isLike_46 : decode cX5_isLike 46 = .ok (.iload_n 3, 1) := by decide +kernel
theorem dX5_isLike_47 : decode cX5_isLike 47 = .ok (.iadd, 1) := by decide +kernel
theorem dX5_isLike_48 : decode cX5_isLike 48 = .ok (.laload, 1) := by decide +kernel
theorem dX5_isLike_49 : decode cX5_isLike 49 = .ok (.aload_n 2, 1) := by decide +kernel
theorem dX5_isLike_50 : decode cX5_isLike 50 = .ok (.getfield 51, 3) := by decide +kernel
theorem dX5_isLike_53 : decode cX5_isLike 53 = .ok (.iload_n 3, 1) := by decide +kernel
theorem dX5_isLike_54 : decode cX5_isLike 54 = .ok (.laload, 1) := by decide +kernel
theorem dX5_isLike_55 : decode cX5_isLike 55 = .ok (.lcmp, 1) := by decide +kernel
theorem dX5_isLike_56 : decode cX5_isLike 56 = .ok (.ifCond .eq 5, 3) := by decide +kernel
theorem dX5_isLike_59 : decode cX5_isLike 59 = .ok (.iconst 0, 1) := by decide +kernel
theorem dX5_isLike_60 : decode cX5_isLike 60 = .ok (.ireturn, 1) := by decide +kernel
theorem dX5_isLike_61 : decode cX5_isLike 61 = .ok (.iinc 3 1, 3) := by decide +kernel
theorem dX5_isLike_64 : decode cX5_isLike 64 = .ok (.goto (-32), 3) := by decide +kernel
theorem dX5_isLike_67 : decode cX5_isLike 67 = .ok (.iconst 1, 1) := by decide +kernel
theorem dX5_isLike_68 : decode cX5_isLike 68 = .ok (.ireturn, 1) := by decide +kernel
theorem dX5_add_0 : decode cX5_add 0 = .ok (.aload_n 0, 1) := by decide +kernel
theorem dX5_add_1 : decode cX5_add 1 = .ok (.getfield 25, 3) := by decide +kernel
theorem dX5_add_4 : decode cX5_add 4 = .ok (.sipush 600, 3) := by decide +kernel
theorem dX5_add_7 : decode cX5_add 7 = .ok (.if_icmp .lt 4, 3) := by decide +kernel
theorem dX5_add_10 : decode cX5_add 10 = .ok (.return_, 1) := by decide +kernel
theorem dX5_add_11 : decode cX5_add 11 = .ok (.aload_n 0, 1) := by decide +kernel
theorem dX5_add_12 : decode cX5_add 12 = .ok (.getfield 9, 3) := by decide +kernel
theorem dX5_add_15 : decode cX5_add 15 = .ok (.aload_n 0, 1) := by decide +kernel
theorem dX5_add_16 : decode cX5_add 16 = .ok (.getfield 25, 3) := by decide +kernel
theorem dX5_add_19 : decode cX5_add 19 = .ok (.aload_n 1, 1) := by decide +kernel
theorem dX5_add_20 : decode cX5_add 20 = .ok (.getfield 45, 3) := by decide +kernel
theorem dX5_add_23 : decode cX5_add 23 = .ok (.lastore, 1) := by decide +kernel
theorem dX5_add_24 : decode cX5_add 24 = .ok (.aload_n 0, 1) := by decide +kernel
theorem dX5_add_25 : decode cX5_add 25 = .ok (.getfield 15, 3) := by decide +kernel
theorem dX5_add_28 : decode cX5_add 28 = .ok (.aload_n 0, 1) := by decide +kernel
theorem dX5_add_29 : decode cX5_add 29 = .ok (.getfield 25, 3) := by decide +kernel
theorem dX5_add_32 : decode cX5_add 32 = .ok (.aload_n 1, 1) := by decide +kernel
theorem dX5_add_33 : decode cX5_add 33 = .ok (.getfield 49, 3) := by decide +kernel
theorem dX5_add_36 : decode cX5_add 36 = .ok (.lastore, 1) := by decide +kernel
theorem dX5_add_37 : decode cX5_add 37 = .ok (.aload_n 1, 1) := by decide +kernel
theorem dX5_add_38 : decode cX5_add 38 = .ok (.getfield 51, 3) := by decide +kernel
theorem dX5_add_41 : decode cX5_add 41 = .ok (.iconst 0, 1) := by decide +kernel
theorem dX5_add_42 : decode cX5_add 42 = .ok (.aload_n 0, 1) := by decide +kernel
theorem dX5_add_43 : decode cX5_add 43 = .ok (.getfield 18, 3) := by decide +kernel
theorem dX5_add_46 : decode cX5_add 46 = .ok (.aload_n 0, 1) := by decide +kernel
theorem dX5_add_47 : decode cX5_add 47 = .ok (.getfield 25, 3) := by decide +kernel
theorem dX5_add_50 : decode cX5_add 50 = .ok (.bipush 8, 2) := by decide +kernel
theorem dX5_add_52 : decode cX5_add 52 = .ok (.imul, 1) := by decide +kernel
theorem dX5_add_53 : decode cX5_add 53 = .ok (.bipush 8, 2) := by decide +kernel
theorem dX5_add_55 : decode cX5_add 55 = .ok (.invokestatic 52, 3) := by decide +kernel
theorem dX5_add_58 : decode cX5_add 58 = .ok (.aload_n 0, 1) := by decide +kernel
theorem dX5_add_59 : decode cX5_add 59 = .ok (.dup, 1) := by decide +kernel
theorem dX5_add_60 : decode cX5_add 60 = .ok (.getfield 25, 3) := by decide +kernel
theorem dX5_add_63 : decode cX5_add 63 = .ok (.iconst 1, 1) := by decide +kernel
theorem dX5_add_64 : decode cX5_add 64 = .ok (.iadd, 1) := by decide +kernel
theorem dX5_add_65 : decode cX5_add 65 = .ok (.putfield 25, 3) := by decide +kernel
theorem dX5_add_68 : decode cX5_add 68 = .ok (.aload_n 0, 1) := by decide +kernel
theorem dX5_add_69 : decode cX5_add 69 = .ok (.getfield 21, 3) := by decide +kernel
theorem dX5_add_72 : decode cX5_add 72 = .ok (.iload_n 2, 1) := by decide +kernel
theorem dX5_add_73 : decode cX5_add 73 = .ok (.aload_n 0, 1) := by decide +kernel
theorem dX5_add_74 : decode cX5_add 74 = .ok (.getfield 25, 3) := by decide +kernel
theorem dX5_add_77 : decode cX5_add 77 = .ok (.iastore, 1) := by decide +kernel
theorem dX5_add_78 : decode cX5_add 78 = .ok (.return_, 1) := by decide +kernel
theorem dX5_load_0 : decode cX5_load 0 = .ok (.aload_n 2, 1) := by decide +kernel
theorem dX5_load_1 : decode cX5_load 1 = .ok (.aload_n 0, 1) := by decide +kernel
theorem dX5_load_2 : decode cX5_load 2 = .ok (.getfield 9, 3) := by decide +kernel
theorem dX5_load_5 : decode cX5_load 5 = .ok (.iload_n 1, 1) := by decide +kernel
theorem dX5_load_6 : decode cX5_load 6 = .ok (.laload, 1) := by decide +kernel
theorem dX5_load_7 : decode cX5_load 7 = .ok (.putfield 45, 3) := by decide +kernel
theorem dX5_load_10 : decode cX5_load 10 = .ok (.aload_n 2, 1) := by decide +kernel
theorem dX5_load_11 : decode cX5_load 11 = .ok (.aload_n 0, 1) := by decide +kernel
theorem dX5_load_12 : decode cX5_load 12 = .ok (.getfield 15, 3) := by decide +kernel
theorem dX5_load_15 : decode cX5_load 15 = .ok (.iload_n 1, 1) := by decide +kernel
theorem dX5_load_16 : decode cX5_load 16 = .ok (.laload, 1) := by decide +kernel
theorem dX5_load_17 : decode cX5_load 17 = .ok (.putfield 49, 3) := by decide +kernel
theorem dX5_load_20 : decode cX5_load 20 = .ok (.aload_n 0, 1) := by decide +kernel
theorem dX5_load_21 : decode cX5_load 21 = .ok (.getfield 18, 3) := by decide +kernel
theorem dX5_load_24 : decode cX5_load 24 = .ok (.iload_n 1, 1) := by decide +kernel
theorem dX5_load_25 : decode cX5_load 25 = .ok (.bipush 8, 2) := by decide +kernel
theorem dX5_load_27 : decode cX5_load 27 = .ok (.imul, 1) := by decide +kernel
theorem dX5_load_28 : decode cX5_load 28 = .ok (.aload_n 2, 1) := by decide +kernel
theorem dX5_load_29 : decode cX5_load 29 = .ok (.getfield 51, 3) := by decide +kernel
theorem dX5_load_32 : decode cX5_load 32 = .ok (.iconst 0, 1) := by decide +kernel
theorem dX5_load_33 : decode cX5_load 33 = .ok (.bipush 8, 2) := by decide +kernel
theorem dX5_load_35 : decode cX5_load 35 = .ok (.invokestatic 52, 3) := by decide +kernel
theorem dX5_load_38 : decode cX5_load 38 = .ok (.return_, 1) := by decide +kernel
theorem dX6_of_0 : decode cX6_of 0 = .ok (.iload_n 0, 1) := by decide +kernel
theorem dX6_of_1 : decode cX6_of 1 = .ok (.iload_n 1, 1) := by decide +kernel
theorem dX6_of_2 : decode cX6_of 2 = .ok (.bipush 8, 2) := by decide +kernel
theorem dX6_of_4 : decode cX6_of 4 = .ok (.ishl, 1) := by decide +kernel
theorem dX6_of_5 : decode cX6_of 5 = .ok (.ior, 1) := by decide +kernel
theorem dX6_of_6 : decode cX6_of 6 = .ok (.iload_n 2, 1) := by decide +kernel
theorem dX6_of_7 : decode cX6_of 7 = .ok (.bipush 12, 2) := by decide +kernel
theorem dX6_of_9 : decode cX6_of 9 = .ok (.ishl, 1) := by decide +kernel
theorem dX6_of_10 : decode cX6_of 10 = .ok (.ior, 1) := by decide +kernel
theorem dX6_of_11 : decode cX6_of 11 = .ok (.ireturn, 1) := by decide +kernel
theorem dX6_source_0 : decode cX6_source 0 = .ok (.iload_n 0, 1) := by decide +kernel
theorem dX6_source_1 : decode cX6_source 1 = .ok (.sipush 255, 3) := by decide +kernel
theorem dX6_source_4 : decode cX6_source 4 = .ok (.iand, 1) := by decide +kernel
theorem dX6_source_5 : decode cX6_source 5 = .ok (.ireturn, 1) := by decide +kernel
theorem dX6_message_0 : decode cX6_message 0 = .ok (.iload_n 0, 1) := by decide +kernel
theorem dX6_message_1 : decode cX6_message 1 = .ok (.bipush 8, 2) := by decide +kernel
theorem dX6_message_3 : decode cX6_message 3 = .ok (.iushr, 1) := by decide +kernel
theorem dX6_message_4 : decode cX6_message 4 = .ok (.bipush 15, 2) := by decide +kernel
theorem dX6_message_6 : decode cX6_message 6 = .ok (.iand, 1) := by decide +kernel
theorem dX6_message_7 : decode cX6_message 7 = .ok (.ireturn, 1) := by decide +kernel
theorem dX6_doubled_0 : decode cX6_doubled 0 = .ok (.iload_n 0, 1) := by decide +kernel
theorem dX6_doubled_1 : decode cX6_doubled 1 = .ok (.bipush 12, 2) := by decide +kernel
theorem dX6_doubled_3 : decode cX6_doubled 3 = .ok (.iushr, 1) := by decide +kernel
theorem dX6_doubled_4 : decode cX6_doubled 4 = .ok (.iconst 1, 1) := by decide +kernel
theorem dX6_doubled_5 : decode cX6_doubled 5 = .ok (.iand, 1) := by decide +kernel
theorem dX6_doubled_6 : decode cX6_doubled 6 = .ok (.ireturn, 1) := by decide +kernel
set_option maxRecDepth 20000 in
theorem ggX7_init_X1_init : GoodIn wsX7_init wsX1_init := goodIn_r _ [22, 23, 2, 3, 24, 25, 26, 27, 28, 29, 30, 71, 72, 73, 74, 75, 76, 77, 78, 79] (by decide +kernel) (by decide +kernel)
set_option maxRecDepth 20000 in
theorem gX7_init_X1_init_n9 : GoodIn wsX7_init (wsX1_init) := ggX7_init_X1_init
set_option maxRecDepth 20000 in
theorem ggX7_init_X2_init : GoodIn wsX7_init wsX2_init := goodIn_r _ [32, 33, 2, 3, 24, 34, 35, 85, 86] (by decide +kernel) (by decide +kernel)
set_option maxRecDepth 20000 in
theorem gX7_init_X2_init_n18 : GoodIn wsX7_init (wsX2_init) := ggX7_init_X2_init
set_option maxRecDepth 20000 in
theorem ggX7_init_X0_init : GoodIn wsX7_init wsX0_init := goodIn_r _ [37, 38, 2, 3, 24, 39, 40, 41, 42, 87, 88, 89, 90, 91, 92, 93, 94, 95, 96] (by decide +kernel) (by decide +kernel)
set_option maxRecDepth 20000 in
theorem gX7_init_X0_init_n25 : GoodIn wsX7_init (wsX0_init) := ggX7_init_X0_init
set_option maxRecDepth 20000 in
theorem ggX7_init_X3_init : GoodIn wsX7_init wsX3_init := goodIn_r _ [45, 46, 2, 3, 47, 48, 49, 50, 51, 52, 53, 54, 55, 56, 57, 58, 59, 60, 61, 62, 63, 64, 65, 24, 66, 67, 68, 69, 70, 106, 107, 108, 109, 110, 97, 98, 99, 100, 101, 102, 103, 104, 105, 111, 112, 113] (by decide +kernel) (by decide +kernel)
set_option maxRecDepth 20000 in
theorem gX7_init_X3_init : GoodIn wsX7_init (wsX3_init) := ggX7_init_X3_init
theorem dX7_init_0 : decode cX7_init 0 = .ok (.aload_n 0, 1) := by decide +kernel
theorem dX7_init_1 : decode cX7_init 1 = .ok (.invokespecial 1, 3) := by decide +kernel
theorem dX7_init_4 : decode cX7_init 4 = .ok (.aload_n 0, 1) := by decide +kernel
theorem dX7_init_5 : decode cX7_init 5 = .ok (.new 7, 3) := by decide +kernel
theorem dX7_init_8 : decode cX7_init 8 = .ok (.dup, 1) := by decide +kernel
theorem dX7_init_9 : decode cX7_init 9 = .ok (.invokespecial 9, 3) := by decide +kernel
theorem dX7_init_12 : decode cX7_init 12 = .ok (.putfield 10, 3) := by decide +kernel
theorem dX7_init_15 : decode cX7_init 15 = .ok (.aload_n 0, 1) := by decide +kernel
theorem dX7_init_16 : decode cX7_init 16 = .ok (.new 16, 3) := by decide +kernel
theorem dX7_init_19 : decode cX7_init 19 = .ok (.dup, 1) := by decide +kernel
theorem dX7_init_20 : decode cX7_init 20 = .ok (.invokespecial 18, 3) := by decide +kernel
theorem dX7_init_23 : decode cX7_init 23 = .ok (.putfield 19, 3) := by decide +kernel
theorem dX7_init_26 : decode cX7_init 26 = .ok (.aload_n 0, 1) := by decide +kernel
theorem dX7_init_27 : decode cX7_init 27 = .ok (.new 23, 3) := by decide +kernel
theorem dX7_init_30 : decode cX7_init 30 = .ok (.dup, 1) := by decide +kernel
theorem dX7_init_31 : decode cX7_init 31 = .ok (.invokespecial 25, 3) := by decide +kernel
theorem dX7_init_34 : decode cX7_init 34 = .ok (.putfield 26, 3) := by decide +kernel
theorem dX7_init_37 : decode cX7_init 37 = .ok (.aload_n 0, 1) := by decide +kernel
theorem dX7_init_38 : decode cX7_init 38 = .ok (.new 23, 3) := by decide +kernel
theorem dX7_init_41 : decode cX7_init 41 = .ok (.dup, 1) := by decide +kernel
theorem dX7_init_42 : decode cX7_init 42 = .ok (.invokespecial 25, 3) := by decide +kernel
theorem dX7_init_45 : decode cX7_init 45 = .ok (.putfield 30, 3) := by decide +kernel
theorem dX7_init_48 : decode cX7_init 48 = .ok (.aload_n 0, 1) := by decide +kernel
theorem dX7_init_49 : decode cX7_init 49 = .ok (.new 33, 3) := by decide +kernel
theorem dX7_init_52 : decode cX7_init 52 = .ok (.dup, 1) := by decide +kernel
theorem dX7_init_53 : decode cX7_init 53 = .ok (.aload_n 0, 1) := by decide +kernel
theorem dX7_init_54 : decode cX7_init 54 = .ok (.getfield 10, 3) := by decide +kernel
theorem dX7_init_57 : decode cX7_init 57 = .ok (.aload_n 0, 1) := by decide +kernel
theorem dX7_init_58 : decode cX7_init 58 = .ok (.getfield 19, 3) := by decide +kernel
theorem dX7_init_61 : decode cX7_init 61 = .ok (.aload_n 0, 1) := by decide +kernel
theorem dX7_init_62 : decode cX7_init 62 = .ok (.getfield 30, 3) := by decide +kernel
theorem dX7_init_65 : decode cX7_init 65 = .ok (.invokespecial 35, 3) := by decide +kernel
theorem dX7_init_68 : decode cX7_init 68 = .ok (.putfield 38, 3) := by decide +kernel
theorem dX7_init_71 : decode cX7_init 71 = .ok (.return_, 1) := by decide +kernel
set_option maxRecDepth 20000 in
theorem ggX7_vertex_X7_isValue : GoodIn wsX7_vertex wsX7_isValue := goodIn_r _ [5] (by decide +kernel) (by decide +kernel)
set_option maxRecDepth 20000 in
theorem gX7_vertex_X7_isValue : GoodIn wsX7_vertex (va_wsS RX7 42 yX7_isValue wsX7_isValue) := goodIn_app (goodIn_of _ (by decide +kernel)) ggX7_vertex_X7_isValue
set_option maxRecDepth 20000 in
theorem ggX7_vertex_X1_addVertex : GoodIn wsX7_vertex wsX1_addVertex := goodIn_r _ [10, 11, 12, 18, 19, 20, 21, 22, 23, 24, 25, 26] (by decide +kernel) (by decide +kernel)
set_option maxRecDepth 20000 in
theorem gX7_vertex_X1_addVertex : GoodIn wsX7_vertex (wsV RX7 46 RX1 yX1_addVertex wsX1_addVertex) := goodIn_app (goodIn_of _ (by decide +kernel)) ggX7_vertex_X1_addVertex
theorem dX7_vertex_0 : decode cX7_vertex 0 = .ok (.iload_n 1, 1) := by decide +kernel
theorem dX7_vertex_1 : decode cX7_vertex 1 = .ok (.invokestatic 42, 3) := by decide +kernel
theorem dX7_vertex_4 : decode cX7_vertex 4 = .ok (.ifCond .ne 6, 3) := by decide +kernel
theorem dX7_vertex_7 : decode cX7_vertex 7 = .ok (.bipush (-102), 2) := by decide +kernel
theorem dX7_vertex_9 : decode cX7_vertex 9 = .ok (.ireturn, 1) := by decide +kernel
theorem dX7_vertex_10 : decode cX7_vertex 10 = .ok (.aload_n 0, 1) := by decide +kernel
theorem dX7_vertex_11 : decode cX7_vertex 11 = .ok (.getfield 10, 3) := by decide +kernel
theorem dX7_vertex_14 : decode cX7_vertex 14 = .ok (.iload_n 1, 1) := by decide +kernel
theorem dX7_vertex_15 : decode cX7_vertex 15 = .ok (.invokevirtual 46, 3) := by decide +kernel
theorem dX7_vertex_18 : decode cX7_vertex 18 = .ok (.ireturn, 1) := by decide +kernel
set_option maxRecDepth 20000 in
theorem ggX7_arc_X1_hasVertex : GoodIn wsX7_arc wsX1_hasVertex := goodIn_r _ [6, 7, 25, 26, 27, 28, 29, 30, 31, 32, 33] (by decide +kernel) (by decide +kernel)
set_option maxRecDepth 20000 in
theorem gX7_arc_X1_hasVertex : GoodIn wsX7_arc (wsV RX7 50 RX1 yX1_hasVertex wsX1_hasVertex) := goodIn_app (goodIn_of _ (by decide +kernel)) ggX7_arc_X1_hasVertex
set_option maxRecDepth 20000 in
theorem ggX7_arc_X7_isValue : GoodIn wsX7_arc wsX7_isValue := goodIn_r _ [11] (by decide +kernel) (by decide +kernel)
set_option maxRecDepth 20000 in
theorem gX7_arc_X7_isValue : GoodIn wsX7_arc (va_wsS RX7 42 yX7_isValue wsX7_isValue) := goodIn_app (goodIn_of _ (by decide +kernel)) ggX7_arc_X7_isValue
set_option maxRecDepth 20000 in
theorem ggX7_arc_X1_addArc : GoodIn wsX7_arc wsX1_addArc := goodIn_r _ [15, 16, 17, 18, 19, 25, 26, 27, 28, 29, 30, 31, 32, 33] (by decide +kernel) (by decide +kernel)
set_option maxRecDepth 20000 in
theorem gX7_arc_X1_addArc : GoodIn wsX7_arc (wsV RX7 53 RX1 yX1_addArc wsX1_addArc) := goodIn_app (goodIn_of _ (by decide +kernel)) ggX7_arc_X1_addArc
theorem dX7_arc_0 : decode cX7_arc 0 = .ok (.aload_n 0, 1) := by decide +kernel
theorem dX7_arc_1 : decode cX7_arc 1 = .ok (.getfield 10, 3) := by decide +kernel
theorem dX7_arc_4 : decode cX7_arc 4 = .ok (.iload_n 1, 1) := by decide +kernel
theorem dX7_arc_5 : decode cX7_arc 5 = .ok (.invokevirtual 50, 3) := by decide +kernel
theorem dX7_arc_8 : decode cX7_arc 8 = .ok (.ifCond .eq 14, 3) := by decide +kernel
theorem dX7_arc_11 : decode cX7_arc 11 = .ok (.aload_n 0, 1) := by decide +kernel
theorem dX7_arc_12 : decode cX7_arc 12 = .ok (.getfield 10, 3) := by decide +kernel
theorem dX7_arc_15 : decode cX7_arc 15 = .ok (.iload_n 2, 1) := by decide +kernel
theorem dX7_arc_16 : decode cX7_arc 16 = .ok (.invokevirtual 50, 3) := by decide +kernel
theorem dX7_arc_19 : decode cX7_arc 19 = .ok (.ifCond .ne 6, 3) := by decide +kernel
theorem dX7_arc_22 : decode cX7_arc 22 = .ok (.bipush (-101), 2) := by decide +kernel
theorem dX7_arc_24 : decode cX7_arc 24 = .ok (.ireturn, 1) := by decide +kernel
theorem dX7_arc_25 : decode cX7_arc 25 = .ok (.iload_n 3, 1) := by decide +kernel
theorem dX7_arc_26 : decode cX7_arc 26 = .ok (.invokestatic 42, 3) := by decide +kernel
theorem dX7_arc_29 : decode cX7_arc 29 = .ok (.ifCond .ne 6, 3) := by decide +kernel
theorem dX7_arc_32 : decode cX7_arc 32 = .ok (.bipush (-102), 2) := by decide +kernel
theorem dX7_arc_34 : decode cX7_arc 34 = .ok (.ireturn, 1) := by decide +kernel
theorem dX7_arc_35 : decode cX7_arc 35 = .ok (.aload_n 0, 1) := by decide +kernel
theorem dX7_arc_36 : decode cX7_arc 36 = .ok (.getfield 10, 3) := by decide +kernel
theorem dX7_arc_39 : decode cX7_arc 39 = .ok (.iload_n 1, 1) := by decide +kernel
theorem dX7_arc_40 : decode cX7_arc 40 = .ok (.iload_n 2, 1) := by decide +kernel
end
section
theorem dX7_arc_41 : decode cX7_arc 41 = .ok (.iload_n 3, 1) := by decide +kernel
theorem dX7_arc_42 : decode cX7_arc 42 = .ok (.invokevirtual 53, 3) := by decide +kernel
theorem dX7_arc_45 : decode cX7_arc 45 = .ok (.ireturn, 1) := by decide +kernel
set_option maxRecDepth 20000 in
theorem ggX7_first_X1_hasVertex : GoodIn wsX7_first wsX1_hasVertex := goodIn_r _ [6, 7, 24, 25, 26, 27, 28, 29, 30, 31, 32] (by decide +kernel) (by decide +kernel)
set_option maxRecDepth 20000 in
theorem gX7_first_X1_hasVertex : GoodIn wsX7_first (wsV RX7 50 RX1 yX1_hasVertex wsX1_hasVertex) := goodIn_app (goodIn_of _ (by decide +kernel)) ggX7_first_X1_hasVertex
set_option maxRecDepth 20000 in
theorem ggX7_first_X7_isValue : GoodIn wsX7_first wsX7_isValue := goodIn_r _ [11] (by decide +kernel) (by decide +kernel)
set_option maxRecDepth 20000 in
theorem gX7_first_X7_isValue : GoodIn wsX7_first (va_wsS RX7 42 yX7_isValue wsX7_isValue) := goodIn_app (goodIn_of _ (by decide +kernel)) ggX7_first_X7_isValue
set_option maxRecDepth 20000 in
theorem ggX7_first_X1_addFirst : GoodIn wsX7_first wsX1_addFirst := goodIn_r _ [15, 16, 17, 18, 24, 25, 26, 27, 28, 29, 30, 31, 32] (by decide +kernel) (by decide +kernel)
set_option maxRecDepth 20000 in
theorem gX7_first_X1_addFirst : GoodIn wsX7_first (wsV RX7 57 RX1 yX1_addFirst wsX1_addFirst) := goodIn_app (goodIn_of _ (by decide +kernel)) ggX7_first_X1_addFirst
theorem dX7_first_0 : decode cX7_first 0 = .ok (.aload_n 0, 1) := by decide +kernel
theorem dX7_first_1 : decode cX7_first 1 = .ok (.getfield 10, 3) := by decide +kernel
theorem dX7_first_4 : decode cX7_first 4 = .ok (.iload_n 1, 1) := by decide +kernel
theorem dX7_first_5 : decode cX7_first 5 = .ok (.invokevirtual 50, 3) := by decide +kernel
theorem dX7_first_8 : decode cX7_first 8 = .ok (.ifCond .ne 6, 3) := by decide +kernel
theorem dX7_first_11 : decode cX7_first 11 = .ok (.bipush (-101), 2) := by decide +kernel
theorem dX7_first_13 : decode cX7_first 13 = .ok (.ireturn, 1) := by decide +kernel
theorem dX7_first_14 : decode cX7_first 14 = .ok (.iload_n 2, 1) := by decide +kernel
theorem dX7_first_15 : decode cX7_first 15 = .ok (.invokestatic 42, 3) := by decide +kernel
theorem dX7_first_18 : decode cX7_first 18 = .ok (.ifCond .ne 6, 3) := by decide +kernel
theorem dX7_first_21 : decode cX7_first 21 = .ok (.bipush (-102), 2) := by decide +kernel
theorem dX7_first_23 : decode cX7_first 23 = .ok (.ireturn, 1) := by decide +kernel
theorem dX7_first_24 : decode cX7_first 24 = .ok (.aload_n 0, 1) := by decide +kernel
theorem dX7_first_25 : decode cX7_first 25 = .ok (.getfield 10, 3) := by decide +kernel
theorem dX7_first_28 : decode cX7_first 28 = .ok (.iload_n 1, 1) := by decide +kernel
theorem dX7_first_29 : decode cX7_first 29 = .ok (.iload_n 2, 1) := by decide +kernel
theorem dX7_first_30 : decode cX7_first 30 = .ok (.invokevirtual 57, 3) := by decide +kernel
theorem dX7_first_33 : decode cX7_first 33 = .ok (.ireturn, 1) := by decide +kernel
set_option maxRecDepth 20000 in
theorem ggX7_set_X7_isWithin : GoodIn wsX7_set wsX7_isWithin := goodIn_r _ [8] (by decide +kernel) (by decide +kernel)
set_option maxRecDepth 20000 in
theorem gX7_set_X7_isWithin : GoodIn wsX7_set (va_wsS RX7 61 yX7_isWithin wsX7_isWithin) := goodIn_app (goodIn_of _ (by decide +kernel)) ggX7_set_X7_isWithin
theorem dX7_set_0 : decode cX7_set 0 = .ok (.iload_n 1, 1) := by decide +kernel
theorem dX7_set_1 : decode cX7_set 1 = .ok (.iconst 0, 1) := by decide +kernel
theorem dX7_set_2 : decode cX7_set 2 = .ok (.iconst 5, 1) := by decide +kernel
theorem dX7_set_3 : decode cX7_set 3 = .ok (.invokestatic 61, 3) := by decide +kernel
theorem dX7_set_6 : decode cX7_set 6 = .ok (.ifCond .ne 6, 3) := by decide +kernel
theorem dX7_set_9 : decode cX7_set 9 = .ok (.bipush (-102), 2) := by decide +kernel
theorem dX7_set_11 : decode cX7_set 11 = .ok (.ireturn, 1) := by decide +kernel
theorem dX7_set_12 : decode cX7_set 12 = .ok (.iload_n 2, 1) := by decide +kernel
theorem dX7_set_13 : decode cX7_set 13 = .ok (.getstatic 65, 3) := by decide +kernel
theorem dX7_set_16 : decode cX7_set 16 = .ok (.iload_n 1, 1) := by decide +kernel
theorem dX7_set_17 : decode cX7_set 17 = .ok (.iaload, 1) := by decide +kernel
theorem dX7_set_18 : decode cX7_set 18 = .ok (.getstatic 69, 3) := by decide +kernel
theorem dX7_set_21 : decode cX7_set 21 = .ok (.iload_n 1, 1) := by decide +kernel
theorem dX7_set_22 : decode cX7_set 22 = .ok (.iaload, 1) := by decide +kernel
theorem dX7_set_23 : decode cX7_set 23 = .ok (.invokestatic 61, 3) := by decide +kernel
theorem dX7_set_26 : decode cX7_set 26 = .ok (.ifCond .ne 6, 3) := by decide +kernel
theorem dX7_set_29 : decode cX7_set 29 = .ok (.bipush (-102), 2) := by decide +kernel
theorem dX7_set_31 : decode cX7_set 31 = .ok (.ireturn, 1) := by decide +kernel
theorem dX7_set_32 : decode cX7_set 32 = .ok (.aload_n 0, 1) := by decide +kernel
theorem dX7_set_33 : decode cX7_set 33 = .ok (.getfield 19, 3) := by decide +kernel
theorem dX7_set_36 : decode cX7_set 36 = .ok (.getfield 72, 3) := by decide +kernel
theorem dX7_set_39 : decode cX7_set 39 = .ok (.iload_n 1, 1) := by decide +kernel
theorem dX7_set_40 : decode cX7_set 40 = .ok (.iaload, 1) := by decide +kernel
theorem dX7_set_41 : decode cX7_set 41 = .ok (.istore_n 3, 1) := by decide +kernel
theorem dX7_set_42 : decode cX7_set 42 = .ok (.aload_n 0, 1) := by decide +kernel
theorem dX7_set_43 : decode cX7_set 43 = .ok (.getfield 19, 3) := by decide +kernel
theorem dX7_set_46 : decode cX7_set 46 = .ok (.getfield 72, 3) := by decide +kernel
theorem dX7_set_49 : decode cX7_set 49 = .ok (.iload_n 1, 1) := by decide +kernel
theorem dX7_set_50 : decode cX7_set 50 = .ok (.iload_n 2, 1) := by decide +kernel
theorem dX7_set_51 : decode cX7_set 51 = .ok (.iastore, 1) := by decide +kernel
theorem dX7_set_52 : decode cX7_set 52 = .ok (.iload_n 3, 1) := by decide +kernel
theorem dX7_set_53 : decode cX7_set 53 = .ok (.ireturn, 1) := by decide +kernel
set_option maxRecDepth 20000 in
theorem ggX7_table_X7_isValue : GoodIn wsX7_table wsX7_isValue := goodIn_r _ [5] (by decide +kernel) (by decide +kernel)
set_option maxRecDepth 20000 in
theorem gX7_table_X7_isValue : GoodIn wsX7_table (va_wsS RX7 42 yX7_isValue wsX7_isValue) := goodIn_app (goodIn_of _ (by decide +kernel)) ggX7_table_X7_isValue
set_option maxRecDepth 20000 in
theorem ggX7_table_X2_tell : GoodIn wsX7_table wsX2_tell := goodIn_r _ [10, 11, 12, 13, 9, 14, 20, 21] (by decide +kernel) (by decide +kernel)
set_option maxRecDepth 20000 in
theorem gX7_table_X2_tell : GoodIn wsX7_table (wsV RX7 75 RX2 yX2_tell wsX2_tell) := goodIn_app (goodIn_of _ (by decide +kernel)) ggX7_table_X2_tell
theorem dX7_table_0 : decode cX7_table 0 = .ok (.iload_n 1, 1) := by decide +kernel
theorem dX7_table_1 : decode cX7_table 1 = .ok (.invokestatic 42, 3) := by decide +kernel
theorem dX7_table_4 : decode cX7_table 4 = .ok (.ifCond .eq 17, 3) := by decide +kernel
theorem dX7_table_7 : decode cX7_table 7 = .ok (.iload_n 2, 1) := by decide +kernel
theorem dX7_table_8 : decode cX7_table 8 = .ok (.invokestatic 42, 3) := by decide +kernel
theorem dX7_table_11 : decode cX7_table 11 = .ok (.ifCond .eq 10, 3) := by decide +kernel
theorem dX7_table_14 : decode cX7_table 14 = .ok (.iload_n 3, 1) := by decide +kernel
theorem dX7_table_15 : decode cX7_table 15 = .ok (.invokestatic 42, 3) := by decide +kernel
theorem dX7_table_18 : decode cX7_table 18 = .ok (.ifCond .ne 6, 3) := by decide +kernel
theorem dX7_table_21 : decode cX7_table 21 = .ok (.bipush (-102), 2) := by decide +kernel
theorem dX7_table_23 : decode cX7_table 23 = .ok (.ireturn, 1) := by decide +kernel
theorem dX7_table_24 : decode cX7_table 24 = .ok (.aload_n 0, 1) := by decide +kernel
theorem dX7_table_25 : decode cX7_table 25 = .ok (.getfield 19, 3) := by decide +kernel
theorem dX7_table_28 : decode cX7_table 28 = .ok (.iload_n 1, 1) := by decide +kernel
theorem dX7_table_29 : decode cX7_table 29 = .ok (.iload_n 2, 1) := by decide +kernel
theorem dX7_table_30 : decode cX7_table 30 = .ok (.iload_n 3, 1) := by decide +kernel
theorem dX7_table_31 : decode cX7_table 31 = .ok (.invokevirtual 75, 3) := by decide +kernel
theorem dX7_table_34 : decode cX7_table 34 = .ok (.ireturn, 1) := by decide +kernel
set_option maxRecDepth 20000 in
theorem ggX7_value_X1_hasVertex : GoodIn wsX7_value wsX1_hasVertex := goodIn_r _ [7, 8, 18, 19, 20, 21, 22, 23, 24, 25, 26] (by decide +kernel) (by decide +kernel)
set_option maxRecDepth 20000 in
theorem gX7_value_X1_hasVertex : GoodIn wsX7_value (wsV RX7 50 RX1 yX1_hasVertex wsX1_hasVertex) := goodIn_app (goodIn_of _ (by decide +kernel)) ggX7_value_X1_hasVertex
set_option maxRecDepth 20000 in
theorem ggX7_value_X7_isValue : GoodIn wsX7_value wsX7_isValue := goodIn_r _ [12] (by decide +kernel) (by decide +kernel)
set_option maxRecDepth 20000 in
theorem gX7_value_X7_isValue : GoodIn wsX7_value (va_wsS RX7 42 yX7_isValue wsX7_isValue) := goodIn_app (goodIn_of _ (by decide +kernel)) ggX7_value_X7_isValue
theorem dX7_value_0 : decode cX7_value 0 = .ok (.aload_n 0, 1) := by decide +kernel
theorem dX7_value_1 : decode cX7_value 1 = .ok (.getfield 10, 3) := by decide +kernel
theorem dX7_value_4 : decode cX7_value 4 = .ok (.iload_n 1, 1) := by decide +kernel
theorem dX7_value_5 : decode cX7_value 5 = .ok (.invokevirtual 50, 3) := by decide +kernel
theorem dX7_value_8 : decode cX7_value 8 = .ok (.ifCond .ne 6, 3) := by decide +kernel
theorem dX7_value_11 : decode cX7_value 11 = .ok (.bipush (-101), 2) := by decide +kernel
theorem dX7_value_13 : decode cX7_value 13 = .ok (.ireturn, 1) := by decide +kernel
theorem dX7_value_14 : decode cX7_value 14 = .ok (.iload_n 2, 1) := by decide +kernel
theorem dX7_value_15 : decode cX7_value 15 = .ok (.invokestatic 42, 3) := by decide +kernel
theorem dX7_value_18 : decode cX7_value 18 = .ok (.ifCond .ne 6, 3) := by decide +kernel
theorem dX7_value_21 : decode cX7_value 21 = .ok (.bipush (-102), 2) := by decide +kernel
theorem dX7_value_23 : decode cX7_value 23 = .ok (.ireturn, 1) := by decide +kernel
theorem dX7_value_24 : decode cX7_value 24 = .ok (.aload_n 0, 1) := by decide +kernel
theorem dX7_value_25 : decode cX7_value 25 = .ok (.getfield 10, 3) := by decide +kernel
theorem dX7_value_28 : decode cX7_value 28 = .ok (.getfield 78, 3) := by decide +kernel
theorem dX7_value_31 : decode cX7_value 31 = .ok (.iload_n 1, 1) := by decide +kernel
theorem dX7_value_32 : decode cX7_value 32 = .ok (.iaload, 1) := by decide +kernel
theorem dX7_value_33 : decode cX7_value 33 = .ok (.istore_n 3, 1) := by decide +kernel
theorem dX7_value_34 : decode cX7_value 34 = .ok (.aload_n 0, 1) := by decide +kernel
theorem dX7_value_35 : decode cX7_value 35 = .ok (.getfield 10, 3) := by decide +kernel
theorem dX7_value_38 : decode cX7_value 38 = .ok (.getfield 78, 3) := by decide +kernel
theorem dX7_value_41 : decode cX7_value 41 = .ok (.iload_n 1, 1) := by decide +kernel
theorem dX7_value_42 : decode cX7_value 42 = .ok (.iload_n 2, 1) := by decide +kernel
theorem dX7_value_43 : decode cX7_value 43 = .ok (.iastore, 1) := by decide +kernel
theorem dX7_value_44 : decode cX7_value 44 = .ok (.iload_n 3, 1) := by decide +kernel
theorem dX7_value_45 : decode cX7_value 45 = .ok (.ireturn, 1) := by decide +kernel
set_option maxRecDepth 20000 in
theorem ggX7_fold_X7_isValue : GoodIn wsX7_fold wsX7_isValue := goodIn_r _ [5] (by decide +kernel) (by decide +kernel)
set_option maxRecDepth 20000 in
theorem gX7_fold_X7_isValue : GoodIn wsX7_fold (va_wsS RX7 42 yX7_isValue wsX7_isValue) := goodIn_app (goodIn_of _ (by decide +kernel)) ggX7_fold_X7_isValue
set_option maxRecDepth 20000 in
theorem ggX7_fold_X2_folded : GoodIn wsX7_fold wsX2_folded := goodIn_r _ [10, 11, 12, 13, 14, 15, 16, 17, 18, 19, 20, 21, 9, 22, 28, 29] (by decide +kernel) (by decide +kernel)
set_option maxRecDepth 20000 in
theorem gX7_fold_X2_folded : GoodIn wsX7_fold (wsV RX7 81 RX2 yX2_folded wsX2_folded) := goodIn_app (goodIn_of _ (by decide +kernel)) ggX7_fold_X2_folded
theorem dX7_fold_0 : decode cX7_fold 0 = .ok (.iload_n 1, 1) := by decide +kernel
theorem dX7_fold_1 : decode cX7_fold 1 = .ok (.invokestatic 42, 3) := by decide +kernel
theorem dX7_fold_4 : decode cX7_fold 4 = .ok (.ifCond .eq 10, 3) := by decide +kernel
theorem dX7_fold_7 : decode cX7_fold 7 = .ok (.iload_n 2, 1) := by decide +kernel
theorem dX7_fold_8 : decode cX7_fold 8 = .ok (.invokestatic 42, 3) := by decide +kernel
theorem dX7_fold_11 : decode cX7_fold 11 = .ok (.ifCond .ne 6, 3) := by decide +kernel
theorem dX7_fold_14 : decode cX7_fold 14 = .ok (.bipush (-102), 2) := by decide +kernel
theorem dX7_fold_16 : decode cX7_fold 16 = .ok (.ireturn, 1) := by decide +kernel
theorem dX7_fold_17 : decode cX7_fold 17 = .ok (.aload_n 0, 1) := by decide +kernel
theorem dX7_fold_18 : decode cX7_fold 18 = .ok (.getfield 19, 3) := by decide +kernel
theorem dX7_fold_21 : decode cX7_fold 21 = .ok (.iload_n 1, 1) := by decide +kernel
theorem dX7_fold_22 : decode cX7_fold 22 = .ok (.iload_n 2, 1) := by decide +kernel
theorem dX7_fold_23 : decode cX7_fold 23 = .ok (.invokevirtual 81, 3) := by decide +kernel
theorem dX7_fold_26 : decode cX7_fold 26 = .ok (.ireturn, 1) := by decide +kernel
set_option maxRecDepth 20000 in
theorem ggX7_out_X7_isValue : GoodIn wsX7_out wsX7_isValue := goodIn_r _ [5] (by decide +kernel) (by decide +kernel)
set_option maxRecDepth 20000 in
theorem gX7_out_X7_isValue : GoodIn wsX7_out (va_wsS RX7 42 yX7_isValue wsX7_isValue) := goodIn_app (goodIn_of _ (by decide +kernel)) ggX7_out_X7_isValue
set_option maxRecDepth 20000 in
theorem ggX7_out_X2_sentOut : GoodIn wsX7_out wsX2_sentOut := goodIn_r _ [10, 11, 12, 13, 14, 15, 16, 17, 18, 24, 25] (by decide +kernel) (by decide +kernel)
set_option maxRecDepth 20000 in
theorem gX7_out_X2_sentOut : GoodIn wsX7_out (wsV RX7 84 RX2 yX2_sentOut wsX2_sentOut) := goodIn_app (goodIn_of _ (by decide +kernel)) ggX7_out_X2_sentOut
theorem dX7_out_0 : decode cX7_out 0 = .ok (.iload_n 1, 1) := by decide +kernel
theorem dX7_out_1 : decode cX7_out 1 = .ok (.invokestatic 42, 3) := by decide +kernel
theorem dX7_out_4 : decode cX7_out 4 = .ok (.ifCond .eq 10, 3) := by decide +kernel
theorem dX7_out_7 : decode cX7_out 7 = .ok (.iload_n 2, 1) := by decide +kernel
theorem dX7_out_8 : decode cX7_out 8 = .ok (.invokestatic 42, 3) := by decide +kernel
theorem dX7_out_11 : decode cX7_out 11 = .ok (.ifCond .ne 6, 3) := by decide +kernel
theorem dX7_out_14 : decode cX7_out 14 = .ok (.bipush (-102), 2) := by decide +kernel
theorem dX7_out_16 : decode cX7_out 16 = .ok (.ireturn, 1) := by decide +kernel
theorem dX7_out_17 : decode cX7_out 17 = .ok (.aload_n 0, 1) := by decide +kernel
theorem dX7_out_18 : decode cX7_out 18 = .ok (.getfield 19, 3) := by decide +kernel
theorem dX7_out_21 : decode cX7_out 21 = .ok (.iload_n 1, 1) := by decide +kernel
theorem dX7_out_22 : decode cX7_out 22 = .ok (.iload_n 2, 1) := by decide +kernel
theorem dX7_out_23 : decode cX7_out 23 = .ok (.invokevirtual 84, 3) := by decide +kernel
theorem dX7_out_26 : decode cX7_out 26 = .ok (.ireturn, 1) := by decide +kernel
set_option maxRecDepth 20000 in
theorem ggX7_law_X7_isWithin : GoodIn wsX7_law wsX7_isWithin := goodIn_r _ [6] (by decide +kernel) (by decide +kernel)
set_option maxRecDepth 20000 in
theorem gX7_law_X7_isWithin : GoodIn wsX7_law (va_wsS RX7 61 yX7_isWithin wsX7_isWithin) := goodIn_app (goodIn_of _ (by decide +kernel)) ggX7_law_X7_isWithin
set_option maxRecDepth 20000 in
theorem ggX7_law_X2_lawHolds : GoodIn wsX7_law wsX2_lawHolds := goodIn_r _ [11, 12, 13, 14, 10, 15, 16, 17, 18, 19, 20, 21, 22, 23, 24, 25, 26, 27, 33, 34] (by decide +kernel) (by decide +kernel)
set_option maxRecDepth 20000 in
theorem gX7_law_X2_lawHolds : GoodIn wsX7_law (wsV RX7 90 RX2 yX2_lawHolds wsX2_lawHolds) := goodIn_app (goodIn_of _ (by decide +kernel)) ggX7_law_X2_lawHolds
theorem dX7_law_0 : decode cX7_law 0 = .ok (.iload_n 1, 1) := by decide +kernel
theorem dX7_law_1 : decode cX7_law 1 = .ok (.iconst 0, 1) := by decide +kernel
theorem dX7_law_2 : decode cX7_law 2 = .ok (.bipush 6, 2) := by decide +kernel
theorem dX7_law_4 : decode cX7_law 4 = .ok (.invokestatic 61, 3) := by decide +kernel
theorem dX7_law_7 : decode cX7_law 7 = .ok (.ifCond .ne 6, 3) := by decide +kernel
theorem dX7_law_10 : decode cX7_law 10 = .ok (.bipush (-102), 2) := by decide +kernel
theorem dX7_law_12 : decode cX7_law 12 = .ok (.ireturn, 1) := by decide +kernel
theorem dX7_law_13 : decode cX7_law 13 = .ok (.getstatic 87, 3) := by decide +kernel
theorem dX7_law_16 : decode cX7_law 16 = .ok (.iload_n 1, 1) := by decide +kernel
theorem dX7_law_17 : decode cX7_law 17 = .ok (.iaload, 1) := by decide +kernel
theorem dX7_law_18 : decode cX7_law 18 = .ok (.iconst 1, 1) := by decide +kernel
theorem dX7_law_19 : decode cX7_law 19 = .ok (.if_icmp .le 8, 3) := by decide +kernel
theorem dX7_law_22 : decode cX7_law 22 = .ok (.bipush 15, 2) := by decide +kernel
theorem dX7_law_24 : decode cX7_law 24 = .ok (.goto 4, 3) := by decide +kernel
theorem dX7_law_27 : decode cX7_law 27 = .ok (.iconst 0, 1) := by decide +kernel
theorem dX7_law_28 : decode cX7_law 28 = .ok (.istore_n 2, 1) := by decide +kernel
theorem dX7_law_29 : decode cX7_law 29 = .ok (.getstatic 87, 3) := by decide +kernel
theorem dX7_law_32 : decode cX7_law 32 = .ok (.iload_n 1, 1) := by decide +kernel
theorem dX7_law_33 : decode cX7_law 33 = .ok (.iaload, 1) := by decide +kernel
theorem dX7_law_34 : decode cX7_law 34 = .ok (.iconst 2, 1) := by decide +kernel
theorem dX7_law_35 : decode cX7_law 35 = .ok (.if_icmp .le 8, 3) := by decide +kernel
theorem dX7_law_38 : decode cX7_law 38 = .ok (.bipush 15, 2) := by decide +kernel
theorem dX7_law_40 : decode cX7_law 40 = .ok (.goto 4, 3) := by decide +kernel
theorem dX7_law_43 : decode cX7_law 43 = .ok (.iconst 0, 1) := by decide +kernel
theorem dX7_law_44 : decode cX7_law 44 = .ok (.istore_n 3, 1) := by decide +kernel
theorem dX7_law_45 : decode cX7_law 45 = .ok (.iconst 0, 1) := by decide +kernel
theorem dX7_law_46 : decode cX7_law 46 = .ok (.istore 4, 2) := by decide +kernel
theorem dX7_law_48 : decode cX7_law 48 = .ok (.iload 4, 2) := by decide +kernel
theorem dX7_law_50 : decode cX7_law 50 = .ok (.bipush 15, 2) := by decide +kernel
theorem dX7_law_52 : decode cX7_law 52 = .ok (.if_icmp .gt 72, 3) := by decide +kernel
theorem dX7_law_55 : decode cX7_law 55 = .ok (.iconst 0, 1) := by decide +kernel
theorem dX7_law_56 : decode cX7_law 56 = .ok (.istore 5, 2) := by decide +kernel
theorem dX7_law_58 : decode cX7_law 58 = .ok (.iload 5, 2) := by decide +kernel
theorem dX7_law_60 : decode cX7_law 60 = .ok (.iload_n 2, 1) := by decide +kernel
theorem dX7_law_61 : decode cX7_law 61 = .ok (.if_icmp .gt 57, 3) := by decide +kernel
theorem dX7_law_64 : decode cX7_law 64 = .ok (.iconst 0, 1) := by decide +kernel
theorem dX7_law_65 : decode cX7_law 65 = .ok (.istore 6, 2) := by decide +kernel
theorem dX7_law_67 : decode cX7_law 67 = .ok (.iload 6, 2) := by decide +kernel
theorem dX7_law_69 : decode cX7_law 69 = .ok (.iload_n 3, 1) := by decide +kernel
theorem dX7_law_70 : decode cX7_law 70 = .ok (.if_icmp .gt 42, 3) := by decide +kernel
theorem dX7_law_73 : decode cX7_law 73 = .ok (.aload_n 0, 1) := by decide +kernel
theorem dX7_law_74 : decode cX7_law 74 = .ok (.getfield 19, 3) := by decide +kernel
theorem dX7_law_77 : decode cX7_law 77 = .ok (.iload_n 1, 1) := by decide +kernel
theorem dX7_law_78 : decode cX7_law 78 = .ok (.iload 4, 2) := by decide +kernel
theorem dX7_law_80 : decode cX7_law 80 = .ok (.iload 5, 2) := by decide +kernel
theorem dX7_law_82 : decode cX7_law 82 = .ok (.iload 6, 2) := by decide +kernel
theorem dX7_law_84 : decode cX7_law 84 = .ok (.invokevirtual 90, 3) := by decide +kernel
theorem dX7_law_87 : decode cX7_law 87 = .ok (.ifCond .ne 19, 3) := by decide +kernel
theorem dX7_law_90 : decode cX7_law 90 = .ok (.sipush 256, 3) := by decide +kernel
theorem dX7_law_93 : decode cX7_law 93 = .ok (.iload 4, 2) := by decide +kernel
theorem dX7_law_95 : decode cX7_law 95 = .ok (.imul, 1) := by decide +kernel
theorem dX7_law_96 : decode cX7_law 96 = .ok (.bipush 16, 2) := by decide +kernel
theorem dX7_law_98 : decode cX7_law 98 = .ok (.iload 5, 2) := by decide +kernel
theorem dX7_law_100 : decode cX7_law 100 = .ok (.imul, 1) := by decide +kernel
theorem dX7_law_101 : decode cX7_law 101 = .ok (.iadd, 1) := by decide +kernel
theorem dX7_law_102 : decode cX7_law 102 = .ok (.iload 6, 2) := by decide +kernel
theorem dX7_law_104 : decode cX7_law 104 = .ok (.iadd, 1) := by decide +kernel
theorem dX7_law_105 : decode cX7_law 105 = .ok (.ireturn, 1) := by decide +kernel
theorem dX7_law_106 : decode cX7_law 106 = .ok (.iinc 6 1, 3) := by decide +kernel
theorem dX7_law_109 : decode cX7_law 109 = .ok (.goto (-42), 3) := by decide +kernel
theorem dX7_law_112 : decode cX7_law 112 = .ok (.iinc 5 1, 3) := by decide +kernel
theorem dX7_law_115 : decode cX7_law 115 = .ok (.goto (-57), 3) := by decide +kernel
theorem dX7_law_118 : decode cX7_law 118 = .ok (.iinc 4 1, 3) := by decide +kernel
theorem dX7_law_121 : decode cX7_law 121 = .ok (.goto (-73), 3) := by decide +kernel
theorem dX7_law_124 : decode cX7_law 124 = .ok (.iconst (-1), 1) := by decide +kernel
theorem dX7_law_125 : decode cX7_law 125 = .ok (.ireturn, 1) := by decide +kernel
set_option maxRecDepth 20000 in
theorem ggX7_about_X7_isWithin : GoodIn wsX7_about wsX7_isWithin := goodIn_r _ [10] (by decide +kernel) (by decide +kernel)
set_option maxRecDepth 20000 in
theorem gX7_about_X7_isWithin : GoodIn wsX7_about (va_wsS RX7 61 yX7_isWithin wsX7_isWithin) := goodIn_app (goodIn_of _ (by decide +kernel)) ggX7_about_X7_isWithin
theorem dX7_about_0 : decode cX7_about 0 = .ok (.iload_n 1, 1) := by decide +kernel
theorem dX7_about_1 : decode cX7_about 1 = .ok (.tableswitch 51 0 2 #[27, 35, 43], 27) := by decide +kernel
theorem dX7_about_28 : decode cX7_about 28 = .ok (.aload_n 0, 1) := by decide +kernel
theorem dX7_about_29 : decode cX7_about 29 = .ok (.getfield 10, 3) := by decide +kernel
theorem dX7_about_32 : decode cX7_about 32 = .ok (.getfield 94, 3) := by decide +kernel
theorem dX7_about_35 : decode cX7_about 35 = .ok (.ireturn, 1) := by decide +kernel
theorem dX7_about_36 : decode cX7_about 36 = .ok (.aload_n 0, 1) := by decide +kernel
theorem dX7_about_37 : decode cX7_about 37 = .ok (.getfield 10, 3) := by decide +kernel
theorem dX7_about_40 : decode cX7_about 40 = .ok (.getfield 98, 3) := by decide +kernel
theorem dX7_about_43 : decode cX7_about 43 = .ok (.ireturn, 1) := by decide +kernel
theorem dX7_about_44 : decode cX7_about 44 = .ok (.aload_n 0, 1) := by decide +kernel
theorem dX7_about_45 : decode cX7_about 45 = .ok (.getfield 10, 3) := by decide +kernel
theorem dX7_about_48 : decode cX7_about 48 = .ok (.getfield 101, 3) := by decide +kernel
theorem dX7_about_51 : decode cX7_about 51 = .ok (.ireturn, 1) := by decide +kernel
theorem dX7_about_52 : decode cX7_about 52 = .ok (.iload_n 1, 1) := by decide +kernel
theorem dX7_about_53 : decode cX7_about 53 = .ok (.iconst 3, 1) := by decide +kernel
theorem dX7_about_54 : decode cX7_about 54 = .ok (.bipush 8, 2) := by decide +kernel
theorem dX7_about_56 : decode cX7_about 56 = .ok (.invokestatic 61, 3) := by decide +kernel
theorem dX7_about_59 : decode cX7_about 59 = .ok (.ifCond .eq 17, 3) := by decide +kernel
theorem dX7_about_62 : decode cX7_about 62 = .ok (.aload_n 0, 1) := by decide +kernel
theorem dX7_about_63 : decode cX7_about 63 = .ok (.getfield 19, 3) := by decide +kernel
theorem dX7_about_66 : decode cX7_about 66 = .ok (.getfield 72, 3) := by decide +kernel
theorem dX7_about_69 : decode cX7_about 69 = .ok (.iload_n 1, 1) := by decide +kernel
theorem dX7_about_70 : decode cX7_about 70 = .ok (.iconst 3, 1) := by decide +kernel
theorem dX7_about_71 : decode cX7_about 71 = .ok (.isub, 1) := by decide +kernel
theorem dX7_about_72 : decode cX7_about 72 = .ok (.iaload, 1) := by decide +kernel
theorem dX7_about_73 : decode cX7_about 73 = .ok (.goto 5, 3) := by decide +kernel
theorem dX7_about_76 : decode cX7_about 76 = .ok (.bipush (-102), 2) := by decide +kernel
theorem dX7_about_78 : decode cX7_about 78 = .ok (.ireturn, 1) := by decide +kernel
set_option maxRecDepth 20000 in
theorem ggX7_look_X7_isWithin : GoodIn wsX7_look wsX7_isWithin := goodIn_r _ [8] (by decide +kernel) (by decide +kernel)
set_option maxRecDepth 20000 in
theorem gX7_look_X7_isWithin : GoodIn wsX7_look (va_wsS RX7 61 yX7_isWithin wsX7_isWithin) := goodIn_app (goodIn_of _ (by decide +kernel)) ggX7_look_X7_isWithin
set_option maxRecDepth 20000 in
theorem ggX7_look_X1_allArcs : GoodIn wsX7_look wsX1_allArcs := goodIn_r _ [13, 14, 253, 254, 255, 256, 257, 258, 259, 260, 261] (by decide +kernel) (by decide +kernel)
set_option maxRecDepth 20000 in
theorem gX7_look_X1_allArcs : GoodIn wsX7_look (wsV RX7 104 RX1 yX1_allArcs wsX1_allArcs) := goodIn_app (goodIn_of _ (by decide +kernel)) ggX7_look_X1_allArcs
set_option maxRecDepth 20000 in
theorem ggX7_look_X3_run : GoodIn wsX7_look wsX3_run := goodIn_r _ [19, 20, 21, 22, 23, 24, 25, 26, 27, 28, 29, 30, 31, 32, 33, 34, 35, 36, 37, 38, 39, 40, 41, 42, 43, 44, 45, 46, 47, 48, 49, 50, 51, 52, 53, 54, 55, 56, 57, 58, 59, 60, 61, 62, 63, 64, 65, 66, 67, 68, 69, 18, 70, 71, 72, 73, 74, 75, 76, 77, 78, 79, 80, 81, 82, 83, 84, 85, 86, 87, 88, 89, 90, 91, 92, 93, 94, 95, 96, 97, 98, 99, 100, 101, 102, 103, 104, 105, 106, 107, 108, 109, 110, 111, 112, 113, 114, 115, 116, 117, 118, 119, 120, 121, 122, 123, 124, 125, 126, 127, 128, 129, 130, 131, 132, 133, 134, 135, 136, 137, 138, 139, 140, 141, 142, 143, 144, 145, 146, 147, 148, 149, 150, 151, 152, 153, 154, 155, 156, 157, 158, 159, 160, 161, 162, 163, 164, 165, 166, 167, 168, 169, 170, 171, 172, 173, 174, 175, 176, 177, 178, 179, 180, 181, 182, 183, 184, 185, 186, 187, 188, 189, 190, 191, 192, 193, 194, 195, 196, 197, 198, 199, 200, 201, 202, 203, 204, 205, 206, 207, 208, 209, 210, 211, 212, 213, 214, 215, 216, 217, 218, 219, 220, 221, 222, 223, 224, 225, 226, 227, 228, 229, 230, 231, 232, 233, 234, 235, 236, 237, 262, 263, 264, 265, 266, 267, 268, 269, 270, 253, 254, 255, 256, 257, 258, 259, 260, 261, 271, 272, 273, 274, 275, 276, 277, 243, 244, 245, 246, 247, 248, 249, 250, 251, 252, 278, 279, 280] (by decide +kernel) (by decide +kernel)
set_option maxRecDepth 20000 in
theorem gX7_look_X3_run : GoodIn wsX7_look (wsV RX7 108 RX3 yX3_run wsX3_run) := goodIn_app (goodIn_of _ (by decide +kernel)) ggX7_look_X3_run
theorem dX7_look_0 : decode cX7_look 0 = .ok (.iload_n 1, 1) := by decide +kernel
theorem dX7_look_1 : decode cX7_look 1 = .ok (.iconst 1, 1) := by decide +kernel
theorem dX7_look_2 : decode cX7_look 2 = .ok (.sipush 600, 3) := by decide +kernel
theorem dX7_look_5 : decode cX7_look 5 = .ok (.invokestatic 61, 3) := by decide +kernel
theorem dX7_look_8 : decode cX7_look 8 = .ok (.ifCond .ne 6, 3) := by decide +kernel
theorem dX7_look_11 : decode cX7_look 11 = .ok (.bipush (-102), 2) := by decide +kernel
theorem dX7_look_13 : decode cX7_look 13 = .ok (.ireturn, 1) := by decide +kernel
theorem dX7_look_14 : decode cX7_look 14 = .ok (.aload_n 0, 1) := by decide +kernel
theorem dX7_look_15 : decode cX7_look 15 = .ok (.getfield 38, 3) := by decide +kernel
theorem dX7_look_18 : decode cX7_look 18 = .ok (.iload_n 1, 1) := by decide +kernel
theorem dX7_look_19 : decode cX7_look 19 = .ok (.aload_n 0, 1) := by decide +kernel
theorem dX7_look_20 : decode cX7_look 20 = .ok (.getfield 10, 3) := by decide +kernel
theorem dX7_look_23 : decode cX7_look 23 = .ok (.invokevirtual 104, 3) := by decide +kernel
theorem dX7_look_26 : decode cX7_look 26 = .ok (.aload_n 0, 1) := by decide +kernel
theorem dX7_look_27 : decode cX7_look 27 = .ok (.getfield 26, 3) := by decide +kernel
theorem dX7_look_30 : decode cX7_look 30 = .ok (.invokevirtual 108, 3) := by decide +kernel
theorem dX7_look_33 : decode cX7_look 33 = .ok (.aload_n 0, 1) := by decide +kernel
theorem dX7_look_34 : decode cX7_look 34 = .ok (.getfield 26, 3) := by decide +kernel
theorem dX7_look_37 : decode cX7_look 37 = .ok (.getfield 112, 3) := by decide +kernel
theorem dX7_look_40 : decode cX7_look 40 = .ok (.ireturn, 1) := by decide +kernel
set_option maxRecDepth 20000 in
theorem ggX7_looked_X7_isWithin : GoodIn wsX7_looked wsX7_isWithin := goodIn_r _ [10] (by decide +kernel) (by decide +kernel)
set_option maxRecDepth 20000 in
theorem gX7_looked_X7_isWithin : GoodIn wsX7_looked (va_wsS RX7 61 yX7_isWithin wsX7_isWithin) := goodIn_app (goodIn_of _ (by decide +kernel)) ggX7_looked_X7_isWithin
theorem dX7_looked_0 : decode cX7_looked 0 = .ok (.iload_n 1, 1) := by decide +kernel
theorem dX7_looked_1 : decode cX7_looked 1 = .ok (.iconst 0, 1) := by decide +kernel
theorem dX7_looked_2 : decode cX7_looked 2 = .ok (.iconst 3, 1) := by decide +kernel
theorem dX7_looked_3 : decode cX7_looked 3 = .ok (.invokestatic 61, 3) := by decide +kernel
theorem dX7_looked_6 : decode cX7_looked 6 = .ok (.ifCond .ne 6, 3) := by decide +kernel
theorem dX7_looked_9 : decode cX7_looked 9 = .ok (.bipush (-102), 2) := by decide +kernel
theorem dX7_looked_11 : decode cX7_looked 11 = .ok (.ireturn, 1) := by decide +kernel
theorem dX7_looked_12 : decode cX7_looked 12 = .ok (.aload_n 0, 1) := by decide +kernel
theorem dX7_looked_13 : decode cX7_looked 13 = .ok (.getfield 26, 3) := by decide +kernel
theorem dX7_looked_16 : decode cX7_looked 16 = .ok (.getfield 112, 3) := by decide +kernel
theorem dX7_looked_19 : decode cX7_looked 19 = .ok (.ifCond .ne 5, 3) := by decide +kernel
theorem dX7_looked_22 : decode cX7_looked 22 = .ok (.iconst (-1), 1) := by decide +kernel
theorem dX7_looked_23 : decode cX7_looked 23 = .ok (.ireturn, 1) := by decide +kernel
theorem dX7_looked_24 : decode cX7_looked 24 = .ok (.iload_n 1, 1) := by decide +kernel
theorem dX7_looked_25 : decode cX7_looked 25 = .ok (.tableswitch 59 0 2 #[27, 43, 51], 27) := by decide +kernel
theorem dX7_looked_52 : decode cX7_looked 52 = .ok (.aload_n 0, 1) := by decide +kernel
theorem dX7_looked_53 : decode cX7_looked 53 = .ok (.getfield 26, 3) := by decide +kernel
theorem dX7_looked_56 : decode cX7_looked 56 = .ok (.getfield 115, 3) := by decide +kernel
theorem dX7_looked_59 : decode cX7_looked 59 = .ok (.ifCond .eq 7, 3) := by decide +kernel
theorem dX7_looked_62 : decode cX7_looked 62 = .ok (.iconst 1, 1) := by decide +kernel
theorem dX7_looked_63 : decode cX7_looked 63 = .ok (.goto 4, 3) := by decide +kernel
theorem dX7_looked_66 : decode cX7_looked 66 = .ok (.iconst 0, 1) := by decide +kernel
theorem dX7_looked_67 : decode cX7_looked 67 = .ok (.ireturn, 1) := by decide +kernel
theorem dX7_looked_68 : decode cX7_looked 68 = .ok (.aload_n 0, 1) := by decide +kernel
theorem dX7_looked_69 : decode cX7_looked 69 = .ok (.getfield 26, 3) := by decide +kernel
theorem dX7_looked_72 : decode cX7_looked 72 = .ok (.getfield 119, 3) := by decide +kernel
theorem dX7_looked_75 : decode cX7_looked 75 = .ok (.ireturn, 1) := by decide +kernel
theorem dX7_looked_76 : decode cX7_looked 76 = .ok (.aload_n 0, 1) := by decide +kernel
theorem dX7_looked_77 : decode cX7_looked 77 = .ok (.getfield 26, 3) := by decide +kernel
theorem dX7_looked_80 : decode cX7_looked 80 = .ok (.getfield 122, 3) := by decide +kernel
theorem dX7_looked_83 : decode cX7_looked 83 = .ok (.ireturn, 1) := by decide +kernel
theorem dX7_looked_84 : decode cX7_looked 84 = .ok (.aload_n 0, 1) := by decide +kernel
theorem dX7_looked_85 : decode cX7_looked 85 = .ok (.getfield 26, 3) := by decide +kernel
theorem dX7_looked_88 : decode cX7_looked 88 = .ok (.getfield 125, 3) := by decide +kernel
theorem dX7_looked_91 : decode cX7_looked 91 = .ok (.ireturn, 1) := by decide +kernel
set_option maxRecDepth 20000 in
theorem ggX7_end_X0_hasEnd : GoodIn wsX7_end wsX0_hasEnd := goodIn_r _ [8, 9, 19, 20, 21, 22, 23, 24, 25, 26, 27, 28] (by decide +kernel) (by decide +kernel)
set_option maxRecDepth 20000 in
theorem gX7_end_X0_hasEnd : GoodIn wsX7_end (wsV RX7 128 RX0 yX0_hasEnd wsX0_hasEnd) := goodIn_app (goodIn_of _ (by decide +kernel)) ggX7_end_X0_hasEnd
set_option maxRecDepth 20000 in
theorem ggX7_end_X7_isWithin : GoodIn wsX7_end wsX7_isWithin := goodIn_r _ [13] (by decide +kernel) (by decide +kernel)
set_option maxRecDepth 20000 in
theorem gX7_end_X7_isWithin : GoodIn wsX7_end (va_wsS RX7 61 yX7_isWithin wsX7_isWithin) := goodIn_app (goodIn_of _ (by decide +kernel)) ggX7_end_X7_isWithin
theorem dX7_end_0 : decode cX7_end 0 = .ok (.aload_n 0, 1) := by decide +kernel
theorem dX7_end_1 : decode cX7_end 1 = .ok (.getfield 26, 3) := by decide +kernel
theorem dX7_end_4 : decode cX7_end 4 = .ok (.iload_n 1, 1) := by decide +kernel
theorem dX7_end_5 : decode cX7_end 5 = .ok (.invokevirtual 128, 3) := by decide +kernel
theorem dX7_end_8 : decode cX7_end 8 = .ok (.ifCond .eq 20, 3) := by decide +kernel
theorem dX7_end_11 : decode cX7_end 11 = .ok (.iload_n 2, 1) := by decide +kernel
theorem dX7_end_12 : decode cX7_end 12 = .ok (.iconst 0, 1) := by decide +kernel
theorem dX7_end_13 : decode cX7_end 13 = .ok (.aload_n 0, 1) := by decide +kernel
theorem dX7_end_14 : decode cX7_end 14 = .ok (.getfield 26, 3) := by decide +kernel
theorem dX7_end_17 : decode cX7_end 17 = .ok (.getfield 131, 3) := by decide +kernel
theorem dX7_end_20 : decode cX7_end 20 = .ok (.iconst 1, 1) := by decide +kernel
theorem dX7_end_21 : decode cX7_end 21 = .ok (.isub, 1) := by decide +kernel
theorem dX7_end_22 : decode cX7_end 22 = .ok (.invokestatic 61, 3) := by decide +kernel
theorem dX7_end_25 : decode cX7_end 25 = .ok (.ifCond .ne 6, 3) := by decide +kernel
theorem dX7_end_28 : decode cX7_end 28 = .ok (.bipush (-101), 2) := by decide +kernel
theorem dX7_end_30 : decode cX7_end 30 = .ok (.ireturn, 1) := by decide +kernel
theorem dX7_end_31 : decode cX7_end 31 = .ok (.aload_n 0, 1) := by decide +kernel
theorem dX7_end_32 : decode cX7_end 32 = .ok (.getfield 26, 3) := by decide +kernel
theorem dX7_end_35 : decode cX7_end 35 = .ok (.getfield 132, 3) := by decide +kernel
theorem dX7_end_38 : decode cX7_end 38 = .ok (.iload_n 1, 1) := by decide +kernel
theorem dX7_end_39 : decode cX7_end 39 = .ok (.iaload, 1) := by decide +kernel
theorem dX7_end_40 : decode cX7_end 40 = .ok (.iconst 4, 1) := by decide +kernel
theorem dX7_end_41 : decode cX7_end 41 = .ok (.iload_n 2, 1) := by decide +kernel
theorem dX7_end_42 : decode cX7_end 42 = .ok (.imul, 1) := by decide +kernel
theorem dX7_end_43 : decode cX7_end 43 = .ok (.iushr, 1) := by decide +kernel
theorem dX7_end_44 : decode cX7_end 44 = .ok (.bipush 15, 2) := by decide +kernel
theorem dX7_end_46 : decode cX7_end 46 = .ok (.iand, 1) := by decide +kernel
theorem dX7_end_47 : decode cX7_end 47 = .ok (.ireturn, 1) := by decide +kernel
set_option maxRecDepth 20000 in
theorem ggX7_way_X0_hasEnd : GoodIn wsX7_way wsX0_hasEnd := goodIn_r _ [6, 7, 38, 39, 40, 41, 42, 43, 44, 45, 46, 47] (by decide +kernel) (by decide +kernel)
set_option maxRecDepth 20000 in
theorem gX7_way_X0_hasEnd : GoodIn wsX7_way (wsV RX7 128 RX0 yX0_hasEnd wsX0_hasEnd) := goodIn_app (goodIn_of _ (by decide +kernel)) ggX7_way_X0_hasEnd
set_option maxRecDepth 20000 in
theorem ggX7_way_X0_wayLength : GoodIn wsX7_way wsX0_wayLength := goodIn_r _ [11, 12, 13, 38, 39, 40, 41, 42, 43, 44, 45, 46, 47] (by decide +kernel) (by decide +kernel)
set_option maxRecDepth 20000 in
theorem gX7_way_X0_wayLength : GoodIn wsX7_way (wsV RX7 135 RX0 yX0_wayLength wsX0_wayLength) := goodIn_app (goodIn_of _ (by decide +kernel)) ggX7_way_X0_wayLength
set_option maxRecDepth 20000 in
theorem ggX7_way_X7_isWithin : GoodIn wsX7_way wsX7_isWithin := goodIn_r _ [17] (by decide +kernel) (by decide +kernel)
set_option maxRecDepth 20000 in
theorem gX7_way_X7_isWithin : GoodIn wsX7_way (va_wsS RX7 61 yX7_isWithin wsX7_isWithin) := goodIn_app (goodIn_of _ (by decide +kernel)) ggX7_way_X7_isWithin
set_option maxRecDepth 20000 in
theorem ggX7_way_X0_stepBefore : GoodIn wsX7_way wsX0_stepBefore := goodIn_r _ [21, 12, 13, 22, 38, 39, 40, 41, 42, 43, 44, 45, 46, 47] (by decide +kernel) (by decide +kernel)
set_option maxRecDepth 20000 in
theorem gX7_way_X0_stepBefore : GoodIn wsX7_way (wsV RX7 138 RX0 yX0_stepBefore wsX0_stepBefore) := goodIn_app (goodIn_of _ (by decide +kernel)) ggX7_way_X0_stepBefore
set_option maxRecDepth 20000 in
theorem ggX7_way_X6_source : GoodIn wsX7_way wsX6_source := goodIn_r _ [26] (by decide +kernel) (by decide +kernel)
set_option maxRecDepth 20000 in
theorem gX7_way_X6_source : GoodIn wsX7_way (va_wsS RX7 141 yX6_source wsX6_source) := goodIn_app (goodIn_of _ (by decide +kernel)) ggX7_way_X6_source
set_option maxRecDepth 20000 in
theorem ggX7_way_X6_message : GoodIn wsX7_way wsX6_message := goodIn_r _ [29] (by decide +kernel) (by decide +kernel)
set_option maxRecDepth 20000 in
theorem gX7_way_X6_message : GoodIn wsX7_way (va_wsS RX7 146 yX6_message wsX6_message) := goodIn_app (goodIn_of _ (by decide +kernel)) ggX7_way_X6_message
set_option maxRecDepth 20000 in
theorem ggX7_way_X6_doubled : GoodIn wsX7_way wsX6_doubled := goodIn_r _ [32] (by decide +kernel) (by decide +kernel)
set_option maxRecDepth 20000 in
theorem gX7_way_X6_doubled : GoodIn wsX7_way (va_wsS RX7 149 yX6_doubled wsX6_doubled) := goodIn_app (goodIn_of _ (by decide +kernel)) ggX7_way_X6_doubled
theorem dX7_way_0 : decode cX7_way 0 = .ok (.aload_n 0, 1) := by decide +kernel
theorem dX7_way_1 : decode cX7_way 1 = .ok (.getfield 26, 3) := by decide +kernel
theorem dX7_way_4 : decode cX7_way 4 = .ok (.iload_n 1, 1) := by decide +kernel
theorem dX7_way_5 : decode cX7_way 5 = .ok (.invokevirtual 128, 3) := by decide +kernel
theorem dX7_way_8 : decode cX7_way 8 = .ok (.ifCond .ne 6, 3) := by decide +kernel
theorem dX7_way_11 : decode cX7_way 11 = .ok (.bipush (-101), 2) := by decide +kernel
theorem dX7_way_13 : decode cX7_way 13 = .ok (.ireturn, 1) := by decide +kernel
theorem dX7_way_14 : decode cX7_way 14 = .ok (.aload_n 0, 1) := by decide +kernel
theorem dX7_way_15 : decode cX7_way 15 = .ok (.getfield 26, 3) := by decide +kernel
theorem dX7_way_18 : decode cX7_way 18 = .ok (.iload_n 1, 1) := by decide +kernel
theorem dX7_way_19 : decode cX7_way 19 = .ok (.invokevirtual 135, 3) := by decide +kernel
theorem dX7_way_22 : decode cX7_way 22 = .ok (.istore 4, 2) := by decide +kernel
theorem dX7_way_24 : decode cX7_way 24 = .ok (.iload_n 2, 1) := by decide +kernel
theorem dX7_way_25 : decode cX7_way 25 = .ok (.iconst (-1), 1) := by decide +kernel
theorem dX7_way_26 : decode cX7_way 26 = .ok (.if_icmp .ne 6, 3) := by decide +kernel
theorem dX7_way_29 : decode cX7_way 29 = .ok (.iload 4, 2) := by decide +kernel
theorem dX7_way_31 : decode cX7_way 31 = .ok (.ireturn, 1) := by decide +kernel
theorem dX7_way_32 : decode cX7_way 32 = .ok (.iload_n 2, 1) := by decide +kernel
theorem dX7_way_33 : decode cX7_way 33 = .ok (.iconst 0, 1) := by decide +kernel
theorem dX7_way_34 : decode cX7_way 34 = .ok (.iload 4, 2) := by decide +kernel
theorem dX7_way_36 : decode cX7_way 36 = .ok (.iconst 1, 1) := by decide +kernel
theorem dX7_way_37 : decode cX7_way 37 = .ok (.isub, 1) := by decide +kernel
theorem dX7_way_38 : decode cX7_way 38 = .ok (.invokestatic 61, 3) := by decide +kernel
theorem dX7_way_41 : decode cX7_way 41 = .ok (.ifCond .ne 6, 3) := by decide +kernel
theorem dX7_way_44 : decode cX7_way 44 = .ok (.bipush (-101), 2) := by decide +kernel
theorem dX7_way_46 : decode cX7_way 46 = .ok (.ireturn, 1) := by decide +kernel
theorem dX7_way_47 : decode cX7_way 47 = .ok (.aload_n 0, 1) := by decide +kernel
theorem dX7_way_48 : decode cX7_way 48 = .ok (.getfield 26, 3) := by decide +kernel
theorem dX7_way_51 : decode cX7_way 51 = .ok (.iload_n 1, 1) := by decide +kernel
theorem dX7_way_52 : decode cX7_way 52 = .ok (.iload 4, 2) := by decide +kernel
theorem dX7_way_54 : decode cX7_way 54 = .ok (.iconst 1, 1) := by decide +kernel
theorem dX7_way_55 : decode cX7_way 55 = .ok (.isub, 1) := by decide +kernel
theorem dX7_way_56 : decode cX7_way 56 = .ok (.iload_n 2, 1) := by decide +kernel
theorem dX7_way_57 : decode cX7_way 57 = .ok (.isub, 1) := by decide +kernel
theorem dX7_way_58 : decode cX7_way 58 = .ok (.invokevirtual 138, 3) := by decide +kernel
theorem dX7_way_61 : decode cX7_way 61 = .ok (.istore 5, 2) := by decide +kernel
theorem dX7_way_63 : decode cX7_way 63 = .ok (.iload_n 3, 1) := by decide +kernel
theorem dX7_way_64 : decode cX7_way 64 = .ok (.tableswitch 46 0 2 #[28, 34, 40], 28) := by decide +kernel
theorem dX7_way_92 : decode cX7_way 92 = .ok (.iload 5, 2) := by decide +kernel
theorem dX7_way_94 : decode cX7_way 94 = .ok (.invokestatic 141, 3) := by decide +kernel
theorem dX7_way_97 : decode cX7_way 97 = .ok (.ireturn, 1) := by decide +kernel
theorem dX7_way_98 : decode cX7_way 98 = .ok (.iload 5, 2) := by decide +kernel
theorem dX7_way_100 : decode cX7_way 100 = .ok (.invokestatic 146, 3) := by decide +kernel
theorem dX7_way_103 : decode cX7_way 103 = .ok (.ireturn, 1) := by decide +kernel
theorem dX7_way_104 : decode cX7_way 104 = .ok (.iload 5, 2) := by decide +kernel
theorem dX7_way_106 : decode cX7_way 106 = .ok (.invokestatic 149, 3) := by decide +kernel
theorem dX7_way_109 : decode cX7_way 109 = .ok (.ireturn, 1) := by decide +kernel
theorem dX7_way_110 : decode cX7_way 110 = .ok (.bipush (-102), 2) := by decide +kernel
theorem dX7_way_112 : decode cX7_way 112 = .ok (.ireturn, 1) := by decide +kernel
set_option maxRecDepth 20000 in
theorem ggX7_shrink_X7_isWithin : GoodIn wsX7_shrink wsX7_isWithin := goodIn_r _ [9] (by decide +kernel) (by decide +kernel)
set_option maxRecDepth 20000 in
theorem gX7_shrink_X7_isWithin : GoodIn wsX7_shrink (va_wsS RX7 61 yX7_isWithin wsX7_isWithin) := goodIn_app (goodIn_of _ (by decide +kernel)) ggX7_shrink_X7_isWithin
set_option maxRecDepth 20000 in
theorem ggX7_shrink_X1_allArcs : GoodIn wsX7_shrink wsX1_allArcs := goodIn_r _ [14, 15, 254, 255, 256, 257, 258, 259, 260, 261, 262] (by decide +kernel) (by decide +kernel)
set_option maxRecDepth 20000 in
theorem gX7_shrink_X1_allArcs : GoodIn wsX7_shrink (wsV RX7 104 RX1 yX1_allArcs wsX1_allArcs) := goodIn_app (goodIn_of _ (by decide +kernel)) ggX7_shrink_X1_allArcs
set_option maxRecDepth 20000 in
theorem ggX7_shrink_X3_run : GoodIn wsX7_shrink wsX3_run := goodIn_r _ [20, 21, 22, 23, 24, 25, 26, 27, 28, 29, 30, 31, 32, 33, 34, 35, 36, 37, 38, 39, 40, 41, 42, 43, 44, 45, 46, 47, 48, 49, 50, 51, 52, 53, 54, 55, 56, 57, 58, 59, 60, 61, 62, 63, 64, 65, 66, 67, 68, 69, 70, 19, 71, 72, 73, 74, 75, 76, 77, 78, 79, 80, 81, 82, 83, 84, 85, 86, 87, 88, 89, 90, 91, 92, 93, 94, 95, 96, 97, 98, 99, 100, 101, 102, 103, 104, 105, 106, 107, 108, 109, 110, 111, 112, 113, 114, 115, 116, 117, 118, 119, 120, 121, 122, 123, 124, 125, 126, 127, 128, 129, 130, 131, 132, 133, 134, 135, 136, 137, 138, 139, 140, 141, 142, 143, 144, 145, 146, 147, 148, 149, 150, 151, 152, 153, 154, 155, 156, 157, 158, 159, 160, 161, 162, 163, 164, 165, 166, 167, 168, 169, 170, 171, 172, 173, 174, 175, 176, 177, 178, 179, 180, 181, 182, 183, 184, 185, 186, 187, 188, 189, 190, 191, 192, 193, 194, 195, 196, 197, 198, 199, 200, 201, 202, 203, 204, 205, 206, 207, 208, 209, 210, 211, 212, 213, 214, 215, 216, 217, 218, 219, 220, 221, 222, 223, 224, 225, 226, 227, 228, 229, 230, 231, 232, 233, 234, 235, 236, 237, 238, 263, 264, 265, 266, 267, 268, 269, 270, 271, 254, 255, 256, 257, 258, 259, 260, 261, 262, 272, 273, 274, 275, 276, 277, 278, 244, 245, 246, 247, 248, 249, 250, 251, 252, 253, 279, 280, 281] (by decide +kernel) (by decide +kernel)
set_option maxRecDepth 20000 in
theorem gX7_shrink_X3_run : GoodIn wsX7_shrink (wsV RX7 108 RX3 yX3_run wsX3_run) := goodIn_app (goodIn_of _ (by decide +kernel)) ggX7_shrink_X3_run
theorem dX7_shrink_0 : decode cX7_shrink 0 = .ok (.iload_n 1, 1) := by decide +kernel
theorem dX7_shrink_1 : decode cX7_shrink 1 = .ok (.iconst 1, 1) := by decide +kernel
theorem dX7_shrink_2 : decode cX7_shrink 2 = .ok (.sipush 600, 3) := by decide +kernel
theorem dX7_shrink_5 : decode cX7_shrink 5 = .ok (.invokestatic 61, 3) := by decide +kernel
theorem dX7_shrink_8 : decode cX7_shrink 8 = .ok (.ifCond .ne 6, 3) := by decide +kernel
theorem dX7_shrink_11 : decode cX7_shrink 11 = .ok (.bipush (-102), 2) := by decide +kernel
theorem dX7_shrink_13 : decode cX7_shrink 13 = .ok (.ireturn, 1) := by decide +kernel
theorem dX7_shrink_14 : decode cX7_shrink 14 = .ok (.aload_n 0, 1) := by decide +kernel
theorem dX7_shrink_15 : decode cX7_shrink 15 = .ok (.getfield 10, 3) := by decide +kernel
theorem dX7_shrink_18 : decode cX7_shrink 18 = .ok (.invokevirtual 104, 3) := by decide +kernel
theorem dX7_shrink_21 : decode cX7_shrink 21 = .ok (.istore_n 2, 1) := by decide +kernel
theorem dX7_shrink_22 : decode cX7_shrink 22 = .ok (.aload_n 0, 1) := by decide +kernel
theorem dX7_shrink_23 : decode cX7_shrink 23 = .ok (.getfield 38, 3) := by decide +kernel
theorem dX7_shrink_26 : decode cX7_shrink 26 = .ok (.iload_n 1, 1) := by decide +kernel
theorem dX7_shrink_27 : decode cX7_shrink 27 = .ok (.iload_n 2, 1) := by decide +kernel
theorem dX7_shrink_28 : decode cX7_shrink 28 = .ok (.aload_n 0, 1) := by decide +kernel
theorem dX7_shrink_29 : decode cX7_shrink 29 = .ok (.getfield 30, 3) := by decide +kernel
theorem dX7_shrink_32 : decode cX7_shrink 32 = .ok (.invokevirtual 108, 3) := by decide +kernel
theorem dX7_shrink_35 : decode cX7_shrink 35 = .ok (.aload_n 0, 1) := by decide +kernel
theorem dX7_shrink_36 : decode cX7_shrink 36 = .ok (.getfield 30, 3) := by decide +kernel
theorem dX7_shrink_39 : decode cX7_shrink 39 = .ok (.getfield 119, 3) := by decide +kernel
theorem dX7_shrink_42 : decode cX7_shrink 42 = .ok (.iconst 2, 1) := by decide +kernel
theorem dX7_shrink_43 : decode cX7_shrink 43 = .ok (.if_icmp .ge 5, 3) := by decide +kernel
theorem dX7_shrink_46 : decode cX7_shrink 46 = .ok (.iconst (-1), 1) := by decide +kernel
theorem dX7_shrink_47 : decode cX7_shrink 47 = .ok (.ireturn, 1) := by decide +kernel
theorem dX7_shrink_48 : decode cX7_shrink 48 = .ok (.iconst 0, 1) := by decide +kernel
theorem dX7_shrink_49 : decode cX7_shrink 49 = .ok (.istore_n 3, 1) := by decide +kernel
theorem dX7_shrink_50 : decode cX7_shrink 50 = .ok (.iload_n 3, 1) := by decide +kernel
theorem dX7_shrink_51 : decode cX7_shrink 51 = .ok (.aload_n 0, 1) := by decide +kernel
theorem dX7_shrink_52 : decode cX7_shrink 52 = .ok (.getfield 10, 3) := by decide +kernel
theorem dX7_shrink_55 : decode cX7_shrink 55 = .ok (.getfield 98, 3) := by decide +kernel
theorem dX7_shrink_58 : decode cX7_shrink 58 = .ok (.if_icmp .ge 46, 3) := by decide +kernel
theorem dX7_shrink_61 : decode cX7_shrink 61 = .ok (.iload_n 2, 1) := by decide +kernel
theorem dX7_shrink_62 : decode cX7_shrink 62 = .ok (.iconst 1, 1) := by decide +kernel
theorem dX7_shrink_63 : decode cX7_shrink 63 = .ok (.iload_n 3, 1) := by decide +kernel
theorem dX7_shrink_64 : decode cX7_shrink 64 = .ok (.ishl, 1) := by decide +kernel
theorem dX7_shrink_65 : decode cX7_shrink 65 = .ok (.iconst (-1), 1) := by decide +kernel
theorem dX7_shrink_66 : decode cX7_shrink 66 = .ok (.ixor, 1) := by decide +kernel
theorem dX7_shrink_67 : decode cX7_shrink 67 = .ok (.iand, 1) := by decide +kernel
theorem dX7_shrink_68 : decode cX7_shrink 68 = .ok (.istore 4, 2) := by decide +kernel
theorem dX7_shrink_70 : decode cX7_shrink 70 = .ok (.aload_n 0, 1) := by decide +kernel
theorem dX7_shrink_71 : decode cX7_shrink 71 = .ok (.getfield 38, 3) := by decide +kernel
theorem dX7_shrink_74 : decode cX7_shrink 74 = .ok (.iload_n 1, 1) := by decide +kernel
theorem dX7_shrink_75 : decode cX7_shrink 75 = .ok (.iload 4, 2) := by decide +kernel
theorem dX7_shrink_77 : decode cX7_shrink 77 = .ok (.aload_n 0, 1) := by decide +kernel
theorem dX7_shrink_78 : decode cX7_shrink 78 = .ok (.getfield 30, 3) := by decide +kernel
theorem dX7_shrink_81 : decode cX7_shrink 81 = .ok (.invokevirtual 108, 3) := by decide +kernel
theorem dX7_shrink_84 : decode cX7_shrink 84 = .ok (.aload_n 0, 1) := by decide +kernel
theorem dX7_shrink_85 : decode cX7_shrink 85 = .ok (.getfield 30, 3) := by decide +kernel
theorem dX7_shrink_88 : decode cX7_shrink 88 = .ok (.getfield 119, 3) := by decide +kernel
theorem dX7_shrink_91 : decode cX7_shrink 91 = .ok (.iconst 2, 1) := by decide +kernel
theorem dX7_shrink_92 : decode cX7_shrink 92 = .ok (.if_icmp .lt 6, 3) := by decide +kernel
theorem dX7_shrink_95 : decode cX7_shrink 95 = .ok (.iload 4, 2) := by decide +kernel
theorem dX7_shrink_97 : decode cX7_shrink 97 = .ok (.istore_n 2, 1) := by decide +kernel
theorem dX7_shrink_98 : decode cX7_shrink 98 = .ok (.iinc 3 1, 3) := by decide +kernel
theorem dX7_shrink_101 : decode cX7_shrink 101 = .ok (.goto (-51), 3) := by decide +kernel
theorem dX7_shrink_104 : decode cX7_shrink 104 = .ok (.iload_n 2, 1) := by decide +kernel
theorem dX7_shrink_105 : decode cX7_shrink 105 = .ok (.ireturn, 1) := by decide +kernel
theorem dX7_isWithin_0 : decode cX7_isWithin 0 = .ok (.iload_n 0, 1) := by decide +kernel
theorem dX7_isWithin_1 : decode cX7_isWithin 1 = .ok (.iload_n 1, 1) := by decide +kernel
theorem dX7_isWithin_2 : decode cX7_isWithin 2 = .ok (.if_icmp .lt 12, 3) := by decide +kernel
theorem dX7_isWithin_5 : decode cX7_isWithin 5 = .ok (.iload_n 0, 1) := by decide +kernel
theorem dX7_isWithin_6 : decode cX7_isWithin 6 = .ok (.iload_n 2, 1) := by decide +kernel
theorem dX7_isWithin_7 : decode cX7_isWithin 7 = .ok (.if_icmp .gt 7, 3) := by decide +kernel
theorem dX7_isWithin_10 : decode cX7_isWithin 10 = .ok (.iconst 1, 1) := by decide +kernel
theorem dX7_isWithin_11 : decode cX7_isWithin 11 = .ok (.goto 4, 3) := by decide +kernel
theorem dX7_isWithin_14 : decode cX7_isWithin 14 = .ok (.iconst 0, 1) := by decide +kernel
theorem dX7_isWithin_15 : decode cX7_isWithin 15 = .ok (.ireturn, 1) := by decide +kernel
theorem dX7_isValue_0 : decode cX7_isValue 0 = .ok (.iload_n 0, 1) := by decide +kernel
theorem dX7_isValue_1 : decode cX7_isValue 1 = .ok (.ifCond .lt 13, 3) := by decide +kernel
theorem dX7_isValue_4 : decode cX7_isValue 4 = .ok (.iload_n 0, 1) := by decide +kernel
theorem dX7_isValue_5 : decode cX7_isValue 5 = .ok (.bipush 15, 2) := by decide +kernel
theorem dX7_isValue_7 : decode cX7_isValue 7 = .ok (.if_icmp .gt 7, 3) := by decide +kernel
theorem dX7_isValue_10 : decode cX7_isValue 10 = .ok (.iconst 1, 1) := by decide +kernel
theorem dX7_isValue_11 : decode cX7_isValue 11 = .ok (.goto 4, 3) := by decide +kernel
theorem dX7_isValue_14 : decode cX7_isValue 14 = .ok (.iconst 0, 1) := by decide +kernel
theorem dX7_isValue_15 : decode cX7_isValue 15 = .ok (.ireturn, 1) := by decide +kernel
theorem dX8_init_0 : decode cX8_init 0 = .ok (.aload_n 0, 1) := by decide +kernel
theorem dX8_init_1 : decode cX8_init 1 = .ok (.invokespecial 1, 3) := by decide +kernel
theorem dX8_init_4 : decode cX8_init 4 = .ok (.aload_n 0, 1) := by decide +kernel
theorem dX8_init_5 : decode cX8_init 5 = .ok (.iconst 5, 1) := by decide +kernel
theorem dX8_init_6 : decode cX8_init 6 = .ok (.newarray .int, 2) := by decide +kernel
theorem dX8_init_8 : decode cX8_init 8 = .ok (.putfield 7, 3) := by decide +kernel
theorem dX8_init_11 : decode cX8_init 11 = .ok (.aload_n 0, 1) := by decide +kernel
theorem dX8_init_12 : decode cX8_init 12 = .ok (.bipush 8, 2) := by decide +kernel
theorem dX8_init_14 : decode cX8_init 14 = .ok (.newarray .int, 2) := by decide +kernel
theorem dX8_init_16 : decode cX8_init 16 = .ok (.putfield 13, 3) := by decide +kernel
theorem dX8_init_19 : decode cX8_init 19 = .ok (.aload_n 0, 1) := by decide +kernel
theorem dX8_init_20 : decode cX8_init 20 = .ok (.bipush 8, 2) := by decide +kernel
theorem dX8_init_22 : decode cX8_init 22 = .ok (.newarray .int, 2) := by decide +kernel
theorem dX8_init_24 : decode cX8_init 24 = .ok (.putfield 16, 3) := by decide +kernel
theorem dX8_init_27 : decode cX8_init 27 = .ok (.aload_n 0, 1) := by decide +kernel
theorem dX8_init_28 : decode cX8_init 28 = .ok (.bipush 8, 2) := by decide +kernel
theorem dX8_init_30 : decode cX8_init 30 = .ok (.newarray .int, 2) := by decide +kernel
theorem dX8_init_32 : decode cX8_init 32 = .ok (.putfield 19, 3) := by decide +kernel
theorem dX8_init_35 : decode cX8_init 35 = .ok (.aload_n 0, 1) := by decide +kernel
theorem dX8_init_36 : decode cX8_init 36 = .ok (.iconst 4, 1) := by decide +kernel
theorem dX8_init_37 : decode cX8_init 37 = .ok (.newarray .int, 2) := by decide +kernel
theorem dX8_init_39 : decode cX8_init 39 = .ok (.putfield 22, 3) := by decide +kernel
theorem dX8_init_42 : decode cX8_init 42 = .ok (.aload_n 0, 1) := by decide +kernel
theorem dX8_init_43 : decode cX8_init 43 = .ok (.iconst 4, 1) := by decide +kernel
theorem dX8_init_44 : decode cX8_init 44 = .ok (.newarray .int, 2) := by decide +kernel
theorem dX8_init_46 : decode cX8_init 46 = .ok (.putfield 25, 3) := by decide +kernel
theorem dX8_init_49 : decode cX8_init 49 = .ok (.aload_n 0, 1) := by decide +kernel
theorem dX8_init_50 : decode cX8_init 50 = .ok (.bipush 6, 2) := by decide +kernel
theorem dX8_init_52 : decode cX8_init 52 = .ok (.newarray .int, 2) := by decide +kernel
theorem dX8_init_54 : decode cX8_init 54 = .ok (.dup, 1) := by decide +kernel
theorem dX8_init_55 : decode cX8_init 55 = .ok (.iconst 0, 1) := by decide +kernel
theorem dX8_init_56 : decode cX8_init 56 = .ok (.iconst 0, 1) := by decide +kernel
theorem dX8_init_57 : decode cX8_init 57 = .ok (.iastore, 1) := by decide +kernel
theorem dX8_init_58 : decode cX8_init 58 = .ok (.dup, 1) := by decide +kernel
theorem dX8_init_59 : decode cX8_init 59 = .ok (.iconst 1, 1) := by decide +kernel
theorem dX8_init_60 : decode cX8_init 60 = .ok (.iconst 0, 1) := by decide +kernel
theorem dX8_init_61 : decode cX8_init 61 = .ok (.iastore, 1) := by decide +kernel
theorem dX8_init_62 : decode cX8_init 62 = .ok (.dup, 1) := by decide +kernel
theorem dX8_init_63 : decode cX8_init 63 = .ok (.iconst 2, 1) := by decide +kernel
theorem dX8_init_64 : decode cX8_init 64 = .ok (.iconst 0, 1) := by decide +kernel
theorem dX8_init_65 : decode cX8_init 65 = .ok (.iastore, 1) := by decide +kernel
theorem dX8_init_66 : decode cX8_init 66 = .ok (.dup, 1) := by decide +kernel
theorem dX8_init_67 : decode cX8_init 67 = .ok (.iconst 3, 1) := by decide +kernel
theorem dX8_init_68 : decode cX8_init 68 = .ok (.iconst 1, 1) := by decide +kernel
theorem dX8_init_69 : decode cX8_init 69 = .ok (.iastore, 1) := by decide +kernel
theorem dX8_init_70 : decode cX8_init 70 = .ok (.dup, 1) := by decide +kernel
theorem dX8_init_71 : decode cX8_init 71 = .ok (.iconst 4, 1) := by decide +kernel
theorem dX8_init_72 : decode cX8_init 72 = .ok (.iconst 0, 1) := by decide +kernel
theorem dX8_init_73 : decode cX8_init 73 = .ok (.iastore, 1) := by decide +kernel
theorem dX8_init_74 : decode cX8_init 74 = .ok (.dup, 1) := by decide +kernel
theorem dX8_init_75 : decode cX8_init 75 = .ok (.iconst 5, 1) := by decide +kernel
theorem dX8_init_76 : decode cX8_init 76 = .ok (.iconst 0, 1) := by decide +kernel
theorem dX8_init_77 : decode cX8_init 77 = .ok (.iastore, 1) := by decide +kernel
theorem dX8_init_78 : decode cX8_init 78 = .ok (.putfield 28, 3) := by decide +kernel
theorem dX8_init_81 : decode cX8_init 81 = .ok (.aload_n 0, 1) := by decide +kernel
theorem dX8_init_82 : decode cX8_init 82 = .ok (.sipush 256, 3) := by decide +kernel
theorem dX8_init_85 : decode cX8_init 85 = .ok (.newarray .int, 2) := by decide +kernel
theorem dX8_init_87 : decode cX8_init 87 = .ok (.putfield 31, 3) := by decide +kernel
theorem dX8_init_90 : decode cX8_init 90 = .ok (.aload_n 0, 1) := by decide +kernel
theorem dX8_init_91 : decode cX8_init 91 = .ok (.ldc 34, 2) := by decide +kernel
theorem dX8_init_93 : decode cX8_init 93 = .ok (.newarray .byte, 2) := by decide +kernel
theorem dX8_init_95 : decode cX8_init 95 = .ok (.putfield 35, 3) := by decide +kernel
theorem dX8_init_98 : decode cX8_init 98 = .ok (.aload_n 0, 1) := by decide +kernel
theorem dX8_init_99 : decode cX8_init 99 = .ok (.sipush 2048, 3) := by decide +kernel
theorem dX8_init_102 : decode cX8_init 102 = .ok (.newarray .int, 2) := by decide +kernel
theorem dX8_init_104 : decode cX8_init 104 = .ok (.putfield 39, 3) := by decide +kernel
theorem dX8_init_107 : decode cX8_init 107 = .ok (.aload_n 0, 1) := by decide +kernel
theorem dX8_init_108 : decode cX8_init 108 = .ok (.sipush 148, 3) := by decide +kernel
theorem dX8_init_111 : decode cX8_init 111 = .ok (.newarray .byte, 2) := by decide +kernel
theorem dX8_init_113 : decode cX8_init 113 = .ok (.putfield 42, 3) := by decide +kernel
theorem dX8_init_116 : decode cX8_init 116 = .ok (.aload_n 0, 1) := by decide +kernel
theorem dX8_init_117 : decode cX8_init 117 = .ok (.sipush 600, 3) := by decide +kernel
theorem dX8_init_120 : decode cX8_init 120 = .ok (.newarray .int, 2) := by decide +kernel
theorem dX8_init_122 : decode cX8_init 122 = .ok (.putfield 45, 3) := by decide +kernel
theorem dX8_init_125 : decode cX8_init 125 = .ok (.aload_n 0, 1) := by decide +kernel
theorem dX8_init_126 : decode cX8_init 126 = .ok (.sipush 3000, 3) := by decide +kernel
theorem dX8_init_129 : decode cX8_init 129 = .ok (.newarray .byte, 2) := by decide +kernel
theorem dX8_init_131 : decode cX8_init 131 = .ok (.putfield 48, 3) := by decide +kernel
theorem dX8_init_134 : decode cX8_init 134 = .ok (.aload_n 0, 1) := by decide +kernel
theorem dX8_init_135 : decode cX8_init 135 = .ok (.sipush 600, 3) := by decide +kernel
theorem dX8_init_138 : decode cX8_init 138 = .ok (.newarray .int, 2) := by decide +kernel
theorem dX8_init_140 : decode cX8_init 140 = .ok (.putfield 51, 3) := by decide +kernel
theorem dX8_init_143 : decode cX8_init 143 = .ok (.aload_n 0, 1) := by decide +kernel
theorem dX8_init_144 : decode cX8_init 144 = .ok (.sipush 600, 3) := by decide +kernel
theorem dX8_init_147 : decode cX8_init 147 = .ok (.newarray .int, 2) := by decide +kernel
theorem dX8_init_149 : decode cX8_init 149 = .ok (.putfield 54, 3) := by decide +kernel
theorem dX8_init_152 : decode cX8_init 152 = .ok (.aload_n 0, 1) := by decide +kernel
theorem dX8_init_153 : decode cX8_init 153 = .ok (.sipush 600, 3) := by decide +kernel
theorem dX8_init_156 : decode cX8_init 156 = .ok (.newarray .int, 2) := by decide +kernel
theorem dX8_init_158 : decode cX8_init 158 = .ok (.putfield 57, 3) := by decide +kernel
theorem dX8_init_161 : decode cX8_init 161 = .ok (.aload_n 0, 1) := by decide +kernel
theorem dX8_init_162 : decode cX8_init 162 = .ok (.sipush 600, 3) := by decide +kernel
theorem dX8_init_165 : decode cX8_init 165 = .ok (.newarray .int, 2) := by decide +kernel
theorem dX8_init_167 : decode cX8_init 167 = .ok (.putfield 60, 3) := by decide +kernel
theorem dX8_init_170 : decode cX8_init 170 = .ok (.aload_n 0, 1) := by decide +kernel
theorem dX8_init_171 : decode cX8_init 171 = .ok (.iconst 0, 1) := by decide +kernel
theorem dX8_init_172 : decode cX8_init 172 = .ok (.putfield 63, 3) := by decide +kernel
theorem dX8_init_175 : decode cX8_init 175 = .ok (.return_, 1) := by decide +kernel
theorem dX8_in_0 : decode cX8_in 0 = .ok (.iload_n 0, 1) := by decide +kernel
theorem dX8_in_1 : decode cX8_in 1 = .ok (.iload_n 1, 1) := by decide +kernel
theorem dX8_in_2 : decode cX8_in 2 = .ok (.if_icmp .lt 12, 3) := by decide +kernel
theorem dX8_in_5 : decode cX8_in 5 = .ok (.iload_n 0, 1) := by decide +kernel
theorem dX8_in_6 : decode cX8_in 6 = .ok (.iload_n 2, 1) := by decide +kernel
theorem dX8_in_7 : decode cX8_in 7 = .ok (.if_icmp .gt 7, 3) := by decide +kernel
theorem dX8_in_10 : decode cX8_in 10 = .ok (.iconst 1, 1) := by decide +kernel
theorem dX8_in_11 : decode cX8_in 11 = .ok (.goto 4, 3) := by decide +kernel
theorem dX8_in_14 : decode cX8_in 14 = .ok (.iconst 0, 1) := by decide +kernel
theorem dX8_in_15 : decode cX8_in 15 = .ok (.ireturn, 1) := by decide +kernel
set_option maxRecDepth 20000 in
theorem ggX8_vertex_X8_in : GoodIn wsX8_vertex wsX8_in := goodIn_r _ [6] (by decide +kernel) (by decide +kernel)
set_option maxRecDepth 20000 in
theorem gX8_vertex_X8_in : GoodIn wsX8_vertex (va_wsS RX8 67 yX8_in wsX8_in) := goodIn_app (goodIn_of _ (by decide +kernel)) ggX8_vertex_X8_in
theorem dX8_vertex_0 : decode cX8_vertex 0 = .ok (.iload_n 1, 1) := by decide +kernel
theorem dX8_vertex_1 : decode cX8_vertex 1 = .ok (.iconst 0, 1) := by decide +kernel
theorem dX8_vertex_2 : decode cX8_vertex 2 = .ok (.bipush 15, 2) := by decide +kernel
theorem dX8_vertex_4 : decode cX8_vertex 4 = .ok (.invokestatic 67, 3) := by decide +kernel
theorem dX8_vertex_7 : decode cX8_vertex 7 = .ok (.ifCond .ne 6, 3) := by decide +kernel
theorem dX8_vertex_10 : decode cX8_vertex 10 = .ok (.bipush (-102), 2) := by decide +kernel
theorem dX8_vertex_12 : decode cX8_vertex 12 = .ok (.ireturn, 1) := by decide +kernel
theorem dX8_vertex_13 : decode cX8_vertex 13 = .ok (.aload_n 0, 1) := by decide +kernel
theorem dX8_vertex_14 : decode cX8_vertex 14 = .ok (.getfield 71, 3) := by decide +kernel
theorem dX8_vertex_17 : decode cX8_vertex 17 = .ok (.iconst 5, 1) := by decide +kernel
theorem dX8_vertex_18 : decode cX8_vertex 18 = .ok (.if_icmp .ne 6, 3) := by decide +kernel
theorem dX8_vertex_21 : decode cX8_vertex 21 = .ok (.bipush (-104), 2) := by decide +kernel
theorem dX8_vertex_23 : decode cX8_vertex 23 = .ok (.ireturn, 1) := by decide +kernel
theorem dX8_vertex_24 : decode cX8_vertex 24 = .ok (.aload_n 0, 1) := by decide +kernel
theorem dX8_vertex_25 : decode cX8_vertex 25 = .ok (.getfield 7, 3) := by decide +kernel
theorem dX8_vertex_28 : decode cX8_vertex 28 = .ok (.aload_n 0, 1) := by decide +kernel
theorem dX8_vertex_29 : decode cX8_vertex 29 = .ok (.getfield 71, 3) := by decide +kernel
theorem dX8_vertex_32 : decode cX8_vertex 32 = .ok (.iload_n 1, 1) := by decide +kernel
theorem dX8_vertex_33 : decode cX8_vertex 33 = .ok (.iastore, 1) := by decide +kernel
theorem dX8_vertex_34 : decode cX8_vertex 34 = .ok (.aload_n 0, 1) := by decide +kernel
theorem dX8_vertex_35 : decode cX8_vertex 35 = .ok (.dup, 1) := by decide +kernel
theorem dX8_vertex_36 : decode cX8_vertex 36 = .ok (.getfield 71, 3) := by decide +kernel
theorem dX8_vertex_39 : decode cX8_vertex 39 = .ok (.iconst 1, 1) := by decide +kernel
theorem dX8_vertex_40 : decode cX8_vertex 40 = .ok (.iadd, 1) := by decide +kernel
theorem dX8_vertex_41 : decode cX8_vertex 41 = .ok (.putfield 71, 3) := by decide +kernel
theorem dX8_vertex_44 : decode cX8_vertex 44 = .ok (.aload_n 0, 1) := by decide +kernel
theorem dX8_vertex_45 : decode cX8_vertex 45 = .ok (.getfield 71, 3) := by decide +kernel
theorem dX8_vertex_48 : decode cX8_vertex 48 = .ok (.iconst 1, 1) := by decide +kernel
theorem dX8_vertex_49 : decode cX8_vertex 49 = .ok (.isub, 1) := by decide +kernel
theorem dX8_vertex_50 : decode cX8_vertex 50 = .ok (.ireturn, 1) := by decide +kernel
set_option maxRecDepth 20000 in
theorem ggX8_arc_X8_in : GoodIn wsX8_arc wsX8_in := goodIn_r _ [9] (by decide +kernel) (by decide +kernel)
set_option maxRecDepth 20000 in
theorem gX8_arc_X8_in : GoodIn wsX8_arc (va_wsS RX8 67 yX8_in wsX8_in) := goodIn_app (goodIn_of _ (by decide +kernel)) ggX8_arc_X8_in
theorem dX8_arc_0 : decode cX8_arc 0 = .ok (.iload_n 1, 1) := by decide +kernel
theorem dX8_arc_1 : decode cX8_arc 1 = .ok (.iconst 0, 1) := by decide +kernel
theorem dX8_arc_2 : decode cX8_arc 2 = .ok (.aload_n 0, 1) := by decide +kernel
theorem dX8_arc_3 : decode cX8_arc 3 = .ok (.getfield 71, 3) := by decide +kernel
theorem dX8_arc_6 : decode cX8_arc 6 = .ok (.iconst 1, 1) := by decide +kernel
theorem dX8_arc_7 : decode cX8_arc 7 = .ok (.isub, 1) := by decide +kernel
theorem dX8_arc_8 : decode cX8_arc 8 = .ok (.invokestatic 67, 3) := by decide +kernel
theorem dX8_arc_11 : decode cX8_arc 11 = .ok (.ifCond .eq 17, 3) := by decide +kernel
theorem dX8_arc_14 : decode cX8_arc 14 = .ok (.iload_n 2, 1) := by decide +kernel
theorem dX8_arc_15 : decode cX8_arc 15 = .ok (.iconst 0, 1) := by decide +kernel
theorem dX8_arc_16 : decode cX8_arc 16 = .ok (.aload_n 0, 1) := by decide +kernel
theorem dX8_arc_17 : decode cX8_arc 17 = .ok (.getfield 71, 3) := by decide +kernel
theorem dX8_arc_20 : decode cX8_arc 20 = .ok (.iconst 1, 1) := by decide +kernel
theorem dX8_arc_21 : decode cX8_arc 21 = .ok (.isub, 1) := by decide +kernel
theorem dX8_arc_22 : decode cX8_arc 22 = .ok (.invokestatic 67, 3) := by decide +kernel
theorem dX8_arc_25 : decode cX8_arc 25 = .ok (.ifCond .ne 6, 3) := by decide +kernel
theorem dX8_arc_28 : decode cX8_arc 28 = .ok (.bipush (-101), 2) := by decide +kernel
theorem dX8_arc_30 : decode cX8_arc 30 = .ok (.ireturn, 1) := by decide +kernel
theorem dX8_arc_31 : decode cX8_arc 31 = .ok (.iload_n 3, 1) := by decide +kernel
theorem dX8_arc_32 : decode cX8_arc 32 = .ok (.iconst 0, 1) := by decide +kernel
theorem dX8_arc_33 : decode cX8_arc 33 = .ok (.bipush 15, 2) := by decide +kernel
theorem dX8_arc_35 : decode cX8_arc 35 = .ok (.invokestatic 67, 3) := by decide +kernel
theorem dX8_arc_38 : decode cX8_arc 38 = .ok (.ifCond .ne 6, 3) := by decide +kernel
theorem dX8_arc_41 : decode cX8_arc 41 = .ok (.bipush (-102), 2) := by decide +kernel
theorem dX8_arc_43 : decode cX8_arc 43 = .ok (.ireturn, 1) := by decide +kernel
theorem dX8_arc_44 : decode cX8_arc 44 = .ok (.aload_n 0, 1) := by decide +kernel
theorem dX8_arc_45 : decode cX8_arc 45 = .ok (.getfield 75, 3) := by decide +kernel
theorem dX8_arc_48 : decode cX8_arc 48 = .ok (.bipush 8, 2) := by decide +kernel
theorem dX8_arc_50 : decode cX8_arc 50 = .ok (.if_icmp .ne 6, 3) := by decide +kernel
theorem dX8_arc_53 : decode cX8_arc 53 = .ok (.bipush (-104), 2) := by decide +kernel
theorem dX8_arc_55 : decode cX8_arc 55 = .ok (.ireturn, 1) := by decide +kernel
theorem dX8_arc_56 : decode cX8_arc 56 = .ok (.aload_n 0, 1) := by decide +kernel
theorem dX8_arc_57 : decode cX8_arc 57 = .ok (.getfield 13, 3) := by decide +kernel
theorem dX8_arc_60 : decode cX8_arc 60 = .ok (.aload_n 0, 1) := by decide +kernel
theorem dX8_arc_61 : decode cX8_arc 61 = .ok (.getfield 75, 3) := by decide +kernel
theorem dX8_arc_64 : decode cX8_arc 64 = .ok (.iload_n 1, 1) := by decide +kernel
theorem dX8_arc_65 : decode cX8_arc 65 = .ok (.iastore, 1) := by decide +kernel
theorem dX8_arc_66 : decode cX8_arc 66 = .ok (.aload_n 0, 1) := by decide +kernel
theorem dX8_arc_67 : decode cX8_arc 67 = .ok (.getfield 16, 3) := by decide +kernel
theorem dX8_arc_70 : decode cX8_arc 70 = .ok (.aload_n 0, 1) := by decide +kernel
theorem dX8_arc_71 : decode cX8_arc 71 = .ok (.getfield 75, 3) := by decide +kernel
theorem dX8_arc_74 : decode cX8_arc 74 = .ok (.iload_n 2, 1) := by decide +kernel
theorem dX8_arc_75 : decode cX8_arc 75 = .ok (.iastore, 1) := by decide +kernel
theorem dX8_arc_76 : decode cX8_arc 76 = .ok (.aload_n 0, 1) := by decide +kernel
theorem dX8_arc_77 : decode cX8_arc 77 = .ok (.getfield 19, 3) := by decide +kernel
theorem dX8_arc_80 : decode cX8_arc 80 = .ok (.aload_n 0, 1) := by decide +kernel
theorem dX8_arc_81 : decode cX8_arc 81 = .ok (.getfield 75, 3) := by decide +kernel
theorem dX8_arc_84 : decode cX8_arc 84 = .ok (.iload_n 3, 1) := by decide +kernel
theorem dX8_arc_85 : decode cX8_arc 85 = .ok (.iastore, 1) := by decide +kernel
theorem dX8_arc_86 : decode cX8_arc 86 = .ok (.aload_n 0, 1) := by decide +kernel
theorem dX8_arc_87 : decode cX8_arc 87 = .ok (.dup, 1) := by decide +kernel
theorem dX8_arc_88 : decode cX8_arc 88 = .ok (.getfield 75, 3) := by decide +kernel
theorem dX8_arc_91 : decode cX8_arc 91 = .ok (.iconst 1, 1) := by decide +kernel
theorem dX8_arc_92 : decode cX8_arc 92 = .ok (.iadd, 1) := by decide +kernel
theorem dX8_arc_93 : decode cX8_arc 93 = .ok (.putfield 75, 3) := by decide +kernel
theorem dX8_arc_96 : decode cX8_arc 96 = .ok (.aload_n 0, 1) := by decide +kernel
theorem dX8_arc_97 : decode cX8_arc 97 = .ok (.getfield 75, 3) := by decide +kernel
theorem dX8_arc_100 : decode cX8_arc 100 = .ok (.iconst 1, 1) := by decide +kernel
theorem dX8_arc_101 : decode cX8_arc 101 = .ok (.isub, 1) := by decide +kernel
theorem dX8_arc_102 : decode cX8_arc 102 = .ok (.ireturn, 1) := by decide +kernel
set_option maxRecDepth 20000 in
theorem ggX8_first_X8_in : GoodIn wsX8_first wsX8_in := goodIn_r _ [8] (by decide +kernel) (by decide +kernel)
set_option maxRecDepth 20000 in
theorem gX8_first_X8_in : GoodIn wsX8_first (va_wsS RX8 67 yX8_in wsX8_in) := goodIn_app (goodIn_of _ (by decide +kernel)) ggX8_first_X8_in
theorem dX8_first_0 : decode cX8_first 0 = .ok (.iload_n 1, 1) := by decide +kernel
theorem dX8_first_1 : decode cX8_first 1 = .ok (.iconst 0, 1) := by decide +kernel
theorem dX8_first_2 : decode cX8_first 2 = .ok (.aload_n 0, 1) := by decide +kernel
theorem dX8_first_3 : decode cX8_first 3 = .ok (.getfield 71, 3) := by decide +kernel
theorem dX8_first_6 : decode cX8_first 6 = .ok (.iconst 1, 1) := by decide +kernel
theorem dX8_first_7 : decode cX8_first 7 = .ok (.isub, 1) := by decide +kernel
theorem dX8_first_8 : decode cX8_first 8 = .ok (.invokestatic 67, 3) := by decide +kernel
theorem dX8_first_11 : decode cX8_first 11 = .ok (.ifCond .ne 6, 3) := by decide +kernel
theorem dX8_first_14 : decode cX8_first 14 = .ok (.bipush (-101), 2) := by decide +kernel
theorem dX8_first_16 : decode cX8_first 16 = .ok (.ireturn, 1) := by decide +kernel
theorem dX8_first_17 : decode cX8_first 17 = .ok (.iload_n 2, 1) := by decide +kernel
theorem dX8_first_18 : decode cX8_first 18 = .ok (.iconst 0, 1) := by decide +kernel
theorem dX8_first_19 : decode cX8_first 19 = .ok (.bipush 15, 2) := by decide +kernel
theorem dX8_first_21 : decode cX8_first 21 = .ok (.invokestatic 67, 3) := by decide +kernel
theorem dX8_first_24 : decode cX8_first 24 = .ok (.ifCond .ne 6, 3) := by decide +kernel
theorem dX8_first_27 : decode cX8_first 27 = .ok (.bipush (-102), 2) := by decide +kernel
theorem dX8_first_29 : decode cX8_first 29 = .ok (.ireturn, 1) := by decide +kernel
theorem dX8_first_30 : decode cX8_first 30 = .ok (.aload_n 0, 1) := by decide +kernel
theorem dX8_first_31 : decode cX8_first 31 = .ok (.getfield 78, 3) := by decide +kernel
theorem dX8_first_34 : decode cX8_first 34 = .ok (.iconst 4, 1) := by decide +kernel
theorem dX8_first_35 : decode cX8_first 35 = .ok (.if_icmp .ne 6, 3) := by decide +kernel
theorem dX8_first_38 : decode cX8_first 38 = .ok (.bipush (-104), 2) := by decide +kernel
theorem dX8_first_40 : decode cX8_first 40 = .ok (.ireturn, 1) := by decide +kernel
theorem dX8_first_41 : decode cX8_first 41 = .ok (.aload_n 0, 1) := by decide +kernel
theorem dX8_first_42 : decode cX8_first 42 = .ok (.getfield 22, 3) := by decide +kernel
theorem dX8_first_45 : decode cX8_first 45 = .ok (.aload_n 0, 1) := by decide +kernel
theorem dX8_first_46 : decode cX8_first 46 = .ok (.getfield 78, 3) := by decide +kernel
theorem dX8_first_49 : decode cX8_first 49 = .ok (.iload_n 1, 1) := by decide +kernel
theorem dX8_first_50 : decode cX8_first 50 = .ok (.iastore, 1) := by decide +kernel
theorem dX8_first_51 : decode cX8_first 51 = .ok (.aload_n 0, 1) := by decide +kernel
theorem dX8_first_52 : decode cX8_first 52 = .ok (.getfield 25, 3) := by decide +kernel
theorem dX8_first_55 : decode cX8_first 55 = .ok (.aload_n 0, 1) := by decide +kernel
theorem dX8_first_56 : decode cX8_first 56 = .ok (.getfield 78, 3) := by decide +kernel
theorem dX8_first_59 : decode cX8_first 59 = .ok (.iload_n 2, 1) := by decide +kernel
theorem dX8_first_60 : decode cX8_first 60 = .ok (.iastore, 1) := by decide +kernel
theorem dX8_first_61 : decode cX8_first 61 = .ok (.aload_n 0, 1) := by decide +kernel
theorem dX8_first_62 : decode cX8_first 62 = .ok (.dup, 1) := by decide +kernel
theorem dX8_first_63 : decode cX8_first 63 = .ok (.getfield 78, 3) := by decide +kernel
theorem dX8_first_66 : decode cX8_first 66 = .ok (.iconst 1, 1) := by decide +kernel
theorem dX8_first_67 : decode cX8_first 67 = .ok (.iadd, 1) := by decide +kernel
theorem dX8_first_68 : decode cX8_first 68 = .ok (.putfield 78, 3) := by decide +kernel
theorem dX8_first_71 : decode cX8_first 71 = .ok (.aload_n 0, 1) := by decide +kernel
theorem dX8_first_72 : decode cX8_first 72 = .ok (.getfield 78, 3) := by decide +kernel
theorem dX8_first_75 : decode cX8_first 75 = .ok (.iconst 1, 1) := by decide +kernel
theorem dX8_first_76 : decode cX8_first 76 = .ok (.isub, 1) := by decide +kernel
theorem dX8_first_77 : decode cX8_first 77 = .ok (.ireturn, 1) := by decide +kernel
theorem dX8_greatestOf_0 : decode cX8_greatestOf 0 = .ok (.iload_n 0, 1) := by decide +kernel
theorem dX8_greatestOf_1 : decode cX8_greatestOf 1 = .ok (.tableswitch 53 0 5 #[39, 42, 44, 46, 49, 51], 39) := by decide +kernel
theorem dX8_greatestOf_40 : decode cX8_greatestOf 40 = .ok (.bipush 9, 2) := by decide +kernel
theorem dX8_greatestOf_42 : decode cX8_greatestOf 42 = .ok (.ireturn, 1) := by decide +kernel
theorem dX8_greatestOf_43 : decode cX8_greatestOf 43 = .ok (.iconst 4, 1) := by decide +kernel
theorem dX8_greatestOf_44 : decode cX8_greatestOf 44 = .ok (.ireturn, 1) := by decide +kernel
theorem dX8_greatestOf_45 : decode cX8_greatestOf 45 = .ok (.iconst 1, 1) := by decide +kernel
theorem dX8_greatestOf_46 : decode cX8_greatestOf 46 = .ok (.ireturn, 1) := by decide +kernel
theorem dX8_greatestOf_47 : decode cX8_greatestOf 47 = .ok (.bipush 16, 2) := by decide +kernel
theorem dX8_greatestOf_49 : decode cX8_greatestOf 49 = .ok (.ireturn, 1) := by decide +kernel
theorem dX8_greatestOf_50 : decode cX8_greatestOf 50 = .ok (.iconst 1, 1) := by decide +kernel
theorem dX8_greatestOf_51 : decode cX8_greatestOf 51 = .ok (.ireturn, 1) := by decide +kernel
theorem dX8_greatestOf_52 : decode cX8_greatestOf 52 = .ok (.iconst 2, 1) := by decide +kernel
theorem dX8_greatestOf_53 : decode cX8_greatestOf 53 = .ok (.ireturn, 1) := by decide +kernel
theorem dX8_greatestOf_54 : decode cX8_greatestOf 54 = .ok (.iconst (-1), 1) := by decide +kernel
theorem dX8_greatestOf_55 : decode cX8_greatestOf 55 = .ok (.ireturn, 1) := by decide +kernel
set_option maxRecDepth 20000 in
theorem ggX8_set_X8_in : GoodIn wsX8_set wsX8_in := goodIn_r _ [5] (by decide +kernel) (by decide +kernel)
set_option maxRecDepth 20000 in
theorem gX8_set_X8_in : GoodIn wsX8_set (va_wsS RX8 67 yX8_in wsX8_in) := goodIn_app (goodIn_of _ (by decide +kernel)) ggX8_set_X8_in
set_option maxRecDepth 20000 in
theorem ggX8_set_X8_greatestOf : GoodIn wsX8_set wsX8_greatestOf := goodIn_r _ [8] (by decide +kernel) (by decide +kernel)
set_option maxRecDepth 20000 in
theorem gX8_set_X8_greatestOf : GoodIn wsX8_set (va_wsS RX8 81 yX8_greatestOf wsX8_greatestOf) := goodIn_app (goodIn_of _ (by decide +kernel)) ggX8_set_X8_greatestOf
theorem dX8_set_0 : decode cX8_set 0 = .ok (.iload_n 1, 1) := by decide +kernel
theorem dX8_set_1 : decode cX8_set 1 = .ok (.iconst 0, 1) := by decide +kernel
theorem dX8_set_2 : decode cX8_set 2 = .ok (.iconst 5, 1) := by decide +kernel
theorem dX8_set_3 : decode cX8_set 3 = .ok (.invokestatic 67, 3) := by decide +kernel
theorem dX8_set_6 : decode cX8_set 6 = .ok (.ifCond .eq 24, 3) := by decide +kernel
theorem dX8_set_9 : decode cX8_set 9 = .ok (.iload_n 2, 1) := by decide +kernel
theorem dX8_set_10 : decode cX8_set 10 = .ok (.iload_n 1, 1) := by decide +kernel
theorem dX8_set_11 : decode cX8_set 11 = .ok (.iconst 3, 1) := by decide +kernel
theorem dX8_set_12 : decode cX8_set 12 = .ok (.if_icmp .ne 7, 3) := by decide +kernel
theorem dX8_set_15 : decode cX8_set 15 = .ok (.iconst 1, 1) := by decide +kernel
theorem dX8_set_16 : decode cX8_set 16 = .ok (.goto 4, 3) := by decide +kernel
theorem dX8_set_19 : decode cX8_set 19 = .ok (.iconst 0, 1) := by decide +kernel
theorem dX8_set_20 : decode cX8_set 20 = .ok (.iload_n 1, 1) := by decide +kernel
theorem dX8_set_21 : decode cX8_set 21 = .ok (.invokestatic 81, 3) := by decide +kernel
theorem dX8_set_24 : decode cX8_set 24 = .ok (.invokestatic 67, 3) := by decide +kernel
theorem dX8_set_27 : decode cX8_set 27 = .ok (.ifCond .ne 6, 3) := by decide +kernel
theorem dX8_set_30 : decode cX8_set 30 = .ok (.bipush (-102), 2) := by decide +kernel
theorem dX8_set_32 : decode cX8_set 32 = .ok (.ireturn, 1) := by decide +kernel
theorem dX8_set_33 : decode cX8_set 33 = .ok (.aload_n 0, 1) := by decide +kernel
theorem dX8_set_34 : decode cX8_set 34 = .ok (.getfield 28, 3) := by decide +kernel
theorem dX8_set_37 : decode cX8_set 37 = .ok (.iload_n 1, 1) := by decide +kernel
theorem dX8_set_38 : decode cX8_set 38 = .ok (.iaload, 1) := by decide +kernel
theorem dX8_set_39 : decode cX8_set 39 = .ok (.istore_n 3, 1) := by decide +kernel
theorem dX8_set_40 : decode cX8_set 40 = .ok (.aload_n 0, 1) := by decide +kernel
theorem dX8_set_41 : decode cX8_set 41 = .ok (.getfield 28, 3) := by decide +kernel
theorem dX8_set_44 : decode cX8_set 44 = .ok (.iload_n 1, 1) := by decide +kernel
theorem dX8_set_45 : decode cX8_set 45 = .ok (.iload_n 2, 1) := by decide +kernel
theorem dX8_set_46 : decode cX8_set 46 = .ok (.iastore, 1) := by decide +kernel
theorem dX8_set_47 : decode cX8_set 47 = .ok (.iload_n 3, 1) := by decide +kernel
theorem dX8_set_48 : decode cX8_set 48 = .ok (.ireturn, 1) := by decide +kernel
set_option maxRecDepth 20000 in
theorem ggX8_table_X8_in : GoodIn wsX8_table wsX8_in := goodIn_r _ [5] (by decide +kernel) (by decide +kernel)
set_option maxRecDepth 20000 in
theorem gX8_table_X8_in : GoodIn wsX8_table (va_wsS RX8 67 yX8_in wsX8_in) := goodIn_app (goodIn_of _ (by decide +kernel)) ggX8_table_X8_in
theorem dX8_table_0 : decode cX8_table 0 = .ok (.iload_n 1, 1) := by decide +kernel
theorem dX8_table_1 : decode cX8_table 1 = .ok (.iconst 0, 1) := by decide +kernel
theorem dX8_table_2 : decode cX8_table 2 = .ok (.bipush 15, 2) := by decide +kernel
theorem dX8_table_4 : decode cX8_table 4 = .ok (.invokestatic 67, 3) := by decide +kernel
theorem dX8_table_7 : decode cX8_table 7 = .ok (.ifCond .eq 23, 3) := by decide +kernel
theorem dX8_table_10 : decode cX8_table 10 = .ok (.iload_n 2, 1) := by decide +kernel
theorem dX8_table_11 : decode cX8_table 11 = .ok (.iconst 0, 1) := by decide +kernel
theorem dX8_table_12 : decode cX8_table 12 = .ok (.bipush 15, 2) := by decide +kernel
theorem dX8_table_14 : decode cX8_table 14 = .ok (.invokestatic 67, 3) := by decide +kernel
theorem dX8_table_17 : decode cX8_table 17 = .ok (.ifCond .eq 13, 3) := by decide +kernel
theorem dX8_table_20 : decode cX8_table 20 = .ok (.iload_n 3, 1) := by decide +kernel
theorem dX8_table_21 : decode cX8_table 21 = .ok (.iconst 0, 1) := by decide +kernel
theorem dX8_table_22 : decode cX8_table 22 = .ok (.bipush 15, 2) := by decide +kernel
theorem dX8_table_24 : decode cX8_table 24 = .ok (.invokestatic 67, 3) := by decide +kernel
theorem dX8_table_27 : decode cX8_table 27 = .ok (.ifCond .ne 6, 3) := by decide +kernel
theorem dX8_table_30 : decode cX8_table 30 = .ok (.bipush (-102), 2) := by decide +kernel
theorem dX8_table_32 : decode cX8_table 32 = .ok (.ireturn, 1) := by decide +kernel
theorem dX8_table_33 : decode cX8_table 33 = .ok (.aload_n 0, 1) := by decide +kernel
theorem dX8_table_34 : decode cX8_table 34 = .ok (.getfield 31, 3) := by decide +kernel
theorem dX8_table_37 : decode cX8_table 37 = .ok (.bipush 16, 2) := by decide +kernel
theorem dX8_table_39 : decode cX8_table 39 = .ok (.iload_n 1, 1) := by decide +kernel
theorem dX8_table_40 : decode cX8_table 40 = .ok (.imul, 1) := by decide +kernel
theorem dX8_table_41 : decode cX8_table 41 = .ok (.iload_n 2, 1) := by decide +kernel
theorem dX8_table_42 : decode cX8_table 42 = .ok (.iadd, 1) := by decide +kernel
theorem dX8_table_43 : decode cX8_table 43 = .ok (.iaload, 1) := by decide +kernel
theorem dX8_table_44 : decode cX8_table 44 = .ok (.istore 4, 2) := by decide +kernel
theorem dX8_table_46 : decode cX8_table 46 = .ok (.aload_n 0, 1) := by decide +kernel
theorem dX8_table_47 : decode cX8_table 47 = .ok (.getfield 31, 3) := by decide +kernel
theorem dX8_table_50 : decode cX8_table 50 = .ok (.bipush 16, 2) := by decide +kernel
theorem dX8_table_52 : decode cX8_table 52 = .ok (.iload_n 1, 1) := by decide +kernel
theorem dX8_table_53 : decode cX8_table 53 = .ok (.imul, 1) := by decide +kernel
theorem dX8_table_54 : decode cX8_table 54 = .ok (.iload_n 2, 1) := by decide +kernel
theorem dX8_table_55 : decode cX8_table 55 = .ok (.iadd, 1) := by decide +kernel
end
section
theorem dX8_table_56 : decode cX8_table 56 = .ok (.iload_n 3, 1) := by decide +kernel
theorem dX8_table_57 : decode cX8_table 57 = .ok (.iastore, 1) := by decide +kernel
theorem dX8_table_58 : decode cX8_table 58 = .ok (.iload 4, 2) := by decide +kernel
theorem dX8_table_60 : decode cX8_table 60 = .ok (.ireturn, 1) := by decide +kernel
set_option maxRecDepth 20000 in
theorem ggX8_value_X8_in : GoodIn wsX8_value wsX8_in := goodIn_r _ [6] (by decide +kernel) (by decide +kernel)
set_option maxRecDepth 20000 in
theorem gX8_value_X8_in : GoodIn wsX8_value (va_wsS RX8 67 yX8_in wsX8_in) := goodIn_app (goodIn_of _ (by decide +kernel)) ggX8_value_X8_in
theorem dX8_value_0 : decode cX8_value 0 = .ok (.iload_n 1, 1) := by decide +kernel
theorem dX8_value_1 : decode cX8_value 1 = .ok (.iconst 0, 1) := by decide +kernel
theorem dX8_value_2 : decode cX8_value 2 = .ok (.aload_n 0, 1) := by decide +kernel
theorem dX8_value_3 : decode cX8_value 3 = .ok (.getfield 71, 3) := by decide +kernel
theorem dX8_value_6 : decode cX8_value 6 = .ok (.iconst 1, 1) := by decide +kernel
theorem dX8_value_7 : decode cX8_value 7 = .ok (.isub, 1) := by decide +kernel
theorem dX8_value_8 : decode cX8_value 8 = .ok (.invokestatic 67, 3) := by decide +kernel
theorem dX8_value_11 : decode cX8_value 11 = .ok (.ifCond .ne 6, 3) := by decide +kernel
theorem dX8_value_14 : decode cX8_value 14 = .ok (.bipush (-101), 2) := by decide +kernel
theorem dX8_value_16 : decode cX8_value 16 = .ok (.ireturn, 1) := by decide +kernel
theorem dX8_value_17 : decode cX8_value 17 = .ok (.iload_n 2, 1) := by decide +kernel
theorem dX8_value_18 : decode cX8_value 18 = .ok (.iconst 0, 1) := by decide +kernel
theorem dX8_value_19 : decode cX8_value 19 = .ok (.bipush 15, 2) := by decide +kernel
theorem dX8_value_21 : decode cX8_value 21 = .ok (.invokestatic 67, 3) := by decide +kernel
theorem dX8_value_24 : decode cX8_value 24 = .ok (.ifCond .ne 6, 3) := by decide +kernel
theorem dX8_value_27 : decode cX8_value 27 = .ok (.bipush (-102), 2) := by decide +kernel
theorem dX8_value_29 : decode cX8_value 29 = .ok (.ireturn, 1) := by decide +kernel
theorem dX8_value_30 : decode cX8_value 30 = .ok (.aload_n 0, 1) := by decide +kernel
theorem dX8_value_31 : decode cX8_value 31 = .ok (.getfield 7, 3) := by decide +kernel
theorem dX8_value_34 : decode cX8_value 34 = .ok (.iload_n 1, 1) := by decide +kernel
theorem dX8_value_35 : decode cX8_value 35 = .ok (.iaload, 1) := by decide +kernel
theorem dX8_value_36 : decode cX8_value 36 = .ok (.istore_n 3, 1) := by decide +kernel
theorem dX8_value_37 : decode cX8_value 37 = .ok (.aload_n 0, 1) := by decide +kernel
theorem dX8_value_38 : decode cX8_value 38 = .ok (.getfield 7, 3) := by decide +kernel
theorem dX8_value_41 : decode cX8_value 41 = .ok (.iload_n 1, 1) := by decide +kernel
theorem dX8_value_42 : decode cX8_value 42 = .ok (.iload_n 2, 1) := by decide +kernel
theorem dX8_value_43 : decode cX8_value 43 = .ok (.iastore, 1) := by decide +kernel
theorem dX8_value_44 : decode cX8_value 44 = .ok (.iload_n 3, 1) := by decide +kernel
theorem dX8_value_45 : decode cX8_value 45 = .ok (.ireturn, 1) := by decide +kernel
theorem dX8_folded_0 : decode cX8_folded 0 = .ok (.aload_n 0, 1) := by decide +kernel
theorem dX8_folded_1 : decode cX8_folded 1 = .ok (.getfield 28, 3) := by decide +kernel
theorem dX8_folded_4 : decode cX8_folded 4 = .ok (.iconst 0, 1) := by decide +kernel
theorem dX8_folded_5 : decode cX8_folded 5 = .ok (.iaload, 1) := by decide +kernel
theorem dX8_folded_6 : decode cX8_folded 6 = .ok (.tableswitch 104 0 8 #[50, 57, 68, 79, 83, 85, 87, 96, 100], 50) := by decide +kernel
theorem dX8_folded_56 : decode cX8_folded 56 = .ok (.iload_n 1, 1) := by decide +kernel
theorem dX8_folded_57 : decode cX8_folded 57 = .ok (.iload_n 2, 1) := by decide +kernel
theorem dX8_folded_58 : decode cX8_folded 58 = .ok (.iadd, 1) := by decide +kernel
theorem dX8_folded_59 : decode cX8_folded 59 = .ok (.bipush 16, 2) := by decide +kernel
theorem dX8_folded_61 : decode cX8_folded 61 = .ok (.irem, 1) := by decide +kernel
theorem dX8_folded_62 : decode cX8_folded 62 = .ok (.ireturn, 1) := by decide +kernel
theorem dX8_folded_63 : decode cX8_folded 63 = .ok (.iload_n 1, 1) := by decide +kernel
theorem dX8_folded_64 : decode cX8_folded 64 = .ok (.iload_n 2, 1) := by decide +kernel
theorem dX8_folded_65 : decode cX8_folded 65 = .ok (.if_icmp .ge 7, 3) := by decide +kernel
theorem dX8_folded_68 : decode cX8_folded 68 = .ok (.iload_n 1, 1) := by decide +kernel
theorem dX8_folded_69 : decode cX8_folded 69 = .ok (.goto 4, 3) := by decide +kernel
theorem dX8_folded_72 : decode cX8_folded 72 = .ok (.iload_n 2, 1) := by decide +kernel
theorem dX8_folded_73 : decode cX8_folded 73 = .ok (.ireturn, 1) := by decide +kernel
theorem dX8_folded_74 : decode cX8_folded 74 = .ok (.iload_n 1, 1) := by decide +kernel
theorem dX8_folded_75 : decode cX8_folded 75 = .ok (.iload_n 2, 1) := by decide +kernel
theorem dX8_folded_76 : decode cX8_folded 76 = .ok (.if_icmp .le 7, 3) := by decide +kernel
theorem dX8_folded_79 : decode cX8_folded 79 = .ok (.iload_n 1, 1) := by decide +kernel
theorem dX8_folded_80 : decode cX8_folded 80 = .ok (.goto 4, 3) := by decide +kernel
theorem dX8_folded_83 : decode cX8_folded 83 = .ok (.iload_n 2, 1) := by decide +kernel
theorem dX8_folded_84 : decode cX8_folded 84 = .ok (.ireturn, 1) := by decide +kernel
theorem dX8_folded_85 : decode cX8_folded 85 = .ok (.iload_n 1, 1) := by decide +kernel
theorem dX8_folded_86 : decode cX8_folded 86 = .ok (.iload_n 2, 1) := by decide +kernel
theorem dX8_folded_87 : decode cX8_folded 87 = .ok (.ixor, 1) := by decide +kernel
theorem dX8_folded_88 : decode cX8_folded 88 = .ok (.ireturn, 1) := by decide +kernel
theorem dX8_folded_89 : decode cX8_folded 89 = .ok (.iload_n 2, 1) := by decide +kernel
theorem dX8_folded_90 : decode cX8_folded 90 = .ok (.ireturn, 1) := by decide +kernel
theorem dX8_folded_91 : decode cX8_folded 91 = .ok (.iload_n 1, 1) := by decide +kernel
theorem dX8_folded_92 : decode cX8_folded 92 = .ok (.ireturn, 1) := by decide +kernel
theorem dX8_folded_93 : decode cX8_folded 93 = .ok (.iconst 2, 1) := by decide +kernel
theorem dX8_folded_94 : decode cX8_folded 94 = .ok (.iload_n 1, 1) := by decide +kernel
theorem dX8_folded_95 : decode cX8_folded 95 = .ok (.imul, 1) := by decide +kernel
theorem dX8_folded_96 : decode cX8_folded 96 = .ok (.iload_n 2, 1) := by decide +kernel
theorem dX8_folded_97 : decode cX8_folded 97 = .ok (.iadd, 1) := by decide +kernel
theorem dX8_folded_98 : decode cX8_folded 98 = .ok (.bipush 16, 2) := by decide +kernel
theorem dX8_folded_100 : decode cX8_folded 100 = .ok (.irem, 1) := by decide +kernel
theorem dX8_folded_101 : decode cX8_folded 101 = .ok (.ireturn, 1) := by decide +kernel
theorem dX8_folded_102 : decode cX8_folded 102 = .ok (.iload_n 1, 1) := by decide +kernel
theorem dX8_folded_103 : decode cX8_folded 103 = .ok (.iload_n 2, 1) := by decide +kernel
theorem dX8_folded_104 : decode cX8_folded 104 = .ok (.iand, 1) := by decide +kernel
theorem dX8_folded_105 : decode cX8_folded 105 = .ok (.ireturn, 1) := by decide +kernel
theorem dX8_folded_106 : decode cX8_folded 106 = .ok (.iload_n 1, 1) := by decide +kernel
theorem dX8_folded_107 : decode cX8_folded 107 = .ok (.iload_n 2, 1) := by decide +kernel
theorem dX8_folded_108 : decode cX8_folded 108 = .ok (.ior, 1) := by decide +kernel
theorem dX8_folded_109 : decode cX8_folded 109 = .ok (.ireturn, 1) := by decide +kernel
theorem dX8_folded_110 : decode cX8_folded 110 = .ok (.aload_n 0, 1) := by decide +kernel
theorem dX8_folded_111 : decode cX8_folded 111 = .ok (.getfield 31, 3) := by decide +kernel
theorem dX8_folded_114 : decode cX8_folded 114 = .ok (.bipush 16, 2) := by decide +kernel
theorem dX8_folded_116 : decode cX8_folded 116 = .ok (.iload_n 1, 1) := by decide +kernel
theorem dX8_folded_117 : decode cX8_folded 117 = .ok (.imul, 1) := by decide +kernel
theorem dX8_folded_118 : decode cX8_folded 118 = .ok (.iload_n 2, 1) := by decide +kernel
theorem dX8_folded_119 : decode cX8_folded 119 = .ok (.iadd, 1) := by decide +kernel
theorem dX8_folded_120 : decode cX8_folded 120 = .ok (.iaload, 1) := by decide +kernel
theorem dX8_folded_121 : decode cX8_folded 121 = .ok (.ireturn, 1) := by decide +kernel
theorem dX8_outOf_0 : decode cX8_outOf 0 = .ok (.aload_n 0, 1) := by decide +kernel
theorem dX8_outOf_1 : decode cX8_outOf 1 = .ok (.getfield 28, 3) := by decide +kernel
theorem dX8_outOf_4 : decode cX8_outOf 4 = .ok (.iconst 1, 1) := by decide +kernel
theorem dX8_outOf_5 : decode cX8_outOf 5 = .ok (.iaload, 1) := by decide +kernel
theorem dX8_outOf_6 : decode cX8_outOf 6 = .ok (.tableswitch 61 0 3 #[30, 32, 39, 50], 30) := by decide +kernel
theorem dX8_outOf_36 : decode cX8_outOf 36 = .ok (.iload_n 1, 1) := by decide +kernel
theorem dX8_outOf_37 : decode cX8_outOf 37 = .ok (.ireturn, 1) := by decide +kernel
theorem dX8_outOf_38 : decode cX8_outOf 38 = .ok (.iload_n 1, 1) := by decide +kernel
theorem dX8_outOf_39 : decode cX8_outOf 39 = .ok (.iload_n 2, 1) := by decide +kernel
theorem dX8_outOf_40 : decode cX8_outOf 40 = .ok (.iadd, 1) := by decide +kernel
theorem dX8_outOf_41 : decode cX8_outOf 41 = .ok (.bipush 16, 2) := by decide +kernel
theorem dX8_outOf_43 : decode cX8_outOf 43 = .ok (.irem, 1) := by decide +kernel
theorem dX8_outOf_44 : decode cX8_outOf 44 = .ok (.ireturn, 1) := by decide +kernel
theorem dX8_outOf_45 : decode cX8_outOf 45 = .ok (.iload_n 1, 1) := by decide +kernel
theorem dX8_outOf_46 : decode cX8_outOf 46 = .ok (.iload_n 2, 1) := by decide +kernel
theorem dX8_outOf_47 : decode cX8_outOf 47 = .ok (.if_icmp .ge 7, 3) := by decide +kernel
theorem dX8_outOf_50 : decode cX8_outOf 50 = .ok (.iload_n 1, 1) := by decide +kernel
theorem dX8_outOf_51 : decode cX8_outOf 51 = .ok (.goto 4, 3) := by decide +kernel
theorem dX8_outOf_54 : decode cX8_outOf 54 = .ok (.iload_n 2, 1) := by decide +kernel
theorem dX8_outOf_55 : decode cX8_outOf 55 = .ok (.ireturn, 1) := by decide +kernel
theorem dX8_outOf_56 : decode cX8_outOf 56 = .ok (.iload_n 1, 1) := by decide +kernel
theorem dX8_outOf_57 : decode cX8_outOf 57 = .ok (.iload_n 2, 1) := by decide +kernel
theorem dX8_outOf_58 : decode cX8_outOf 58 = .ok (.if_icmp .le 7, 3) := by decide +kernel
theorem dX8_outOf_61 : decode cX8_outOf 61 = .ok (.iload_n 1, 1) := by decide +kernel
theorem dX8_outOf_62 : decode cX8_outOf 62 = .ok (.goto 4, 3) := by decide +kernel
theorem dX8_outOf_65 : decode cX8_outOf 65 = .ok (.iload_n 2, 1) := by decide +kernel
theorem dX8_outOf_66 : decode cX8_outOf 66 = .ok (.ireturn, 1) := by decide +kernel
theorem dX8_outOf_67 : decode cX8_outOf 67 = .ok (.iload_n 1, 1) := by decide +kernel
theorem dX8_outOf_68 : decode cX8_outOf 68 = .ok (.iload_n 2, 1) := by decide +kernel
theorem dX8_outOf_69 : decode cX8_outOf 69 = .ok (.imul, 1) := by decide +kernel
theorem dX8_outOf_70 : decode cX8_outOf 70 = .ok (.bipush 16, 2) := by decide +kernel
theorem dX8_outOf_72 : decode cX8_outOf 72 = .ok (.irem, 1) := by decide +kernel
theorem dX8_outOf_73 : decode cX8_outOf 73 = .ok (.ireturn, 1) := by decide +kernel
set_option maxRecDepth 20000 in
theorem ggX8_fold_X8_in : GoodIn wsX8_fold wsX8_in := goodIn_r _ [4] (by decide +kernel) (by decide +kernel)
set_option maxRecDepth 20000 in
theorem gX8_fold_X8_in : GoodIn wsX8_fold (va_wsS RX8 67 yX8_in wsX8_in) := goodIn_app (goodIn_of _ (by decide +kernel)) ggX8_fold_X8_in
set_option maxRecDepth 20000 in
theorem ggX8_fold_X8_folded : GoodIn wsX8_fold wsX8_folded := goodIn_r _ [8, 9, 10, 11, 12, 13, 14, 15, 16, 17, 18, 19, 20, 21, 22, 23, 24, 25, 26, 27, 28, 29, 30, 31, 32, 33, 34, 35, 36, 37, 38, 39] (by decide +kernel) (by decide +kernel)
set_option maxRecDepth 20000 in
theorem gX8_fold_X8_folded : GoodIn wsX8_fold (wsV RX8 85 RX8 yX8_folded wsX8_folded) := goodIn_app (goodIn_of _ (by decide +kernel)) ggX8_fold_X8_folded
theorem dX8_fold_0 : decode cX8_fold 0 = .ok (.iload_n 1, 1) := by decide +kernel
theorem dX8_fold_1 : decode cX8_fold 1 = .ok (.iconst 0, 1) := by decide +kernel
theorem dX8_fold_2 : decode cX8_fold 2 = .ok (.bipush 15, 2) := by decide +kernel
theorem dX8_fold_4 : decode cX8_fold 4 = .ok (.invokestatic 67, 3) := by decide +kernel
theorem dX8_fold_7 : decode cX8_fold 7 = .ok (.ifCond .eq 22, 3) := by decide +kernel
theorem dX8_fold_10 : decode cX8_fold 10 = .ok (.iload_n 2, 1) := by decide +kernel
theorem dX8_fold_11 : decode cX8_fold 11 = .ok (.iconst 0, 1) := by decide +kernel
theorem dX8_fold_12 : decode cX8_fold 12 = .ok (.bipush 15, 2) := by decide +kernel
theorem dX8_fold_14 : decode cX8_fold 14 = .ok (.invokestatic 67, 3) := by decide +kernel
theorem dX8_fold_17 : decode cX8_fold 17 = .ok (.ifCond .eq 12, 3) := by decide +kernel
theorem dX8_fold_20 : decode cX8_fold 20 = .ok (.aload_n 0, 1) := by decide +kernel
theorem dX8_fold_21 : decode cX8_fold 21 = .ok (.iload_n 1, 1) := by decide +kernel
theorem dX8_fold_22 : decode cX8_fold 22 = .ok (.iload_n 2, 1) := by decide +kernel
theorem dX8_fold_23 : decode cX8_fold 23 = .ok (.invokevirtual 85, 3) := by decide +kernel
theorem dX8_fold_26 : decode cX8_fold 26 = .ok (.goto 5, 3) := by decide +kernel
theorem dX8_fold_29 : decode cX8_fold 29 = .ok (.bipush (-102), 2) := by decide +kernel
theorem dX8_fold_31 : decode cX8_fold 31 = .ok (.ireturn, 1) := by decide +kernel
set_option maxRecDepth 20000 in
theorem ggX8_out_X8_in : GoodIn wsX8_out wsX8_in := goodIn_r _ [4] (by decide +kernel) (by decide +kernel)
set_option maxRecDepth 20000 in
theorem gX8_out_X8_in : GoodIn wsX8_out (va_wsS RX8 67 yX8_in wsX8_in) := goodIn_app (goodIn_of _ (by decide +kernel)) ggX8_out_X8_in
set_option maxRecDepth 20000 in
theorem ggX8_out_X8_outOf : GoodIn wsX8_out wsX8_outOf := goodIn_r _ [8, 9, 10, 11, 12, 13, 14, 15, 16, 17, 18, 19, 20, 21, 22, 23, 24, 25, 26, 27, 28, 29, 30, 31, 32, 33, 34, 35, 36, 37, 38] (by decide +kernel) (by decide +kernel)
set_option maxRecDepth 20000 in
theorem gX8_out_X8_outOf : GoodIn wsX8_out (wsV RX8 89 RX8 yX8_outOf wsX8_outOf) := goodIn_app (goodIn_of _ (by decide +kernel)) ggX8_out_X8_outOf
theorem dX8_out_0 : decode cX8_out 0 = .ok (.iload_n 1, 1) := by decide +kernel
theorem dX8_out_1 : decode cX8_out 1 = .ok (.iconst 0, 1) := by decide +kernel
theorem dX8_out_2 : decode cX8_out 2 = .ok (.bipush 15, 2) := by decide +kernel
theorem dX8_out_4 : decode cX8_out 4 = .ok (.invokestatic 67, 3) := by decide +kernel
theorem dX8_out_7 : decode cX8_out 7 = .ok (.ifCond .eq 22, 3) := by decide +kernel
theorem dX8_out_10 : decode cX8_out 10 = .ok (.iload_n 2, 1) := by decide +kernel
theorem dX8_out_11 : decode cX8_out 11 = .ok (.iconst 0, 1) := by decide +kernel
theorem dX8_out_12 : decode cX8_out 12 = .ok (.bipush 15, 2) := by decide +kernel
theorem dX8_out_14 : decode cX8_out 14 = .ok (.invokestatic 67, 3) := by decide +kernel
theorem dX8_out_17 : decode cX8_out 17 = .ok (.ifCond .eq 12, 3) := by decide +kernel
theorem dX8_out_20 : decode cX8_out 20 = .ok (.aload_n 0, 1) := by decide +kernel
theorem dX8_out_21 : decode cX8_out 21 = .ok (.iload_n 1, 1) := by decide +kernel
theorem dX8_out_22 : decode cX8_out 22 = .ok (.iload_n 2, 1) := by decide +kernel
theorem dX8_out_23 : decode cX8_out 23 = .ok (.invokevirtual 89, 3) := by decide +kernel
theorem dX8_out_26 : decode cX8_out 26 = .ok (.goto 5, 3) := by decide +kernel
theorem dX8_out_29 : decode cX8_out 29 = .ok (.bipush (-102), 2) := by decide +kernel
theorem dX8_out_31 : decode cX8_out 31 = .ok (.ireturn, 1) := by decide +kernel
set_option maxRecDepth 20000 in
theorem ggX8_holds_X8_folded : GoodIn wsX8_holds wsX8_folded := goodIn_r _ [5, 6, 7, 8, 9, 10, 11, 12, 13, 14, 15, 16, 17, 18, 19, 20, 21, 22, 23, 24, 25, 26, 27, 28, 29, 30, 31, 32, 33, 34, 35, 36] (by decide +kernel) (by decide +kernel)
set_option maxRecDepth 20000 in
theorem gX8_holds_X8_folded : GoodIn wsX8_holds (wsV RX8 85 RX8 yX8_folded wsX8_folded) := goodIn_app (goodIn_of _ (by decide +kernel)) ggX8_holds_X8_folded
theorem dX8_holds_0 : decode cX8_holds 0 = .ok (.iload_n 1, 1) := by decide +kernel
theorem dX8_holds_1 : decode cX8_holds 1 = .ok (.tableswitch 196 0 5 #[39, 72, 93, 109, 142, 168], 39) := by decide +kernel
theorem dX8_holds_40 : decode cX8_holds 40 = .ok (.aload_n 0, 1) := by decide +kernel
theorem dX8_holds_41 : decode cX8_holds 41 = .ok (.aload_n 0, 1) := by decide +kernel
theorem dX8_holds_42 : decode cX8_holds 42 = .ok (.iload_n 2, 1) := by decide +kernel
theorem dX8_holds_43 : decode cX8_holds 43 = .ok (.iload_n 3, 1) := by decide +kernel
theorem dX8_holds_44 : decode cX8_holds 44 = .ok (.invokevirtual 85, 3) := by decide +kernel
theorem dX8_holds_47 : decode cX8_holds 47 = .ok (.iload 4, 2) := by decide +kernel
theorem dX8_holds_49 : decode cX8_holds 49 = .ok (.invokevirtual 85, 3) := by decide +kernel
theorem dX8_holds_52 : decode cX8_holds 52 = .ok (.aload_n 0, 1) := by decide +kernel
theorem dX8_holds_53 : decode cX8_holds 53 = .ok (.iload_n 2, 1) := by decide +kernel
theorem dX8_holds_54 : decode cX8_holds 54 = .ok (.aload_n 0, 1) := by decide +kernel
theorem dX8_holds_55 : decode cX8_holds 55 = .ok (.iload_n 3, 1) := by decide +kernel
theorem dX8_holds_56 : decode cX8_holds 56 = .ok (.iload 4, 2) := by decide +kernel
theorem dX8_holds_58 : decode cX8_holds 58 = .ok (.invokevirtual 85, 3) := by decide +kernel
theorem dX8_holds_61 : decode cX8_holds 61 = .ok (.invokevirtual 85, 3) := by decide +kernel
theorem dX8_holds_64 : decode cX8_holds 64 = .ok (.if_icmp .ne 7, 3) := by decide +kernel
theorem dX8_holds_67 : decode cX8_holds 67 = .ok (.iconst 1, 1) := by decide +kernel
theorem dX8_holds_68 : decode cX8_holds 68 = .ok (.goto 4, 3) := by decide +kernel
theorem dX8_holds_71 : decode cX8_holds 71 = .ok (.iconst 0, 1) := by decide +kernel
theorem dX8_holds_72 : decode cX8_holds 72 = .ok (.ireturn, 1) := by decide +kernel
theorem dX8_holds_73 : decode cX8_holds 73 = .ok (.aload_n 0, 1) := by decide +kernel
theorem dX8_holds_74 : decode cX8_holds 74 = .ok (.iload_n 2, 1) := by decide +kernel
theorem dX8_holds_75 : decode cX8_holds 75 = .ok (.iload_n 3, 1) := by decide +kernel
theorem dX8_holds_76 : decode cX8_holds 76 = .ok (.invokevirtual 85, 3) := by decide +kernel
theorem dX8_holds_79 : decode cX8_holds 79 = .ok (.aload_n 0, 1) := by decide +kernel
theorem dX8_holds_80 : decode cX8_holds 80 = .ok (.iload_n 3, 1) := by decide +kernel
theorem dX8_holds_81 : decode cX8_holds 81 = .ok (.iload_n 2, 1) := by decide +kernel
theorem dX8_holds_82 : decode cX8_holds 82 = .ok (.invokevirtual 85, 3) := by decide +kernel
theorem dX8_holds_85 : decode cX8_holds 85 = .ok (.if_icmp .ne 7, 3) := by decide +kernel
theorem dX8_holds_88 : decode cX8_holds 88 = .ok (.iconst 1, 1) := by decide +kernel
theorem dX8_holds_89 : decode cX8_holds 89 = .ok (.goto 4, 3) := by decide +kernel
theorem dX8_holds_92 : decode cX8_holds 92 = .ok (.iconst 0, 1) := by decide +kernel
theorem dX8_holds_93 : decode cX8_holds 93 = .ok (.ireturn, 1) := by decide +kernel
theorem dX8_holds_94 : decode cX8_holds 94 = .ok (.aload_n 0, 1) := by decide +kernel
theorem dX8_holds_95 : decode cX8_holds 95 = .ok (.iload_n 2, 1) := by decide +kernel
theorem dX8_holds_96 : decode cX8_holds 96 = .ok (.iload_n 2, 1) := by decide +kernel
theorem dX8_holds_97 : decode cX8_holds 97 = .ok (.invokevirtual 85, 3) := by decide +kernel
theorem dX8_holds_100 : decode cX8_holds 100 = .ok (.iload_n 2, 1) := by decide +kernel
theorem dX8_holds_101 : decode cX8_holds 101 = .ok (.if_icmp .ne 7, 3) := by decide +kernel
theorem dX8_holds_104 : decode cX8_holds 104 = .ok (.iconst 1, 1) := by decide +kernel
theorem dX8_holds_105 : decode cX8_holds 105 = .ok (.goto 4, 3) := by decide +kernel
theorem dX8_holds_108 : decode cX8_holds 108 = .ok (.iconst 0, 1) := by decide +kernel
theorem dX8_holds_109 : decode cX8_holds 109 = .ok (.ireturn, 1) := by decide +kernel
theorem dX8_holds_110 : decode cX8_holds 110 = .ok (.aload_n 0, 1) := by decide +kernel
theorem dX8_holds_111 : decode cX8_holds 111 = .ok (.aload_n 0, 1) := by decide +kernel
theorem dX8_holds_112 : decode cX8_holds 112 = .ok (.iload_n 2, 1) := by decide +kernel
theorem dX8_holds_113 : decode cX8_holds 113 = .ok (.iload_n 3, 1) := by decide +kernel
theorem dX8_holds_114 : decode cX8_holds 114 = .ok (.invokevirtual 85, 3) := by decide +kernel
theorem dX8_holds_117 : decode cX8_holds 117 = .ok (.iload 4, 2) := by decide +kernel
theorem dX8_holds_119 : decode cX8_holds 119 = .ok (.invokevirtual 85, 3) := by decide +kernel
theorem dX8_holds_122 : decode cX8_holds 122 = .ok (.aload_n 0, 1) := by decide +kernel
theorem dX8_holds_123 : decode cX8_holds 123 = .ok (.aload_n 0, 1) := by decide +kernel
theorem dX8_holds_124 : decode cX8_holds 124 = .ok (.iload_n 2, 1) := by decide +kernel
theorem dX8_holds_125 : decode cX8_holds 125 = .ok (.iload 4, 2) := by decide +kernel
theorem dX8_holds_127 : decode cX8_holds 127 = .ok (.invokevirtual 85, 3) := by decide +kernel
theorem dX8_holds_130 : decode cX8_holds 130 = .ok (.iload_n 3, 1) := by decide +kernel
theorem dX8_holds_131 : decode cX8_holds 131 = .ok (.invokevirtual 85, 3) := by decide +kernel
theorem dX8_holds_134 : decode cX8_holds 134 = .ok (.if_icmp .ne 7, 3) := by decide +kernel
theorem dX8_holds_137 : decode cX8_holds 137 = .ok (.iconst 1, 1) := by decide +kernel
theorem dX8_holds_138 : decode cX8_holds 138 = .ok (.goto 4, 3) := by decide +kernel
theorem dX8_holds_141 : decode cX8_holds 141 = .ok (.iconst 0, 1) := by decide +kernel
theorem dX8_holds_142 : decode cX8_holds 142 = .ok (.ireturn, 1) := by decide +kernel
theorem dX8_holds_143 : decode cX8_holds 143 = .ok (.aload_n 0, 1) := by decide +kernel
theorem dX8_holds_144 : decode cX8_holds 144 = .ok (.aload_n 0, 1) := by decide +kernel
theorem dX8_holds_145 : decode cX8_holds 145 = .ok (.iload_n 2, 1) := by decide +kernel
theorem dX8_holds_146 : decode cX8_holds 146 = .ok (.iload_n 3, 1) := by decide +kernel
theorem dX8_holds_147 : decode cX8_holds 147 = .ok (.invokevirtual 85, 3) := by decide +kernel
theorem dX8_holds_150 : decode cX8_holds 150 = .ok (.iload_n 3, 1) := by decide +kernel
theorem dX8_holds_151 : decode cX8_holds 151 = .ok (.invokevirtual 85, 3) := by decide +kernel
theorem dX8_holds_154 : decode cX8_holds 154 = .ok (.aload_n 0, 1) := by decide +kernel
theorem dX8_holds_155 : decode cX8_holds 155 = .ok (.iload_n 2, 1) := by decide +kernel
theorem dX8_holds_156 : decode cX8_holds 156 = .ok (.iload_n 3, 1) := by decide +kernel
theorem dX8_holds_157 : decode cX8_holds 157 = .ok (.invokevirtual 85, 3) := by decide +kernel
theorem dX8_holds_160 : decode cX8_holds 160 = .ok (.if_icmp .ne 7, 3) := by decide +kernel
theorem dX8_holds_163 : decode cX8_holds 163 = .ok (.iconst 1, 1) := by decide +kernel
theorem dX8_holds_164 : decode cX8_holds 164 = .ok (.goto 4, 3) := by decide +kernel
theorem dX8_holds_167 : decode cX8_holds 167 = .ok (.iconst 0, 1) := by decide +kernel
theorem dX8_holds_168 : decode cX8_holds 168 = .ok (.ireturn, 1) := by decide +kernel
theorem dX8_holds_169 : decode cX8_holds 169 = .ok (.iload_n 2, 1) := by decide +kernel
theorem dX8_holds_170 : decode cX8_holds 170 = .ok (.iload_n 3, 1) := by decide +kernel
theorem dX8_holds_171 : decode cX8_holds 171 = .ok (.if_icmp .gt 20, 3) := by decide +kernel
theorem dX8_holds_174 : decode cX8_holds 174 = .ok (.aload_n 0, 1) := by decide +kernel
theorem dX8_holds_175 : decode cX8_holds 175 = .ok (.iload_n 2, 1) := by decide +kernel
theorem dX8_holds_176 : decode cX8_holds 176 = .ok (.iload 4, 2) := by decide +kernel
theorem dX8_holds_178 : decode cX8_holds 178 = .ok (.invokevirtual 85, 3) := by decide +kernel
theorem dX8_holds_181 : decode cX8_holds 181 = .ok (.aload_n 0, 1) := by decide +kernel
theorem dX8_holds_182 : decode cX8_holds 182 = .ok (.iload_n 3, 1) := by decide +kernel
theorem dX8_holds_183 : decode cX8_holds 183 = .ok (.iload 4, 2) := by decide +kernel
theorem dX8_holds_185 : decode cX8_holds 185 = .ok (.invokevirtual 85, 3) := by decide +kernel
theorem dX8_holds_188 : decode cX8_holds 188 = .ok (.if_icmp .gt 7, 3) := by decide +kernel
theorem dX8_holds_191 : decode cX8_holds 191 = .ok (.iconst 1, 1) := by decide +kernel
theorem dX8_holds_192 : decode cX8_holds 192 = .ok (.goto 4, 3) := by decide +kernel
theorem dX8_holds_195 : decode cX8_holds 195 = .ok (.iconst 0, 1) := by decide +kernel
theorem dX8_holds_196 : decode cX8_holds 196 = .ok (.ireturn, 1) := by decide +kernel
theorem dX8_holds_197 : decode cX8_holds 197 = .ok (.aload_n 0, 1) := by decide +kernel
theorem dX8_holds_198 : decode cX8_holds 198 = .ok (.iload_n 2, 1) := by decide +kernel
theorem dX8_holds_199 : decode cX8_holds 199 = .ok (.iload_n 3, 1) := by decide +kernel
theorem dX8_holds_200 : decode cX8_holds 200 = .ok (.invokevirtual 85, 3) := by decide +kernel
theorem dX8_holds_203 : decode cX8_holds 203 = .ok (.iload_n 2, 1) := by decide +kernel
theorem dX8_holds_204 : decode cX8_holds 204 = .ok (.if_icmp .gt 7, 3) := by decide +kernel
theorem dX8_holds_207 : decode cX8_holds 207 = .ok (.iconst 1, 1) := by decide +kernel
theorem dX8_holds_208 : decode cX8_holds 208 = .ok (.goto 4, 3) := by decide +kernel
theorem dX8_holds_211 : decode cX8_holds 211 = .ok (.iconst 0, 1) := by decide +kernel
theorem dX8_holds_212 : decode cX8_holds 212 = .ok (.ireturn, 1) := by decide +kernel
set_option maxRecDepth 20000 in
theorem ggX8_law_X8_in : GoodIn wsX8_law wsX8_in := goodIn_r _ [4] (by decide +kernel) (by decide +kernel)
set_option maxRecDepth 20000 in
theorem gX8_law_X8_in : GoodIn wsX8_law (va_wsS RX8 67 yX8_in wsX8_in) := goodIn_app (goodIn_of _ (by decide +kernel)) ggX8_law_X8_in
set_option maxRecDepth 20000 in
theorem ggX8_law_X8_holds : GoodIn wsX8_law wsX8_holds := goodIn_r _ [8, 9, 10, 11, 3, 12, 13, 14, 15, 16, 17, 18, 19, 20, 21, 22, 23, 24, 25, 26, 27, 28, 29, 30, 31, 32, 33, 34, 35, 36, 37, 38, 39, 40, 41, 42, 43] (by decide +kernel) (by decide +kernel)
set_option maxRecDepth 20000 in
theorem gX8_law_X8_holds : GoodIn wsX8_law (wsV RX8 92 RX8 yX8_holds wsX8_holds) := goodIn_app (goodIn_of _ (by decide +kernel)) ggX8_law_X8_holds
theorem dX8_law_0 : decode cX8_law 0 = .ok (.iload_n 1, 1) := by decide +kernel
theorem dX8_law_1 : decode cX8_law 1 = .ok (.iconst 0, 1) := by decide +kernel
theorem dX8_law_2 : decode cX8_law 2 = .ok (.bipush 6, 2) := by decide +kernel
theorem dX8_law_4 : decode cX8_law 4 = .ok (.invokestatic 67, 3) := by decide +kernel
theorem dX8_law_7 : decode cX8_law 7 = .ok (.ifCond .ne 6, 3) := by decide +kernel
theorem dX8_law_10 : decode cX8_law 10 = .ok (.bipush (-102), 2) := by decide +kernel
theorem dX8_law_12 : decode cX8_law 12 = .ok (.ireturn, 1) := by decide +kernel
theorem dX8_law_13 : decode cX8_law 13 = .ok (.iload_n 1, 1) := by decide +kernel
theorem dX8_law_14 : decode cX8_law 14 = .ok (.iconst 2, 1) := by decide +kernel
theorem dX8_law_15 : decode cX8_law 15 = .ok (.if_icmp .ne 7, 3) := by decide +kernel
theorem dX8_law_18 : decode cX8_law 18 = .ok (.iconst 1, 1) := by decide +kernel
theorem dX8_law_19 : decode cX8_law 19 = .ok (.goto 5, 3) := by decide +kernel
theorem dX8_law_22 : decode cX8_law 22 = .ok (.bipush 16, 2) := by decide +kernel
theorem dX8_law_24 : decode cX8_law 24 = .ok (.istore_n 2, 1) := by decide +kernel
theorem dX8_law_25 : decode cX8_law 25 = .ok (.iload_n 1, 1) := by decide +kernel
theorem dX8_law_26 : decode cX8_law 26 = .ok (.ifCond .eq 13, 3) := by decide +kernel
theorem dX8_law_29 : decode cX8_law 29 = .ok (.iload_n 1, 1) := by decide +kernel
theorem dX8_law_30 : decode cX8_law 30 = .ok (.iconst 3, 1) := by decide +kernel
theorem dX8_law_31 : decode cX8_law 31 = .ok (.if_icmp .eq 8, 3) := by decide +kernel
theorem dX8_law_34 : decode cX8_law 34 = .ok (.iload_n 1, 1) := by decide +kernel
theorem dX8_law_35 : decode cX8_law 35 = .ok (.iconst 5, 1) := by decide +kernel
theorem dX8_law_36 : decode cX8_law 36 = .ok (.if_icmp .ne 8, 3) := by decide +kernel
theorem dX8_law_39 : decode cX8_law 39 = .ok (.bipush 16, 2) := by decide +kernel
theorem dX8_law_41 : decode cX8_law 41 = .ok (.goto 4, 3) := by decide +kernel
theorem dX8_law_44 : decode cX8_law 44 = .ok (.iconst 1, 1) := by decide +kernel
theorem dX8_law_45 : decode cX8_law 45 = .ok (.istore_n 3, 1) := by decide +kernel
theorem dX8_law_46 : decode cX8_law 46 = .ok (.iconst 0, 1) := by decide +kernel
theorem dX8_law_47 : decode cX8_law 47 = .ok (.istore 4, 2) := by decide +kernel
theorem dX8_law_49 : decode cX8_law 49 = .ok (.iload 4, 2) := by decide +kernel
theorem dX8_law_51 : decode cX8_law 51 = .ok (.bipush 16, 2) := by decide +kernel
theorem dX8_law_53 : decode cX8_law 53 = .ok (.if_icmp .ge 69, 3) := by decide +kernel
theorem dX8_law_56 : decode cX8_law 56 = .ok (.iconst 0, 1) := by decide +kernel
theorem dX8_law_57 : decode cX8_law 57 = .ok (.istore 5, 2) := by decide +kernel
theorem dX8_law_59 : decode cX8_law 59 = .ok (.iload 5, 2) := by decide +kernel
theorem dX8_law_61 : decode cX8_law 61 = .ok (.iload_n 2, 1) := by decide +kernel
theorem dX8_law_62 : decode cX8_law 62 = .ok (.if_icmp .ge 54, 3) := by decide +kernel
theorem dX8_law_65 : decode cX8_law 65 = .ok (.iconst 0, 1) := by decide +kernel
theorem dX8_law_66 : decode cX8_law 66 = .ok (.istore 6, 2) := by decide +kernel
theorem dX8_law_68 : decode cX8_law 68 = .ok (.iload 6, 2) := by decide +kernel
theorem dX8_law_70 : decode cX8_law 70 = .ok (.iload_n 3, 1) := by decide +kernel
theorem dX8_law_71 : decode cX8_law 71 = .ok (.if_icmp .ge 39, 3) := by decide +kernel
theorem dX8_law_74 : decode cX8_law 74 = .ok (.aload_n 0, 1) := by decide +kernel
theorem dX8_law_75 : decode cX8_law 75 = .ok (.iload_n 1, 1) := by decide +kernel
theorem dX8_law_76 : decode cX8_law 76 = .ok (.iload 4, 2) := by decide +kernel
theorem dX8_law_78 : decode cX8_law 78 = .ok (.iload 5, 2) := by decide +kernel
theorem dX8_law_80 : decode cX8_law 80 = .ok (.iload 6, 2) := by decide +kernel
theorem dX8_law_82 : decode cX8_law 82 = .ok (.invokevirtual 92, 3) := by decide +kernel
theorem dX8_law_85 : decode cX8_law 85 = .ok (.ifCond .ne 19, 3) := by decide +kernel
theorem dX8_law_88 : decode cX8_law 88 = .ok (.sipush 256, 3) := by decide +kernel
theorem dX8_law_91 : decode cX8_law 91 = .ok (.iload 4, 2) := by decide +kernel
theorem dX8_law_93 : decode cX8_law 93 = .ok (.imul, 1) := by decide +kernel
theorem dX8_law_94 : decode cX8_law 94 = .ok (.bipush 16, 2) := by decide +kernel
theorem dX8_law_96 : decode cX8_law 96 = .ok (.iload 5, 2) := by decide +kernel
theorem dX8_law_98 : decode cX8_law 98 = .ok (.imul, 1) := by decide +kernel
theorem dX8_law_99 : decode cX8_law 99 = .ok (.iadd, 1) := by decide +kernel
theorem dX8_law_100 : decode cX8_law 100 = .ok (.iload 6, 2) := by decide +kernel
theorem dX8_law_102 : decode cX8_law 102 = .ok (.iadd, 1) := by decide +kernel
theorem dX8_law_103 : decode cX8_law 103 = .ok (.ireturn, 1) := by decide +kernel
theorem dX8_law_104 : decode cX8_law 104 = .ok (.iinc 6 1, 3) := by decide +kernel
theorem dX8_law_107 : decode cX8_law 107 = .ok (.goto (-39), 3) := by decide +kernel
theorem dX8_law_110 : decode cX8_law 110 = .ok (.iinc 5 1, 3) := by decide +kernel
theorem dX8_law_113 : decode cX8_law 113 = .ok (.goto (-54), 3) := by decide +kernel
theorem dX8_law_116 : decode cX8_law 116 = .ok (.iinc 4 1, 3) := by decide +kernel
theorem dX8_law_119 : decode cX8_law 119 = .ok (.goto (-70), 3) := by decide +kernel
theorem dX8_law_122 : decode cX8_law 122 = .ok (.iconst (-1), 1) := by decide +kernel
theorem dX8_law_123 : decode cX8_law 123 = .ok (.ireturn, 1) := by decide +kernel
set_option maxRecDepth 20000 in
theorem ggX8_about_X8_in : GoodIn wsX8_about wsX8_in := goodIn_r _ [8] (by decide +kernel) (by decide +kernel)
set_option maxRecDepth 20000 in
theorem gX8_about_X8_in : GoodIn wsX8_about (va_wsS RX8 67 yX8_in wsX8_in) := goodIn_app (goodIn_of _ (by decide +kernel)) ggX8_about_X8_in
theorem dX8_about_0 : decode cX8_about 0 = .ok (.iload_n 1, 1) := by decide +kernel
theorem dX8_about_1 : decode cX8_about 1 = .ok (.tableswitch 42 0 2 #[27, 32, 37], 27) := by decide +kernel
theorem dX8_about_28 : decode cX8_about 28 = .ok (.aload_n 0, 1) := by decide +kernel
theorem dX8_about_29 : decode cX8_about 29 = .ok (.getfield 71, 3) := by decide +kernel
theorem dX8_about_32 : decode cX8_about 32 = .ok (.ireturn, 1) := by decide +kernel
theorem dX8_about_33 : decode cX8_about 33 = .ok (.aload_n 0, 1) := by decide +kernel
theorem dX8_about_34 : decode cX8_about 34 = .ok (.getfield 75, 3) := by decide +kernel
theorem dX8_about_37 : decode cX8_about 37 = .ok (.ireturn, 1) := by decide +kernel
theorem dX8_about_38 : decode cX8_about 38 = .ok (.aload_n 0, 1) := by decide +kernel
theorem dX8_about_39 : decode cX8_about 39 = .ok (.getfield 78, 3) := by decide +kernel
theorem dX8_about_42 : decode cX8_about 42 = .ok (.ireturn, 1) := by decide +kernel
theorem dX8_about_43 : decode cX8_about 43 = .ok (.iload_n 1, 1) := by decide +kernel
theorem dX8_about_44 : decode cX8_about 44 = .ok (.iconst 3, 1) := by decide +kernel
theorem dX8_about_45 : decode cX8_about 45 = .ok (.bipush 8, 2) := by decide +kernel
theorem dX8_about_47 : decode cX8_about 47 = .ok (.invokestatic 67, 3) := by decide +kernel
theorem dX8_about_50 : decode cX8_about 50 = .ok (.ifCond .eq 14, 3) := by decide +kernel
theorem dX8_about_53 : decode cX8_about 53 = .ok (.aload_n 0, 1) := by decide +kernel
theorem dX8_about_54 : decode cX8_about 54 = .ok (.getfield 28, 3) := by decide +kernel
theorem dX8_about_57 : decode cX8_about 57 = .ok (.iload_n 1, 1) := by decide +kernel
theorem dX8_about_58 : decode cX8_about 58 = .ok (.iconst 3, 1) := by decide +kernel
theorem dX8_about_59 : decode cX8_about 59 = .ok (.isub, 1) := by decide +kernel
theorem dX8_about_60 : decode cX8_about 60 = .ok (.iaload, 1) := by decide +kernel
theorem dX8_about_61 : decode cX8_about 61 = .ok (.goto 5, 3) := by decide +kernel
theorem dX8_about_64 : decode cX8_about 64 = .ok (.bipush (-102), 2) := by decide +kernel
theorem dX8_about_66 : decode cX8_about 66 = .ok (.ireturn, 1) := by decide +kernel
theorem dX8_rowOf_0 : decode cX8_rowOf 0 = .ok (.bipush 12, 2) := by decide +kernel
theorem dX8_rowOf_2 : decode cX8_rowOf 2 = .ok (.bipush 17, 2) := by decide +kernel
theorem dX8_rowOf_4 : decode cX8_rowOf 4 = .ok (.iload_n 0, 1) := by decide +kernel
theorem dX8_rowOf_5 : decode cX8_rowOf 5 = .ok (.imul, 1) := by decide +kernel
theorem dX8_rowOf_6 : decode cX8_rowOf 6 = .ok (.iadd, 1) := by decide +kernel
theorem dX8_rowOf_7 : decode cX8_rowOf 7 = .ok (.ireturn, 1) := by decide +kernel
theorem dX8_load_0 : decode cX8_load 0 = .ok (.iconst 0, 1) := by decide +kernel
theorem dX8_load_1 : decode cX8_load 1 = .ok (.istore_n 2, 1) := by decide +kernel
theorem dX8_load_2 : decode cX8_load 2 = .ok (.iload_n 2, 1) := by decide +kernel
theorem dX8_load_3 : decode cX8_load 3 = .ok (.sipush 148, 3) := by decide +kernel
theorem dX8_load_6 : decode cX8_load 6 = .ok (.if_icmp .ge 27, 3) := by decide +kernel
theorem dX8_load_9 : decode cX8_load 9 = .ok (.aload_n 0, 1) := by decide +kernel
theorem dX8_load_10 : decode cX8_load 10 = .ok (.getfield 42, 3) := by decide +kernel
theorem dX8_load_13 : decode cX8_load 13 = .ok (.iload_n 2, 1) := by decide +kernel
theorem dX8_load_14 : decode cX8_load 14 = .ok (.aload_n 0, 1) := by decide +kernel
theorem dX8_load_15 : decode cX8_load 15 = .ok (.getfield 35, 3) := by decide +kernel
theorem dX8_load_18 : decode cX8_load 18 = .ok (.sipush 148, 3) := by decide +kernel
theorem dX8_load_21 : decode cX8_load 21 = .ok (.iload_n 1, 1) := by decide +kernel
theorem dX8_load_22 : decode cX8_load 22 = .ok (.imul, 1) := by decide +kernel
theorem dX8_load_23 : decode cX8_load 23 = .ok (.iload_n 2, 1) := by decide +kernel
theorem dX8_load_24 : decode cX8_load 24 = .ok (.iadd, 1) := by decide +kernel
theorem dX8_load_25 : decode cX8_load 25 = .ok (.baload, 1) := by decide +kernel
theorem dX8_load_26 : decode cX8_load 26 = .ok (.bastore, 1) := by decide +kernel
theorem dX8_load_27 : decode cX8_load 27 = .ok (.iinc 2 1, 3) := by decide +kernel
theorem dX8_load_30 : decode cX8_load 30 = .ok (.goto (-28), 3) := by decide +kernel
theorem dX8_load_33 : decode cX8_load 33 = .ok (.return_, 1) := by decide +kernel
set_option maxRecDepth 20000 in
theorem ggX8_send_X8_rowOf : GoodIn wsX8_send wsX8_rowOf := goodIn_r _ [6] (by decide +kernel) (by decide +kernel)
set_option maxRecDepth 20000 in
theorem gX8_send_X8_rowOf : GoodIn wsX8_send (va_wsS RX8 96 yX8_rowOf wsX8_rowOf) := goodIn_app (goodIn_of _ (by decide +kernel)) ggX8_send_X8_rowOf
theorem dX8_send_0 : decode cX8_send 0 = .ok (.iload_n 1, 1) := by decide +kernel
theorem dX8_send_1 : decode cX8_send 1 = .ok (.invokestatic 96, 3) := by decide +kernel
theorem dX8_send_4 : decode cX8_send 4 = .ok (.istore_n 3, 1) := by decide +kernel
theorem dX8_send_5 : decode cX8_send 5 = .ok (.aload_n 0, 1) := by decide +kernel
theorem dX8_send_6 : decode cX8_send 6 = .ok (.getfield 42, 3) := by decide +kernel
theorem dX8_send_9 : decode cX8_send 9 = .ok (.iload_n 3, 1) := by decide +kernel
theorem dX8_send_10 : decode cX8_send 10 = .ok (.baload, 1) := by decide +kernel
theorem dX8_send_11 : decode cX8_send 11 = .ok (.istore 4, 2) := by decide +kernel
theorem dX8_send_13 : decode cX8_send 13 = .ok (.iload 4, 2) := by decide +kernel
theorem dX8_send_15 : decode cX8_send 15 = .ok (.istore 5, 2) := by decide +kernel
theorem dX8_send_17 : decode cX8_send 17 = .ok (.aload_n 0, 1) := by decide +kernel
theorem dX8_send_18 : decode cX8_send 18 = .ok (.getfield 28, 3) := by decide +kernel
theorem dX8_send_21 : decode cX8_send 21 = .ok (.iconst 4, 1) := by decide +kernel
theorem dX8_send_22 : decode cX8_send 22 = .ok (.iaload, 1) := by decide +kernel
theorem dX8_send_23 : decode cX8_send 23 = .ok (.ifCond .ne 47, 3) := by decide +kernel
theorem dX8_send_26 : decode cX8_send 26 = .ok (.iload 5, 2) := by decide +kernel
theorem dX8_send_28 : decode cX8_send 28 = .ok (.ifCond .le 42, 3) := by decide +kernel
theorem dX8_send_31 : decode cX8_send 31 = .ok (.aload_n 0, 1) := by decide +kernel
theorem dX8_send_32 : decode cX8_send 32 = .ok (.getfield 42, 3) := by decide +kernel
theorem dX8_send_35 : decode cX8_send 35 = .ok (.iload_n 3, 1) := by decide +kernel
theorem dX8_send_36 : decode cX8_send 36 = .ok (.iload 5, 2) := by decide +kernel
theorem dX8_send_38 : decode cX8_send 38 = .ok (.iadd, 1) := by decide +kernel
theorem dX8_send_39 : decode cX8_send 39 = .ok (.baload, 1) := by decide +kernel
theorem dX8_send_40 : decode cX8_send 40 = .ok (.iload_n 2, 1) := by decide +kernel
theorem dX8_send_41 : decode cX8_send 41 = .ok (.if_icmp .le 29, 3) := by decide +kernel
theorem dX8_send_44 : decode cX8_send 44 = .ok (.aload_n 0, 1) := by decide +kernel
theorem dX8_send_45 : decode cX8_send 45 = .ok (.getfield 42, 3) := by decide +kernel
theorem dX8_send_48 : decode cX8_send 48 = .ok (.iload_n 3, 1) := by decide +kernel
theorem dX8_send_49 : decode cX8_send 49 = .ok (.iconst 1, 1) := by decide +kernel
theorem dX8_send_50 : decode cX8_send 50 = .ok (.iadd, 1) := by decide +kernel
theorem dX8_send_51 : decode cX8_send 51 = .ok (.iload 5, 2) := by decide +kernel
theorem dX8_send_53 : decode cX8_send 53 = .ok (.iadd, 1) := by decide +kernel
theorem dX8_send_54 : decode cX8_send 54 = .ok (.aload_n 0, 1) := by decide +kernel
theorem dX8_send_55 : decode cX8_send 55 = .ok (.getfield 42, 3) := by decide +kernel
theorem dX8_send_58 : decode cX8_send 58 = .ok (.iload_n 3, 1) := by decide +kernel
theorem dX8_send_59 : decode cX8_send 59 = .ok (.iload 5, 2) := by decide +kernel
theorem dX8_send_61 : decode cX8_send 61 = .ok (.iadd, 1) := by decide +kernel
theorem dX8_send_62 : decode cX8_send 62 = .ok (.baload, 1) := by decide +kernel
theorem dX8_send_63 : decode cX8_send 63 = .ok (.bastore, 1) := by decide +kernel
theorem dX8_send_64 : decode cX8_send 64 = .ok (.iinc 5 (-1), 3) := by decide +kernel
theorem dX8_send_67 : decode cX8_send 67 = .ok (.goto (-50), 3) := by decide +kernel
theorem dX8_send_70 : decode cX8_send 70 = .ok (.aload_n 0, 1) := by decide +kernel
theorem dX8_send_71 : decode cX8_send 71 = .ok (.getfield 42, 3) := by decide +kernel
theorem dX8_send_74 : decode cX8_send 74 = .ok (.iload_n 3, 1) := by decide +kernel
theorem dX8_send_75 : decode cX8_send 75 = .ok (.iconst 1, 1) := by decide +kernel
theorem dX8_send_76 : decode cX8_send 76 = .ok (.iadd, 1) := by decide +kernel
theorem dX8_send_77 : decode cX8_send 77 = .ok (.iload 5, 2) := by decide +kernel
theorem dX8_send_79 : decode cX8_send 79 = .ok (.iadd, 1) := by decide +kernel
theorem dX8_send_80 : decode cX8_send 80 = .ok (.iload_n 2, 1) := by decide +kernel
theorem dX8_send_81 : decode cX8_send 81 = .ok (.i2b, 1) := by decide +kernel
theorem dX8_send_82 : decode cX8_send 82 = .ok (.bastore, 1) := by decide +kernel
theorem dX8_send_83 : decode cX8_send 83 = .ok (.aload_n 0, 1) := by decide +kernel
theorem dX8_send_84 : decode cX8_send 84 = .ok (.getfield 42, 3) := by decide +kernel
theorem dX8_send_87 : decode cX8_send 87 = .ok (.iload_n 3, 1) := by decide +kernel
theorem dX8_send_88 : decode cX8_send 88 = .ok (.iload 4, 2) := by decide +kernel
theorem dX8_send_90 : decode cX8_send 90 = .ok (.iconst 1, 1) := by decide +kernel
theorem dX8_send_91 : decode cX8_send 91 = .ok (.iadd, 1) := by decide +kernel
theorem dX8_send_92 : decode cX8_send 92 = .ok (.i2b, 1) := by decide +kernel
theorem dX8_send_93 : decode cX8_send 93 = .ok (.bastore, 1) := by decide +kernel
theorem dX8_send_94 : decode cX8_send 94 = .ok (.return_, 1) := by decide +kernel
set_option maxRecDepth 20000 in
theorem ggX8_takeOff_X8_rowOf : GoodIn wsX8_takeOff wsX8_rowOf := goodIn_r _ [5] (by decide +kernel) (by decide +kernel)
set_option maxRecDepth 20000 in
theorem gX8_takeOff_X8_rowOf : GoodIn wsX8_takeOff (va_wsS RX8 96 yX8_rowOf wsX8_rowOf) := goodIn_app (goodIn_of _ (by decide +kernel)) ggX8_takeOff_X8_rowOf
theorem dX8_takeOff_0 : decode cX8_takeOff 0 = .ok (.iload_n 1, 1) := by decide +kernel
theorem dX8_takeOff_1 : decode cX8_takeOff 1 = .ok (.invokestatic 96, 3) := by decide +kernel
theorem dX8_takeOff_4 : decode cX8_takeOff 4 = .ok (.istore_n 3, 1) := by decide +kernel
theorem dX8_takeOff_5 : decode cX8_takeOff 5 = .ok (.aload_n 0, 1) := by decide +kernel
theorem dX8_takeOff_6 : decode cX8_takeOff 6 = .ok (.getfield 42, 3) := by decide +kernel
theorem dX8_takeOff_9 : decode cX8_takeOff 9 = .ok (.iload_n 3, 1) := by decide +kernel
theorem dX8_takeOff_10 : decode cX8_takeOff 10 = .ok (.baload, 1) := by decide +kernel
theorem dX8_takeOff_11 : decode cX8_takeOff 11 = .ok (.istore 4, 2) := by decide +kernel
theorem dX8_takeOff_13 : decode cX8_takeOff 13 = .ok (.iload_n 2, 1) := by decide +kernel
theorem dX8_takeOff_14 : decode cX8_takeOff 14 = .ok (.istore 5, 2) := by decide +kernel
theorem dX8_takeOff_16 : decode cX8_takeOff 16 = .ok (.iload 5, 2) := by decide +kernel
theorem dX8_takeOff_18 : decode cX8_takeOff 18 = .ok (.iconst 1, 1) := by decide +kernel
theorem dX8_takeOff_19 : decode cX8_takeOff 19 = .ok (.iadd, 1) := by decide +kernel
theorem dX8_takeOff_20 : decode cX8_takeOff 20 = .ok (.iload 4, 2) := by decide +kernel
theorem dX8_takeOff_22 : decode cX8_takeOff 22 = .ok (.if_icmp .ge 31, 3) := by decide +kernel
theorem dX8_takeOff_25 : decode cX8_takeOff 25 = .ok (.aload_n 0, 1) := by decide +kernel
theorem dX8_takeOff_26 : decode cX8_takeOff 26 = .ok (.getfield 42, 3) := by decide +kernel
theorem dX8_takeOff_29 : decode cX8_takeOff 29 = .ok (.iload_n 3, 1) := by decide +kernel
theorem dX8_takeOff_30 : decode cX8_takeOff 30 = .ok (.iconst 1, 1) := by decide +kernel
theorem dX8_takeOff_31 : decode cX8_takeOff 31 = .ok (.iadd, 1) := by decide +kernel
theorem dX8_takeOff_32 : decode cX8_takeOff 32 = .ok (.iload 5, 2) := by decide +kernel
theorem dX8_takeOff_34 : decode cX8_takeOff 34 = .ok (.iadd, 1) := by decide +kernel
theorem dX8_takeOff_35 : decode cX8_takeOff 35 = .ok (.aload_n 0, 1) := by decide +kernel
theorem dX8_takeOff_36 : decode cX8_takeOff 36 = .ok (.getfield 42, 3) := by decide +kernel
theorem dX8_takeOff_39 : decode cX8_takeOff 39 = .ok (.iload_n 3, 1) := by decide +kernel
theorem dX8_takeOff_40 : decode cX8_takeOff 40 = .ok (.iconst 2, 1) := by decide +kernel
theorem dX8_takeOff_41 : decode cX8_takeOff 41 = .ok (.iadd, 1) := by decide +kernel
theorem dX8_takeOff_42 : decode cX8_takeOff 42 = .ok (.iload 5, 2) := by decide +kernel
theorem dX8_takeOff_44 : decode cX8_takeOff 44 = .ok (.iadd, 1) := by decide +kernel
theorem dX8_takeOff_45 : decode cX8_takeOff 45 = .ok (.baload, 1) := by decide +kernel
theorem dX8_takeOff_46 : decode cX8_takeOff 46 = .ok (.bastore, 1) := by decide +kernel
theorem dX8_takeOff_47 : decode cX8_takeOff 47 = .ok (.iinc 5 1, 3) := by decide +kernel
theorem dX8_takeOff_50 : decode cX8_takeOff 50 = .ok (.goto (-34), 3) := by decide +kernel
theorem dX8_takeOff_53 : decode cX8_takeOff 53 = .ok (.aload_n 0, 1) := by decide +kernel
theorem dX8_takeOff_54 : decode cX8_takeOff 54 = .ok (.getfield 42, 3) := by decide +kernel
theorem dX8_takeOff_57 : decode cX8_takeOff 57 = .ok (.iload_n 3, 1) := by decide +kernel
theorem dX8_takeOff_58 : decode cX8_takeOff 58 = .ok (.iload 4, 2) := by decide +kernel
theorem dX8_takeOff_60 : decode cX8_takeOff 60 = .ok (.iadd, 1) := by decide +kernel
theorem dX8_takeOff_61 : decode cX8_takeOff 61 = .ok (.iconst 0, 1) := by decide +kernel
theorem dX8_takeOff_62 : decode cX8_takeOff 62 = .ok (.bastore, 1) := by decide +kernel
theorem dX8_takeOff_63 : decode cX8_takeOff 63 = .ok (.aload_n 0, 1) := by decide +kernel
theorem dX8_takeOff_64 : decode cX8_takeOff 64 = .ok (.getfield 42, 3) := by decide +kernel
theorem dX8_takeOff_67 : decode cX8_takeOff 67 = .ok (.iload_n 3, 1) := by decide +kernel
theorem dX8_takeOff_68 : decode cX8_takeOff 68 = .ok (.iload 4, 2) := by decide +kernel
theorem dX8_takeOff_70 : decode cX8_takeOff 70 = .ok (.iconst 1, 1) := by decide +kernel
theorem dX8_takeOff_71 : decode cX8_takeOff 71 = .ok (.isub, 1) := by decide +kernel
theorem dX8_takeOff_72 : decode cX8_takeOff 72 = .ok (.i2b, 1) := by decide +kernel
theorem dX8_takeOff_73 : decode cX8_takeOff 73 = .ok (.bastore, 1) := by decide +kernel
theorem dX8_takeOff_74 : decode cX8_takeOff 74 = .ok (.return_, 1) := by decide +kernel
set_option maxRecDepth 20000 in
theorem ggX8_comes_X8_folded : GoodIn wsX8_comes wsX8_folded := goodIn_r _ [10, 2, 11, 23, 24, 25, 26, 27, 28, 29, 30, 31, 32, 33, 34, 35, 36, 37, 38, 39, 40, 41, 42, 43, 44, 45, 46, 47, 48, 49, 50, 51] (by decide +kernel) (by decide +kernel)
set_option maxRecDepth 20000 in
theorem gX8_comes_X8_folded : GoodIn wsX8_comes (wsV RX8 85 RX8 yX8_folded wsX8_folded) := goodIn_app (goodIn_of _ (by decide +kernel)) ggX8_comes_X8_folded
set_option maxRecDepth 20000 in
theorem ggX8_comes_X8_outOf : GoodIn wsX8_comes wsX8_outOf := goodIn_r _ [15, 2, 23, 24, 25, 26, 27, 28, 29, 30, 31, 32, 33, 34, 35, 36, 37, 38, 39, 40, 41, 42, 43, 44, 45, 46, 47, 48, 49, 50, 51] (by decide +kernel) (by decide +kernel)
set_option maxRecDepth 20000 in
theorem gX8_comes_X8_outOf : GoodIn wsX8_comes (wsV RX8 89 RX8 yX8_outOf wsX8_outOf) := goodIn_app (goodIn_of _ (by decide +kernel)) ggX8_comes_X8_outOf
set_option maxRecDepth 20000 in
theorem ggX8_comes_X8_send : GoodIn wsX8_comes wsX8_send := goodIn_r _ [19, 1, 2, 20, 21, 9, 22, 23, 24, 25, 26, 27, 28, 29, 30, 31, 32, 33, 34, 35, 36, 37, 38, 39, 40, 41, 42, 43, 44, 45, 46, 47, 48, 49, 50, 51] (by decide +kernel) (by decide +kernel)
set_option maxRecDepth 20000 in
theorem gX8_comes_X8_send : GoodIn wsX8_comes (wsV RX8 99 RX8 yX8_send wsX8_send) := goodIn_app (goodIn_of _ (by decide +kernel)) ggX8_comes_X8_send
theorem dX8_comes_0 : decode cX8_comes 0 = .ok (.aload_n 0, 1) := by decide +kernel
theorem dX8_comes_1 : decode cX8_comes 1 = .ok (.getfield 42, 3) := by decide +kernel
theorem dX8_comes_4 : decode cX8_comes 4 = .ok (.iload_n 1, 1) := by decide +kernel
theorem dX8_comes_5 : decode cX8_comes 5 = .ok (.baload, 1) := by decide +kernel
theorem dX8_comes_6 : decode cX8_comes 6 = .ok (.istore 4, 2) := by decide +kernel
theorem dX8_comes_8 : decode cX8_comes 8 = .ok (.aload_n 0, 1) := by decide +kernel
theorem dX8_comes_9 : decode cX8_comes 9 = .ok (.iload 4, 2) := by decide +kernel
theorem dX8_comes_11 : decode cX8_comes 11 = .ok (.iload_n 2, 1) := by decide +kernel
theorem dX8_comes_12 : decode cX8_comes 12 = .ok (.invokevirtual 85, 3) := by decide +kernel
theorem dX8_comes_15 : decode cX8_comes 15 = .ok (.istore 5, 2) := by decide +kernel
theorem dX8_comes_17 : decode cX8_comes 17 = .ok (.aload_n 0, 1) := by decide +kernel
theorem dX8_comes_18 : decode cX8_comes 18 = .ok (.getfield 42, 3) := by decide +kernel
theorem dX8_comes_21 : decode cX8_comes 21 = .ok (.iload_n 1, 1) := by decide +kernel
theorem dX8_comes_22 : decode cX8_comes 22 = .ok (.iload 5, 2) := by decide +kernel
theorem dX8_comes_24 : decode cX8_comes 24 = .ok (.i2b, 1) := by decide +kernel
theorem dX8_comes_25 : decode cX8_comes 25 = .ok (.bastore, 1) := by decide +kernel
theorem dX8_comes_26 : decode cX8_comes 26 = .ok (.iload 5, 2) := by decide +kernel
theorem dX8_comes_28 : decode cX8_comes 28 = .ok (.iload 4, 2) := by decide +kernel
theorem dX8_comes_30 : decode cX8_comes 30 = .ok (.if_icmp .ne 13, 3) := by decide +kernel
theorem dX8_comes_33 : decode cX8_comes 33 = .ok (.aload_n 0, 1) := by decide +kernel
theorem dX8_comes_34 : decode cX8_comes 34 = .ok (.getfield 28, 3) := by decide +kernel
theorem dX8_comes_37 : decode cX8_comes 37 = .ok (.iconst 2, 1) := by decide +kernel
theorem dX8_comes_38 : decode cX8_comes 38 = .ok (.iaload, 1) := by decide +kernel
theorem dX8_comes_39 : decode cX8_comes 39 = .ok (.iconst 1, 1) := by decide +kernel
theorem dX8_comes_40 : decode cX8_comes 40 = .ok (.if_icmp .ne 90, 3) := by decide +kernel
theorem dX8_comes_43 : decode cX8_comes 43 = .ok (.aload_n 0, 1) := by decide +kernel
theorem dX8_comes_44 : decode cX8_comes 44 = .ok (.getfield 42, 3) := by decide +kernel
theorem dX8_comes_47 : decode cX8_comes 47 = .ok (.iconst 5, 1) := by decide +kernel
theorem dX8_comes_48 : decode cX8_comes 48 = .ok (.iload_n 1, 1) := by decide +kernel
theorem dX8_comes_49 : decode cX8_comes 49 = .ok (.iadd, 1) := by decide +kernel
theorem dX8_comes_50 : decode cX8_comes 50 = .ok (.baload, 1) := by decide +kernel
theorem dX8_comes_51 : decode cX8_comes 51 = .ok (.aload_n 0, 1) := by decide +kernel
theorem dX8_comes_52 : decode cX8_comes 52 = .ok (.getfield 28, 3) := by decide +kernel
theorem dX8_comes_55 : decode cX8_comes 55 = .ok (.iconst 3, 1) := by decide +kernel
theorem dX8_comes_56 : decode cX8_comes 56 = .ok (.iaload, 1) := by decide +kernel
theorem dX8_comes_57 : decode cX8_comes 57 = .ok (.if_icmp .ge 73, 3) := by decide +kernel
theorem dX8_comes_60 : decode cX8_comes 60 = .ok (.aload_n 0, 1) := by decide +kernel
theorem dX8_comes_61 : decode cX8_comes 61 = .ok (.getfield 42, 3) := by decide +kernel
theorem dX8_comes_64 : decode cX8_comes 64 = .ok (.iconst 5, 1) := by decide +kernel
theorem dX8_comes_65 : decode cX8_comes 65 = .ok (.iload_n 1, 1) := by decide +kernel
theorem dX8_comes_66 : decode cX8_comes 66 = .ok (.iadd, 1) := by decide +kernel
theorem dX8_comes_67 : decode cX8_comes 67 = .ok (.dup2, 1) := by decide +kernel
theorem dX8_comes_68 : decode cX8_comes 68 = .ok (.baload, 1) := by decide +kernel
theorem dX8_comes_69 : decode cX8_comes 69 = .ok (.iconst 1, 1) := by decide +kernel
theorem dX8_comes_70 : decode cX8_comes 70 = .ok (.iadd, 1) := by decide +kernel
theorem dX8_comes_71 : decode cX8_comes 71 = .ok (.i2b, 1) := by decide +kernel
theorem dX8_comes_72 : decode cX8_comes 72 = .ok (.bastore, 1) := by decide +kernel
theorem dX8_comes_73 : decode cX8_comes 73 = .ok (.iconst 0, 1) := by decide +kernel
theorem dX8_comes_74 : decode cX8_comes 74 = .ok (.istore 6, 2) := by decide +kernel
theorem dX8_comes_76 : decode cX8_comes 76 = .ok (.iload 6, 2) := by decide +kernel
theorem dX8_comes_78 : decode cX8_comes 78 = .ok (.aload_n 0, 1) := by decide +kernel
theorem dX8_comes_79 : decode cX8_comes 79 = .ok (.getfield 75, 3) := by decide +kernel
theorem dX8_comes_82 : decode cX8_comes 82 = .ok (.if_icmp .ge 48, 3) := by decide +kernel
theorem dX8_comes_85 : decode cX8_comes 85 = .ok (.aload_n 0, 1) := by decide +kernel
theorem dX8_comes_86 : decode cX8_comes 86 = .ok (.getfield 13, 3) := by decide +kernel
theorem dX8_comes_89 : decode cX8_comes 89 = .ok (.iload 6, 2) := by decide +kernel
theorem dX8_comes_91 : decode cX8_comes 91 = .ok (.iaload, 1) := by decide +kernel
theorem dX8_comes_92 : decode cX8_comes 92 = .ok (.iload_n 1, 1) := by decide +kernel
theorem dX8_comes_93 : decode cX8_comes 93 = .ok (.if_icmp .ne 31, 3) := by decide +kernel
theorem dX8_comes_96 : decode cX8_comes 96 = .ok (.iload_n 3, 1) := by decide +kernel
theorem dX8_comes_97 : decode cX8_comes 97 = .ok (.iload 6, 2) := by decide +kernel
theorem dX8_comes_99 : decode cX8_comes 99 = .ok (.ishr, 1) := by decide +kernel
theorem dX8_comes_100 : decode cX8_comes 100 = .ok (.iconst 1, 1) := by decide +kernel
theorem dX8_comes_101 : decode cX8_comes 101 = .ok (.iand, 1) := by decide +kernel
theorem dX8_comes_102 : decode cX8_comes 102 = .ok (.ifCond .ne 22, 3) := by decide +kernel
theorem dX8_comes_105 : decode cX8_comes 105 = .ok (.aload_n 0, 1) := by decide +kernel
theorem dX8_comes_106 : decode cX8_comes 106 = .ok (.iload 6, 2) := by decide +kernel
theorem dX8_comes_108 : decode cX8_comes 108 = .ok (.aload_n 0, 1) := by decide +kernel
theorem dX8_comes_109 : decode cX8_comes 109 = .ok (.iload 5, 2) := by decide +kernel
theorem dX8_comes_111 : decode cX8_comes 111 = .ok (.aload_n 0, 1) := by decide +kernel
theorem dX8_comes_112 : decode cX8_comes 112 = .ok (.getfield 19, 3) := by decide +kernel
theorem dX8_comes_115 : decode cX8_comes 115 = .ok (.iload 6, 2) := by decide +kernel
theorem dX8_comes_117 : decode cX8_comes 117 = .ok (.iaload, 1) := by decide +kernel
theorem dX8_comes_118 : decode cX8_comes 118 = .ok (.invokevirtual 89, 3) := by decide +kernel
theorem dX8_comes_121 : decode cX8_comes 121 = .ok (.invokevirtual 99, 3) := by decide +kernel
theorem dX8_comes_124 : decode cX8_comes 124 = .ok (.iinc 6 1, 3) := by decide +kernel
theorem dX8_comes_127 : decode cX8_comes 127 = .ok (.goto (-51), 3) := by decide +kernel
theorem dX8_comes_130 : decode cX8_comes 130 = .ok (.return_, 1) := by decide +kernel
theorem dX8_hash_0 : decode cX8_hash 0 = .ok (.bipush 17, 2) := by decide +kernel
theorem dX8_hash_2 : decode cX8_hash 2 = .ok (.istore_n 1, 1) := by decide +kernel
theorem dX8_hash_3 : decode cX8_hash 3 = .ok (.iconst 0, 1) := by decide +kernel
theorem dX8_hash_4 : decode cX8_hash 4 = .ok (.istore_n 2, 1) := by decide +kernel
theorem dX8_hash_5 : decode cX8_hash 5 = .ok (.iload_n 2, 1) := by decide +kernel
theorem dX8_hash_6 : decode cX8_hash 6 = .ok (.sipush 148, 3) := by decide +kernel
theorem dX8_hash_9 : decode cX8_hash 9 = .ok (.if_icmp .ge 18, 3) := by decide +kernel
theorem dX8_hash_12 : decode cX8_hash 12 = .ok (.bipush 31, 2) := by decide +kernel
theorem dX8_hash_14 : decode cX8_hash 14 = .ok (.iload_n 1, 1) := by decide +kernel
theorem dX8_hash_15 : decode cX8_hash 15 = .ok (.imul, 1) := by decide +kernel
theorem dX8_hash_16 : decode cX8_hash 16 = .ok (.aload_n 0, 1) := by decide +kernel
theorem dX8_hash_17 : decode cX8_hash 17 = .ok (.iload_n 2, 1) := by decide +kernel
theorem dX8_hash_18 : decode cX8_hash 18 = .ok (.baload, 1) := by decide +kernel
theorem dX8_hash_19 : decode cX8_hash 19 = .ok (.iadd, 1) := by decide +kernel
theorem dX8_hash_20 : decode cX8_hash 20 = .ok (.istore_n 1, 1) := by decide +kernel
theorem dX8_hash_21 : decode cX8_hash 21 = .ok (.iinc 2 1, 3) := by decide +kernel
theorem dX8_hash_24 : decode cX8_hash 24 = .ok (.goto (-19), 3) := by decide +kernel
theorem dX8_hash_27 : decode cX8_hash 27 = .ok (.iload_n 1, 1) := by decide +kernel
theorem dX8_hash_28 : decode cX8_hash 28 = .ok (.iload_n 1, 1) := by decide +kernel
theorem dX8_hash_29 : decode cX8_hash 29 = .ok (.bipush 15, 2) := by decide +kernel
theorem dX8_hash_31 : decode cX8_hash 31 = .ok (.iushr, 1) := by decide +kernel
theorem dX8_hash_32 : decode cX8_hash 32 = .ok (.ixor, 1) := by decide +kernel
theorem dX8_hash_33 : decode cX8_hash 33 = .ok (.sipush 2047, 3) := by decide +kernel
theorem dX8_hash_36 : decode cX8_hash 36 = .ok (.iand, 1) := by decide +kernel
theorem dX8_hash_37 : decode cX8_hash 37 = .ok (.ireturn, 1) := by decide +kernel
theorem dX8_isSame_0 : decode cX8_isSame 0 = .ok (.iconst 0, 1) := by decide +kernel
theorem dX8_isSame_1 : decode cX8_isSame 1 = .ok (.istore_n 2, 1) := by decide +kernel
theorem dX8_isSame_2 : decode cX8_isSame 2 = .ok (.iload_n 2, 1) := by decide +kernel
theorem dX8_isSame_3 : decode cX8_isSame 3 = .ok (.sipush 148, 3) := by decide +kernel
theorem dX8_isSame_6 : decode cX8_isSame 6 = .ok (.if_icmp .ge 30, 3) := by decide +kernel
theorem dX8_isSame_9 : decode cX8_isSame 9 = .ok (.aload_n 0, 1) := by decide +kernel
theorem dX8_isSame_10 : decode cX8_isSame 10 = .ok (.getfield 35, 3) := by decide +kernel
theorem dX8_isSame_13 : decode cX8_isSame 13 = .ok (.sipush 148, 3) := by decide +kernel
theorem dX8_isSame_16 : decode cX8_isSame 16 = .ok (.iload_n 1, 1) := by decide +kernel
theorem dX8_isSame_17 : decode cX8_isSame 17 = .ok (.imul, 1) := by decide +kernel
theorem dX8_isSame_18 : decode cX8_isSame 18 = .ok (.iload_n 2, 1) := by decide +kernel
theorem dX8_isSame_19 : decode cX8_isSame 19 = .ok (.iadd, 1) := by decide +kernel
theorem dX8_isSame_20 : decode cX8_isSame 20 = .ok (.baload, 1) := by decide +kernel
theorem dX8_isSame_21 : decode cX8_isSame 21 = .ok (.aload_n 0, 1) := by decide +kernel
theorem dX8_isSame_22 : decode cX8_isSame 22 = .ok (.getfield 42, 3) := by decide +kernel
theorem dX8_isSame_25 : decode cX8_isSame 25 = .ok (.iload_n 2, 1) := by decide +kernel
theorem dX8_isSame_26 : decode cX8_isSame 26 = .ok (.baload, 1) := by decide +kernel
theorem dX8_isSame_27 : decode cX8_isSame 27 = .ok (.if_icmp .ne 9, 3) := by decide +kernel
theorem dX8_isSame_30 : decode cX8_isSame 30 = .ok (.iinc 2 1, 3) := by decide +kernel
theorem dX8_isSame_33 : decode cX8_isSame 33 = .ok (.goto (-31), 3) := by decide +kernel
theorem dX8_isSame_36 : decode cX8_isSame 36 = .ok (.iload_n 2, 1) := by decide +kernel
theorem dX8_isSame_37 : decode cX8_isSame 37 = .ok (.sipush 148, 3) := by decide +kernel
theorem dX8_isSame_40 : decode cX8_isSame 40 = .ok (.if_icmp .ne 7, 3) := by decide +kernel
theorem dX8_isSame_43 : decode cX8_isSame 43 = .ok (.iconst 1, 1) := by decide +kernel
theorem dX8_isSame_44 : decode cX8_isSame 44 = .ok (.goto 4, 3) := by decide +kernel
theorem dX8_isSame_47 : decode cX8_isSame 47 = .ok (.iconst 0, 1) := by decide +kernel
theorem dX8_isSame_48 : decode cX8_isSame 48 = .ok (.ireturn, 1) := by decide +kernel
set_option maxRecDepth 20000 in
theorem ggX8_find_X8_hash : GoodIn wsX8_find wsX8_hash := goodIn_r _ [8] (by decide +kernel) (by decide +kernel)
set_option maxRecDepth 20000 in
theorem gX8_find_X8_hash : GoodIn wsX8_find (va_wsS RX8 103 yX8_hash wsX8_hash) := goodIn_app (goodIn_of _ (by decide +kernel)) ggX8_find_X8_hash
set_option maxRecDepth 20000 in
theorem ggX8_find_X8_isSame : GoodIn wsX8_find wsX8_isSame := goodIn_r _ [12, 4, 1, 13, 14, 15, 16, 17, 18, 19, 20, 21, 22, 23, 24, 25, 26, 27, 28, 29, 30, 31, 32, 33, 34, 35, 36, 37, 38, 39, 40, 41] (by decide +kernel) (by decide +kernel)
set_option maxRecDepth 20000 in
theorem gX8_find_X8_isSame : GoodIn wsX8_find (wsV RX8 107 RX8 yX8_isSame wsX8_isSame) := goodIn_app (goodIn_of _ (by decide +kernel)) ggX8_find_X8_isSame
theorem dX8_find_0 : decode cX8_find 0 = .ok (.aload_n 0, 1) := by decide +kernel
theorem dX8_find_1 : decode cX8_find 1 = .ok (.getfield 42, 3) := by decide +kernel
theorem dX8_find_4 : decode cX8_find 4 = .ok (.invokestatic 103, 3) := by decide +kernel
theorem dX8_find_7 : decode cX8_find 7 = .ok (.istore_n 2, 1) := by decide +kernel
theorem dX8_find_8 : decode cX8_find 8 = .ok (.aload_n 0, 1) := by decide +kernel
theorem dX8_find_9 : decode cX8_find 9 = .ok (.getfield 39, 3) := by decide +kernel
theorem dX8_find_12 : decode cX8_find 12 = .ok (.iload_n 2, 1) := by decide +kernel
theorem dX8_find_13 : decode cX8_find 13 = .ok (.iaload, 1) := by decide +kernel
theorem dX8_find_14 : decode cX8_find 14 = .ok (.ifCond .le 31, 3) := by decide +kernel
theorem dX8_find_17 : decode cX8_find 17 = .ok (.aload_n 0, 1) := by decide +kernel
theorem dX8_find_18 : decode cX8_find 18 = .ok (.aload_n 0, 1) := by decide +kernel
theorem dX8_find_19 : decode cX8_find 19 = .ok (.getfield 39, 3) := by decide +kernel
theorem dX8_find_22 : decode cX8_find 22 = .ok (.iload_n 2, 1) := by decide +kernel
theorem dX8_find_23 : decode cX8_find 23 = .ok (.iaload, 1) := by decide +kernel
theorem dX8_find_24 : decode cX8_find 24 = .ok (.iconst 1, 1) := by decide +kernel
theorem dX8_find_25 : decode cX8_find 25 = .ok (.isub, 1) := by decide +kernel
theorem dX8_find_26 : decode cX8_find 26 = .ok (.invokevirtual 107, 3) := by decide +kernel
theorem dX8_find_29 : decode cX8_find 29 = .ok (.ifCond .eq 5, 3) := by decide +kernel
theorem dX8_find_32 : decode cX8_find 32 = .ok (.iconst 0, 1) := by decide +kernel
theorem dX8_find_33 : decode cX8_find 33 = .ok (.ireturn, 1) := by decide +kernel
theorem dX8_find_34 : decode cX8_find 34 = .ok (.iload_n 2, 1) := by decide +kernel
theorem dX8_find_35 : decode cX8_find 35 = .ok (.iconst 1, 1) := by decide +kernel
theorem dX8_find_36 : decode cX8_find 36 = .ok (.iadd, 1) := by decide +kernel
theorem dX8_find_37 : decode cX8_find 37 = .ok (.sipush 2048, 3) := by decide +kernel
theorem dX8_find_40 : decode cX8_find 40 = .ok (.irem, 1) := by decide +kernel
theorem dX8_find_41 : decode cX8_find 41 = .ok (.istore_n 2, 1) := by decide +kernel
theorem dX8_find_42 : decode cX8_find 42 = .ok (.goto (-34), 3) := by decide +kernel
theorem dX8_find_45 : decode cX8_find 45 = .ok (.aload_n 0, 1) := by decide +kernel
theorem dX8_find_46 : decode cX8_find 46 = .ok (.getfield 111, 3) := by decide +kernel
theorem dX8_find_49 : decode cX8_find 49 = .ok (.iload_n 1, 1) := by decide +kernel
theorem dX8_find_50 : decode cX8_find 50 = .ok (.if_icmp .ne 5, 3) := by decide +kernel
theorem dX8_find_53 : decode cX8_find 53 = .ok (.iconst (-1), 1) := by decide +kernel
theorem dX8_find_54 : decode cX8_find 54 = .ok (.ireturn, 1) := by decide +kernel
theorem dX8_find_55 : decode cX8_find 55 = .ok (.iconst 0, 1) := by decide +kernel
theorem dX8_find_56 : decode cX8_find 56 = .ok (.istore_n 3, 1) := by decide +kernel
theorem dX8_find_57 : decode cX8_find 57 = .ok (.iload_n 3, 1) := by decide +kernel
theorem dX8_find_58 : decode cX8_find 58 = .ok (.sipush 148, 3) := by decide +kernel
theorem dX8_find_61 : decode cX8_find 61 = .ok (.if_icmp .ge 30, 3) := by decide +kernel
theorem dX8_find_64 : decode cX8_find 64 = .ok (.aload_n 0, 1) := by decide +kernel
theorem dX8_find_65 : decode cX8_find 65 = .ok (.getfield 35, 3) := by decide +kernel
theorem dX8_find_68 : decode cX8_find 68 = .ok (.sipush 148, 3) := by decide +kernel
theorem dX8_find_71 : decode cX8_find 71 = .ok (.aload_n 0, 1) := by decide +kernel
theorem dX8_find_72 : decode cX8_find 72 = .ok (.getfield 111, 3) := by decide +kernel
theorem dX8_find_75 : decode cX8_find 75 = .ok (.imul, 1) := by decide +kernel
theorem dX8_find_76 : decode cX8_find 76 = .ok (.iload_n 3, 1) := by decide +kernel
theorem dX8_find_77 : decode cX8_find 77 = .ok (.iadd, 1) := by decide +kernel
theorem dX8_find_78 : decode cX8_find 78 = .ok (.aload_n 0, 1) := by decide +kernel
theorem dX8_find_79 : decode cX8_find 79 = .ok (.getfield 42, 3) := by decide +kernel
theorem dX8_find_82 : decode cX8_find 82 = .ok (.iload_n 3, 1) := by decide +kernel
theorem dX8_find_83 : decode cX8_find 83 = .ok (.baload, 1) := by decide +kernel
theorem dX8_find_84 : decode cX8_find 84 = .ok (.bastore, 1) := by decide +kernel
theorem dX8_find_85 : decode cX8_find 85 = .ok (.iinc 3 1, 3) := by decide +kernel
theorem dX8_find_88 : decode cX8_find 88 = .ok (.goto (-31), 3) := by decide +kernel
theorem dX8_find_91 : decode cX8_find 91 = .ok (.aload_n 0, 1) := by decide +kernel
theorem dX8_find_92 : decode cX8_find 92 = .ok (.dup, 1) := by decide +kernel
theorem dX8_find_93 : decode cX8_find 93 = .ok (.getfield 111, 3) := by decide +kernel
theorem dX8_find_96 : decode cX8_find 96 = .ok (.iconst 1, 1) := by decide +kernel
theorem dX8_find_97 : decode cX8_find 97 = .ok (.iadd, 1) := by decide +kernel
theorem dX8_find_98 : decode cX8_find 98 = .ok (.putfield 111, 3) := by decide +kernel
theorem dX8_find_101 : decode cX8_find 101 = .ok (.aload_n 0, 1) := by decide +kernel
theorem dX8_find_102 : decode cX8_find 102 = .ok (.getfield 39, 3) := by decide +kernel
theorem dX8_find_105 : decode cX8_find 105 = .ok (.iload_n 2, 1) := by decide +kernel
theorem dX8_find_106 : decode cX8_find 106 = .ok (.aload_n 0, 1) := by decide +kernel
theorem dX8_find_107 : decode cX8_find 107 = .ok (.getfield 111, 3) := by decide +kernel
theorem dX8_find_110 : decode cX8_find 110 = .ok (.iastore, 1) := by decide +kernel
theorem dX8_find_111 : decode cX8_find 111 = .ok (.iconst 1, 1) := by decide +kernel
theorem dX8_find_112 : decode cX8_find 112 = .ok (.ireturn, 1) := by decide +kernel
set_option maxRecDepth 20000 in
theorem ggX8_step_X8_load : GoodIn wsX8_step wsX8_load := goodIn_r _ [16, 3, 17, 58, 59, 60, 61, 62, 63, 64, 65, 66, 67, 68, 69, 70, 71, 72, 73, 74, 75, 76, 77, 78, 79, 80, 81, 82, 83, 84, 85, 86] (by decide +kernel) (by decide +kernel)
set_option maxRecDepth 20000 in
theorem gX8_step_X8_load : GoodIn wsX8_step (wsV RX8 114 RX8 yX8_load wsX8_load) := goodIn_app (goodIn_of _ (by decide +kernel)) ggX8_step_X8_load
set_option maxRecDepth 20000 in
theorem ggX8_step_X8_rowOf : GoodIn wsX8_step wsX8_rowOf := goodIn_r _ [20] (by decide +kernel) (by decide +kernel)
set_option maxRecDepth 20000 in
theorem gX8_step_X8_rowOf : GoodIn wsX8_step (va_wsS RX8 96 yX8_rowOf wsX8_rowOf) := goodIn_app (goodIn_of _ (by decide +kernel)) ggX8_step_X8_rowOf
set_option maxRecDepth 20000 in
theorem ggX8_step_X8_takeOff : GoodIn wsX8_step wsX8_takeOff := goodIn_r _ [24, 3, 18, 19, 15, 20, 58, 59, 60, 61, 62, 63, 64, 65, 66, 67, 68, 69, 70, 71, 72, 73, 74, 75, 76, 77, 78, 79, 80, 81, 82, 83, 84, 85, 86] (by decide +kernel) (by decide +kernel)
set_option maxRecDepth 20000 in
theorem gX8_step_X8_takeOff : GoodIn wsX8_step (wsV RX8 118 RX8 yX8_takeOff wsX8_takeOff) := goodIn_app (goodIn_of _ (by decide +kernel)) ggX8_step_X8_takeOff
set_option maxRecDepth 20000 in
theorem ggX8_step_X8_comes : GoodIn wsX8_step wsX8_comes := goodIn_r _ [28, 3, 29, 30, 31, 32, 33, 34, 35, 15, 36, 37, 38, 39, 40, 41, 42, 43, 44, 45, 18, 19, 20, 58, 59, 60, 61, 62, 63, 64, 65, 66, 67, 68, 69, 70, 71, 72, 73, 74, 75, 76, 77, 78, 79, 80, 81, 82, 83, 84, 85, 86] (by decide +kernel) (by decide +kernel)
set_option maxRecDepth 20000 in
theorem gX8_step_X8_comes : GoodIn wsX8_step (wsV RX8 121 RX8 yX8_comes wsX8_comes) := goodIn_app (goodIn_of _ (by decide +kernel)) ggX8_step_X8_comes
set_option maxRecDepth 20000 in
theorem ggX8_step_X8_find : GoodIn wsX8_step wsX8_find := goodIn_r _ [49, 3, 50, 8, 17, 51, 52, 15, 53, 54, 55, 56, 57, 58, 59, 60, 61, 62, 63, 64, 65, 66, 67, 68, 69, 70, 71, 72, 73, 74, 75, 76, 77, 78, 79, 80, 81, 82, 83, 84, 85, 86] (by decide +kernel) (by decide +kernel)
set_option maxRecDepth 20000 in
theorem gX8_step_X8_find : GoodIn wsX8_step (wsV RX8 125 RX8 yX8_find wsX8_find) := goodIn_app (goodIn_of _ (by decide +kernel)) ggX8_step_X8_find
theorem dX8_step_0 : decode cX8_step 0 = .ok (.aload_n 0, 1) := by decide +kernel
theorem dX8_step_1 : decode cX8_step 1 = .ok (.iload_n 1, 1) := by decide +kernel
theorem dX8_step_2 : decode cX8_step 2 = .ok (.invokevirtual 114, 3) := by decide +kernel
theorem dX8_step_5 : decode cX8_step 5 = .ok (.iload_n 2, 1) := by decide +kernel
theorem dX8_step_6 : decode cX8_step 6 = .ok (.bipush 100, 2) := by decide +kernel
theorem dX8_step_8 : decode cX8_step 8 = .ok (.if_icmp .lt 54, 3) := by decide +kernel
theorem dX8_step_11 : decode cX8_step 11 = .ok (.aload_n 0, 1) := by decide +kernel
theorem dX8_step_12 : decode cX8_step 12 = .ok (.getfield 22, 3) := by decide +kernel
theorem dX8_step_15 : decode cX8_step 15 = .ok (.iload_n 2, 1) := by decide +kernel
theorem dX8_step_16 : decode cX8_step 16 = .ok (.bipush 100, 2) := by decide +kernel
theorem dX8_step_18 : decode cX8_step 18 = .ok (.isub, 1) := by decide +kernel
theorem dX8_step_19 : decode cX8_step 19 = .ok (.iaload, 1) := by decide +kernel
theorem dX8_step_20 : decode cX8_step 20 = .ok (.istore 7, 2) := by decide +kernel
theorem dX8_step_22 : decode cX8_step 22 = .ok (.aload_n 0, 1) := by decide +kernel
theorem dX8_step_23 : decode cX8_step 23 = .ok (.getfield 25, 3) := by decide +kernel
theorem dX8_step_26 : decode cX8_step 26 = .ok (.iload_n 2, 1) := by decide +kernel
theorem dX8_step_27 : decode cX8_step 27 = .ok (.bipush 100, 2) := by decide +kernel
theorem dX8_step_29 : decode cX8_step 29 = .ok (.isub, 1) := by decide +kernel
theorem dX8_step_30 : decode cX8_step 30 = .ok (.iaload, 1) := by decide +kernel
theorem dX8_step_31 : decode cX8_step 31 = .ok (.istore 8, 2) := by decide +kernel
theorem dX8_step_33 : decode cX8_step 33 = .ok (.aload_n 0, 1) := by decide +kernel
theorem dX8_step_34 : decode cX8_step 34 = .ok (.getfield 42, 3) := by decide +kernel
theorem dX8_step_37 : decode cX8_step 37 = .ok (.bipush 10, 2) := by decide +kernel
theorem dX8_step_39 : decode cX8_step 39 = .ok (.dup2, 1) := by decide +kernel
theorem dX8_step_40 : decode cX8_step 40 = .ok (.baload, 1) := by decide +kernel
theorem dX8_step_41 : decode cX8_step 41 = .ok (.iload 4, 2) := by decide +kernel
theorem dX8_step_43 : decode cX8_step 43 = .ok (.ifCond .eq 7, 3) := by decide +kernel
theorem dX8_step_46 : decode cX8_step 46 = .ok (.iconst 0, 1) := by decide +kernel
theorem dX8_step_47 : decode cX8_step 47 = .ok (.goto 9, 3) := by decide +kernel
theorem dX8_step_50 : decode cX8_step 50 = .ok (.iconst 1, 1) := by decide +kernel
theorem dX8_step_51 : decode cX8_step 51 = .ok (.iload_n 2, 1) := by decide +kernel
theorem dX8_step_52 : decode cX8_step 52 = .ok (.bipush 100, 2) := by decide +kernel
theorem dX8_step_54 : decode cX8_step 54 = .ok (.isub, 1) := by decide +kernel
theorem dX8_step_55 : decode cX8_step 55 = .ok (.ishl, 1) := by decide +kernel
theorem dX8_step_56 : decode cX8_step 56 = .ok (.ior, 1) := by decide +kernel
theorem dX8_step_57 : decode cX8_step 57 = .ok (.i2b, 1) := by decide +kernel
theorem dX8_step_58 : decode cX8_step 58 = .ok (.bastore, 1) := by decide +kernel
theorem dX8_step_59 : decode cX8_step 59 = .ok (.goto 37, 3) := by decide +kernel
theorem dX8_step_62 : decode cX8_step 62 = .ok (.aload_n 0, 1) := by decide +kernel
theorem dX8_step_63 : decode cX8_step 63 = .ok (.getfield 16, 3) := by decide +kernel
theorem dX8_step_66 : decode cX8_step 66 = .ok (.iload_n 2, 1) := by decide +kernel
theorem dX8_step_67 : decode cX8_step 67 = .ok (.iaload, 1) := by decide +kernel
theorem dX8_step_68 : decode cX8_step 68 = .ok (.istore 7, 2) := by decide +kernel
theorem dX8_step_70 : decode cX8_step 70 = .ok (.aload_n 0, 1) := by decide +kernel
theorem dX8_step_71 : decode cX8_step 71 = .ok (.getfield 42, 3) := by decide +kernel
theorem dX8_step_74 : decode cX8_step 74 = .ok (.iload_n 2, 1) := by decide +kernel
theorem dX8_step_75 : decode cX8_step 75 = .ok (.invokestatic 96, 3) := by decide +kernel
theorem dX8_step_78 : decode cX8_step 78 = .ok (.iconst 1, 1) := by decide +kernel
theorem dX8_step_79 : decode cX8_step 79 = .ok (.iadd, 1) := by decide +kernel
theorem dX8_step_80 : decode cX8_step 80 = .ok (.iload_n 3, 1) := by decide +kernel
theorem dX8_step_81 : decode cX8_step 81 = .ok (.iadd, 1) := by decide +kernel
theorem dX8_step_82 : decode cX8_step 82 = .ok (.baload, 1) := by decide +kernel
theorem dX8_step_83 : decode cX8_step 83 = .ok (.istore 8, 2) := by decide +kernel
theorem dX8_step_85 : decode cX8_step 85 = .ok (.iload 4, 2) := by decide +kernel
theorem dX8_step_87 : decode cX8_step 87 = .ok (.ifCond .ne 9, 3) := by decide +kernel
theorem dX8_step_90 : decode cX8_step 90 = .ok (.aload_n 0, 1) := by decide +kernel
theorem dX8_step_91 : decode cX8_step 91 = .ok (.iload_n 2, 1) := by decide +kernel
theorem dX8_step_92 : decode cX8_step 92 = .ok (.iload_n 3, 1) := by decide +kernel
theorem dX8_step_93 : decode cX8_step 93 = .ok (.invokevirtual 118, 3) := by decide +kernel
theorem dX8_step_96 : decode cX8_step 96 = .ok (.aload_n 0, 1) := by decide +kernel
theorem dX8_step_97 : decode cX8_step 97 = .ok (.getfield 42, 3) := by decide +kernel
theorem dX8_step_100 : decode cX8_step 100 = .ok (.bipush 11, 2) := by decide +kernel
theorem dX8_step_102 : decode cX8_step 102 = .ok (.dup2, 1) := by decide +kernel
theorem dX8_step_103 : decode cX8_step 103 = .ok (.baload, 1) := by decide +kernel
theorem dX8_step_104 : decode cX8_step 104 = .ok (.iload 4, 2) := by decide +kernel
theorem dX8_step_106 : decode cX8_step 106 = .ok (.ifCond .eq 7, 3) := by decide +kernel
theorem dX8_step_109 : decode cX8_step 109 = .ok (.iconst 1, 1) := by decide +kernel
theorem dX8_step_110 : decode cX8_step 110 = .ok (.goto 4, 3) := by decide +kernel
theorem dX8_step_113 : decode cX8_step 113 = .ok (.iconst 0, 1) := by decide +kernel
theorem dX8_step_114 : decode cX8_step 114 = .ok (.isub, 1) := by decide +kernel
theorem dX8_step_115 : decode cX8_step 115 = .ok (.i2b, 1) := by decide +kernel
theorem dX8_step_116 : decode cX8_step 116 = .ok (.bastore, 1) := by decide +kernel
theorem dX8_step_117 : decode cX8_step 117 = .ok (.aload_n 0, 1) := by decide +kernel
theorem dX8_step_118 : decode cX8_step 118 = .ok (.iload 7, 2) := by decide +kernel
theorem dX8_step_120 : decode cX8_step 120 = .ok (.iload 8, 2) := by decide +kernel
theorem dX8_step_122 : decode cX8_step 122 = .ok (.iload 6, 2) := by decide +kernel
theorem dX8_step_124 : decode cX8_step 124 = .ok (.invokevirtual 121, 3) := by decide +kernel
theorem dX8_step_127 : decode cX8_step 127 = .ok (.aload_n 0, 1) := by decide +kernel
theorem dX8_step_128 : decode cX8_step 128 = .ok (.iload 5, 2) := by decide +kernel
theorem dX8_step_130 : decode cX8_step 130 = .ok (.invokevirtual 125, 3) := by decide +kernel
theorem dX8_step_133 : decode cX8_step 133 = .ok (.istore 9, 2) := by decide +kernel
theorem dX8_step_135 : decode cX8_step 135 = .ok (.aload_n 0, 1) := by decide +kernel
theorem dX8_step_136 : decode cX8_step 136 = .ok (.iload 9, 2) := by decide +kernel
theorem dX8_step_138 : decode cX8_step 138 = .ok (.ifCond .ge 7, 3) := by decide +kernel
theorem dX8_step_141 : decode cX8_step 141 = .ok (.iconst 1, 1) := by decide +kernel
theorem dX8_step_142 : decode cX8_step 142 = .ok (.goto 4, 3) := by decide +kernel
theorem dX8_step_145 : decode cX8_step 145 = .ok (.iconst 0, 1) := by decide +kernel
theorem dX8_step_146 : decode cX8_step 146 = .ok (.putfield 128, 3) := by decide +kernel
theorem dX8_step_149 : decode cX8_step 149 = .ok (.iload 9, 2) := by decide +kernel
theorem dX8_step_151 : decode cX8_step 151 = .ok (.ifCond .le 68, 3) := by decide +kernel
theorem dX8_step_154 : decode cX8_step 154 = .ok (.aload_n 0, 1) := by decide +kernel
theorem dX8_step_155 : decode cX8_step 155 = .ok (.getfield 131, 3) := by decide +kernel
theorem dX8_step_158 : decode cX8_step 158 = .ok (.ifCond .eq 61, 3) := by decide +kernel
theorem dX8_step_161 : decode cX8_step 161 = .ok (.aload_n 0, 1) := by decide +kernel
theorem dX8_step_162 : decode cX8_step 162 = .ok (.getfield 51, 3) := by decide +kernel
theorem dX8_step_165 : decode cX8_step 165 = .ok (.aload_n 0, 1) := by decide +kernel
theorem dX8_step_166 : decode cX8_step 166 = .ok (.getfield 111, 3) := by decide +kernel
theorem dX8_step_169 : decode cX8_step 169 = .ok (.iconst 1, 1) := by decide +kernel
theorem dX8_step_170 : decode cX8_step 170 = .ok (.isub, 1) := by decide +kernel
theorem dX8_step_171 : decode cX8_step 171 = .ok (.iload_n 1, 1) := by decide +kernel
theorem dX8_step_172 : decode cX8_step 172 = .ok (.iastore, 1) := by decide +kernel
theorem dX8_step_173 : decode cX8_step 173 = .ok (.aload_n 0, 1) := by decide +kernel
theorem dX8_step_174 : decode cX8_step 174 = .ok (.getfield 54, 3) := by decide +kernel
theorem dX8_step_177 : decode cX8_step 177 = .ok (.aload_n 0, 1) := by decide +kernel
theorem dX8_step_178 : decode cX8_step 178 = .ok (.getfield 111, 3) := by decide +kernel
theorem dX8_step_181 : decode cX8_step 181 = .ok (.iconst 1, 1) := by decide +kernel
theorem dX8_step_182 : decode cX8_step 182 = .ok (.isub, 1) := by decide +kernel
theorem dX8_step_183 : decode cX8_step 183 = .ok (.iload_n 2, 1) := by decide +kernel
theorem dX8_step_184 : decode cX8_step 184 = .ok (.iastore, 1) := by decide +kernel
theorem dX8_step_185 : decode cX8_step 185 = .ok (.aload_n 0, 1) := by decide +kernel
theorem dX8_step_186 : decode cX8_step 186 = .ok (.getfield 57, 3) := by decide +kernel
theorem dX8_step_189 : decode cX8_step 189 = .ok (.aload_n 0, 1) := by decide +kernel
theorem dX8_step_190 : decode cX8_step 190 = .ok (.getfield 111, 3) := by decide +kernel
theorem dX8_step_193 : decode cX8_step 193 = .ok (.iconst 1, 1) := by decide +kernel
theorem dX8_step_194 : decode cX8_step 194 = .ok (.isub, 1) := by decide +kernel
theorem dX8_step_195 : decode cX8_step 195 = .ok (.iload 8, 2) := by decide +kernel
theorem dX8_step_197 : decode cX8_step 197 = .ok (.iastore, 1) := by decide +kernel
theorem dX8_step_198 : decode cX8_step 198 = .ok (.aload_n 0, 1) := by decide +kernel
theorem dX8_step_199 : decode cX8_step 199 = .ok (.getfield 60, 3) := by decide +kernel
theorem dX8_step_202 : decode cX8_step 202 = .ok (.aload_n 0, 1) := by decide +kernel
theorem dX8_step_203 : decode cX8_step 203 = .ok (.getfield 111, 3) := by decide +kernel
theorem dX8_step_206 : decode cX8_step 206 = .ok (.iconst 1, 1) := by decide +kernel
theorem dX8_step_207 : decode cX8_step 207 = .ok (.isub, 1) := by decide +kernel
theorem dX8_step_208 : decode cX8_step 208 = .ok (.iload 4, 2) := by decide +kernel
theorem dX8_step_210 : decode cX8_step 210 = .ok (.ifCond .eq 7, 3) := by decide +kernel
theorem dX8_step_213 : decode cX8_step 213 = .ok (.iconst 1, 1) := by decide +kernel
theorem dX8_step_214 : decode cX8_step 214 = .ok (.goto 4, 3) := by decide +kernel
theorem dX8_step_217 : decode cX8_step 217 = .ok (.iconst 0, 1) := by decide +kernel
theorem dX8_step_218 : decode cX8_step 218 = .ok (.iastore, 1) := by decide +kernel
theorem dX8_step_219 : decode cX8_step 219 = .ok (.return_, 1) := by decide +kernel
end
section
set_option maxRecDepth 20000 in
theorem ggX8_stepBoth_X8_step : GoodIn wsX8_stepBoth wsX8_step := goodIn_r _ [7, 8, 9, 10, 11, 2, 12, 13, 14, 15, 16, 17, 18, 19, 20, 6, 21, 1, 22, 23, 24, 25, 26, 27, 28, 29, 30, 31, 32, 33, 34, 35, 36, 37, 38, 39, 40, 41, 42, 43, 44, 45, 46, 47, 48, 49, 50, 51, 52, 53, 54, 55, 56, 57, 58, 59, 60, 61, 62, 63, 64, 65, 66, 67, 68, 69, 70, 71, 72, 73, 74, 75, 76, 77, 78, 79, 80, 81, 82, 83, 84, 85, 86, 87, 88, 89, 90] (by decide +kernel) (by decide +kernel)
set_option maxRecDepth 20000 in
theorem gX8_stepBoth_X8_step : GoodIn wsX8_stepBoth (wsV RX8 134 RX8 yX8_step wsX8_step) := goodIn_app (goodIn_of _ (by decide +kernel)) ggX8_stepBoth_X8_step
theorem dX8_stepBoth_0 : decode cX8_stepBoth 0 = .ok (.aload_n 0, 1) := by decide +kernel
theorem dX8_stepBoth_1 : decode cX8_stepBoth 1 = .ok (.getfield 35, 3) := by decide +kernel
theorem dX8_stepBoth_4 : decode cX8_stepBoth 4 = .ok (.sipush 148, 3) := by decide +kernel
theorem dX8_stepBoth_7 : decode cX8_stepBoth 7 = .ok (.iload_n 1, 1) := by decide +kernel
theorem dX8_stepBoth_8 : decode cX8_stepBoth 8 = .ok (.imul, 1) := by decide +kernel
theorem dX8_stepBoth_9 : decode cX8_stepBoth 9 = .ok (.bipush 11, 2) := by decide +kernel
theorem dX8_stepBoth_11 : decode cX8_stepBoth 11 = .ok (.iadd, 1) := by decide +kernel
theorem dX8_stepBoth_12 : decode cX8_stepBoth 12 = .ok (.baload, 1) := by decide +kernel
theorem dX8_stepBoth_13 : decode cX8_stepBoth 13 = .ok (.istore 6, 2) := by decide +kernel
theorem dX8_stepBoth_15 : decode cX8_stepBoth 15 = .ok (.iconst 0, 1) := by decide +kernel
theorem dX8_stepBoth_16 : decode cX8_stepBoth 16 = .ok (.istore 7, 2) := by decide +kernel
theorem dX8_stepBoth_18 : decode cX8_stepBoth 18 = .ok (.iload 7, 2) := by decide +kernel
theorem dX8_stepBoth_20 : decode cX8_stepBoth 20 = .ok (.iconst 2, 1) := by decide +kernel
theorem dX8_stepBoth_21 : decode cX8_stepBoth 21 = .ok (.if_icmp .ge 48, 3) := by decide +kernel
theorem dX8_stepBoth_24 : decode cX8_stepBoth 24 = .ok (.aload_n 0, 1) := by decide +kernel
theorem dX8_stepBoth_25 : decode cX8_stepBoth 25 = .ok (.getfield 128, 3) := by decide +kernel
theorem dX8_stepBoth_28 : decode cX8_stepBoth 28 = .ok (.ifCond .ne 41, 3) := by decide +kernel
theorem dX8_stepBoth_31 : decode cX8_stepBoth 31 = .ok (.iload 7, 2) := by decide +kernel
theorem dX8_stepBoth_33 : decode cX8_stepBoth 33 = .ok (.ifCond .eq 8, 3) := by decide +kernel
theorem dX8_stepBoth_36 : decode cX8_stepBoth 36 = .ok (.iload 6, 2) := by decide +kernel
theorem dX8_stepBoth_38 : decode cX8_stepBoth 38 = .ok (.ifCond .le 25, 3) := by decide +kernel
theorem dX8_stepBoth_41 : decode cX8_stepBoth 41 = .ok (.aload_n 0, 1) := by decide +kernel
theorem dX8_stepBoth_42 : decode cX8_stepBoth 42 = .ok (.iload_n 1, 1) := by decide +kernel
theorem dX8_stepBoth_43 : decode cX8_stepBoth 43 = .ok (.iload_n 2, 1) := by decide +kernel
theorem dX8_stepBoth_44 : decode cX8_stepBoth 44 = .ok (.iload_n 3, 1) := by decide +kernel
theorem dX8_stepBoth_45 : decode cX8_stepBoth 45 = .ok (.iload 7, 2) := by decide +kernel
theorem dX8_stepBoth_47 : decode cX8_stepBoth 47 = .ok (.iconst 1, 1) := by decide +kernel
theorem dX8_stepBoth_48 : decode cX8_stepBoth 48 = .ok (.if_icmp .ne 7, 3) := by decide +kernel
theorem dX8_stepBoth_51 : decode cX8_stepBoth 51 = .ok (.iconst 1, 1) := by decide +kernel
theorem dX8_stepBoth_52 : decode cX8_stepBoth 52 = .ok (.goto 4, 3) := by decide +kernel
theorem dX8_stepBoth_55 : decode cX8_stepBoth 55 = .ok (.iconst 0, 1) := by decide +kernel
theorem dX8_stepBoth_56 : decode cX8_stepBoth 56 = .ok (.iload 4, 2) := by decide +kernel
theorem dX8_stepBoth_58 : decode cX8_stepBoth 58 = .ok (.iload 5, 2) := by decide +kernel
theorem dX8_stepBoth_60 : decode cX8_stepBoth 60 = .ok (.invokevirtual 134, 3) := by decide +kernel
theorem dX8_stepBoth_63 : decode cX8_stepBoth 63 = .ok (.iinc 7 1, 3) := by decide +kernel
theorem dX8_stepBoth_66 : decode cX8_stepBoth 66 = .ok (.goto (-48), 3) := by decide +kernel
theorem dX8_stepBoth_69 : decode cX8_stepBoth 69 = .ok (.return_, 1) := by decide +kernel
set_option maxRecDepth 20000 in
theorem ggX8_goOn_X8_stepBoth : GoodIn wsX8_goOn wsX8_stepBoth := goodIn_r _ [10, 3, 2, 11, 12, 13, 9, 14, 15, 16, 17, 18, 19, 20, 21, 22, 23, 24, 25, 26, 27, 28, 29, 30, 31, 32, 33, 34, 35, 36, 37, 38, 39, 5, 4, 40, 41, 42, 43, 44, 45, 46, 47, 48, 49, 50, 51, 52, 53, 54, 55, 56, 57, 58, 59, 60, 61, 62, 63, 64, 65, 66, 67, 68, 69, 70, 71, 72, 73, 74, 75, 76, 77, 78, 79, 80, 81, 82, 83, 84, 85, 86, 87, 88, 89, 90, 91, 92, 93, 94, 95] (by decide +kernel) (by decide +kernel)
set_option maxRecDepth 20000 in
theorem gX8_goOn_X8_stepBoth : GoodIn wsX8_goOn (wsV RX8 138 RX8 yX8_stepBoth wsX8_stepBoth) := goodIn_app (goodIn_of _ (by decide +kernel)) ggX8_goOn_X8_stepBoth
set_option maxRecDepth 20000 in
theorem ggX8_goOn_X8_rowOf : GoodIn wsX8_goOn wsX8_rowOf := goodIn_r _ [31] (by decide +kernel) (by decide +kernel)
set_option maxRecDepth 20000 in
theorem gX8_goOn_X8_rowOf : GoodIn wsX8_goOn (va_wsS RX8 96 yX8_rowOf wsX8_rowOf) := goodIn_app (goodIn_of _ (by decide +kernel)) ggX8_goOn_X8_rowOf
theorem dX8_goOn_0 : decode cX8_goOn 0 = .ok (.iconst 0, 1) := by decide +kernel
theorem dX8_goOn_1 : decode cX8_goOn 1 = .ok (.istore 4, 2) := by decide +kernel
theorem dX8_goOn_3 : decode cX8_goOn 3 = .ok (.iload 4, 2) := by decide +kernel
theorem dX8_goOn_5 : decode cX8_goOn 5 = .ok (.aload_n 0, 1) := by decide +kernel
theorem dX8_goOn_6 : decode cX8_goOn 6 = .ok (.getfield 78, 3) := by decide +kernel
theorem dX8_goOn_9 : decode cX8_goOn 9 = .ok (.if_icmp .ge 50, 3) := by decide +kernel
theorem dX8_goOn_12 : decode cX8_goOn 12 = .ok (.aload_n 0, 1) := by decide +kernel
theorem dX8_goOn_13 : decode cX8_goOn 13 = .ok (.getfield 128, 3) := by decide +kernel
theorem dX8_goOn_16 : decode cX8_goOn 16 = .ok (.ifCond .ne 43, 3) := by decide +kernel
theorem dX8_goOn_19 : decode cX8_goOn 19 = .ok (.aload_n 0, 1) := by decide +kernel
theorem dX8_goOn_20 : decode cX8_goOn 20 = .ok (.getfield 35, 3) := by decide +kernel
theorem dX8_goOn_23 : decode cX8_goOn 23 = .ok (.sipush 148, 3) := by decide +kernel
theorem dX8_goOn_26 : decode cX8_goOn 26 = .ok (.iload_n 1, 1) := by decide +kernel
theorem dX8_goOn_27 : decode cX8_goOn 27 = .ok (.imul, 1) := by decide +kernel
theorem dX8_goOn_28 : decode cX8_goOn 28 = .ok (.bipush 10, 2) := by decide +kernel
theorem dX8_goOn_30 : decode cX8_goOn 30 = .ok (.iadd, 1) := by decide +kernel
theorem dX8_goOn_31 : decode cX8_goOn 31 = .ok (.baload, 1) := by decide +kernel
theorem dX8_goOn_32 : decode cX8_goOn 32 = .ok (.iload 4, 2) := by decide +kernel
theorem dX8_goOn_34 : decode cX8_goOn 34 = .ok (.ishr, 1) := by decide +kernel
theorem dX8_goOn_35 : decode cX8_goOn 35 = .ok (.iconst 1, 1) := by decide +kernel
theorem dX8_goOn_36 : decode cX8_goOn 36 = .ok (.iand, 1) := by decide +kernel
theorem dX8_goOn_37 : decode cX8_goOn 37 = .ok (.ifCond .ne 16, 3) := by decide +kernel
theorem dX8_goOn_40 : decode cX8_goOn 40 = .ok (.aload_n 0, 1) := by decide +kernel
theorem dX8_goOn_41 : decode cX8_goOn 41 = .ok (.iload_n 1, 1) := by decide +kernel
theorem dX8_goOn_42 : decode cX8_goOn 42 = .ok (.bipush 100, 2) := by decide +kernel
theorem dX8_goOn_44 : decode cX8_goOn 44 = .ok (.iload 4, 2) := by decide +kernel
theorem dX8_goOn_46 : decode cX8_goOn 46 = .ok (.iadd, 1) := by decide +kernel
theorem dX8_goOn_47 : decode cX8_goOn 47 = .ok (.iconst 0, 1) := by decide +kernel
theorem dX8_goOn_48 : decode cX8_goOn 48 = .ok (.iload_n 2, 1) := by decide +kernel
theorem dX8_goOn_49 : decode cX8_goOn 49 = .ok (.iload_n 3, 1) := by decide +kernel
theorem dX8_goOn_50 : decode cX8_goOn 50 = .ok (.invokevirtual 138, 3) := by decide +kernel
theorem dX8_goOn_53 : decode cX8_goOn 53 = .ok (.iinc 4 1, 3) := by decide +kernel
theorem dX8_goOn_56 : decode cX8_goOn 56 = .ok (.goto (-53), 3) := by decide +kernel
theorem dX8_goOn_59 : decode cX8_goOn 59 = .ok (.iconst 0, 1) := by decide +kernel
theorem dX8_goOn_60 : decode cX8_goOn 60 = .ok (.istore 4, 2) := by decide +kernel
theorem dX8_goOn_62 : decode cX8_goOn 62 = .ok (.iload 4, 2) := by decide +kernel
theorem dX8_goOn_64 : decode cX8_goOn 64 = .ok (.aload_n 0, 1) := by decide +kernel
theorem dX8_goOn_65 : decode cX8_goOn 65 = .ok (.getfield 75, 3) := by decide +kernel
theorem dX8_goOn_68 : decode cX8_goOn 68 = .ok (.if_icmp .ge 120, 3) := by decide +kernel
theorem dX8_goOn_71 : decode cX8_goOn 71 = .ok (.sipush 148, 3) := by decide +kernel
theorem dX8_goOn_74 : decode cX8_goOn 74 = .ok (.iload_n 1, 1) := by decide +kernel
theorem dX8_goOn_75 : decode cX8_goOn 75 = .ok (.imul, 1) := by decide +kernel
theorem dX8_goOn_76 : decode cX8_goOn 76 = .ok (.iload 4, 2) := by decide +kernel
theorem dX8_goOn_78 : decode cX8_goOn 78 = .ok (.invokestatic 96, 3) := by decide +kernel
theorem dX8_goOn_81 : decode cX8_goOn 81 = .ok (.iadd, 1) := by decide +kernel
theorem dX8_goOn_82 : decode cX8_goOn 82 = .ok (.istore 5, 2) := by decide +kernel
theorem dX8_goOn_84 : decode cX8_goOn 84 = .ok (.aload_n 0, 1) := by decide +kernel
theorem dX8_goOn_85 : decode cX8_goOn 85 = .ok (.getfield 28, 3) := by decide +kernel
theorem dX8_goOn_88 : decode cX8_goOn 88 = .ok (.iconst 4, 1) := by decide +kernel
theorem dX8_goOn_89 : decode cX8_goOn 89 = .ok (.iaload, 1) := by decide +kernel
theorem dX8_goOn_90 : decode cX8_goOn 90 = .ok (.iconst 1, 1) := by decide +kernel
theorem dX8_goOn_91 : decode cX8_goOn 91 = .ok (.if_icmp .ne 18, 3) := by decide +kernel
theorem dX8_goOn_94 : decode cX8_goOn 94 = .ok (.aload_n 0, 1) := by decide +kernel
theorem dX8_goOn_95 : decode cX8_goOn 95 = .ok (.getfield 35, 3) := by decide +kernel
theorem dX8_goOn_98 : decode cX8_goOn 98 = .ok (.iload 5, 2) := by decide +kernel
theorem dX8_goOn_100 : decode cX8_goOn 100 = .ok (.baload, 1) := by decide +kernel
theorem dX8_goOn_101 : decode cX8_goOn 101 = .ok (.iconst 1, 1) := by decide +kernel
theorem dX8_goOn_102 : decode cX8_goOn 102 = .ok (.if_icmp .le 7, 3) := by decide +kernel
theorem dX8_goOn_105 : decode cX8_goOn 105 = .ok (.iconst 1, 1) := by decide +kernel
theorem dX8_goOn_106 : decode cX8_goOn 106 = .ok (.goto 10, 3) := by decide +kernel
theorem dX8_goOn_109 : decode cX8_goOn 109 = .ok (.aload_n 0, 1) := by decide +kernel
theorem dX8_goOn_110 : decode cX8_goOn 110 = .ok (.getfield 35, 3) := by decide +kernel
theorem dX8_goOn_113 : decode cX8_goOn 113 = .ok (.iload 5, 2) := by decide +kernel
theorem dX8_goOn_115 : decode cX8_goOn 115 = .ok (.baload, 1) := by decide +kernel
theorem dX8_goOn_116 : decode cX8_goOn 116 = .ok (.istore 6, 2) := by decide +kernel
theorem dX8_goOn_118 : decode cX8_goOn 118 = .ok (.iconst 0, 1) := by decide +kernel
theorem dX8_goOn_119 : decode cX8_goOn 119 = .ok (.istore 7, 2) := by decide +kernel
theorem dX8_goOn_121 : decode cX8_goOn 121 = .ok (.iload 7, 2) := by decide +kernel
theorem dX8_goOn_123 : decode cX8_goOn 123 = .ok (.iload 6, 2) := by decide +kernel
theorem dX8_goOn_125 : decode cX8_goOn 125 = .ok (.if_icmp .ge 57, 3) := by decide +kernel
theorem dX8_goOn_128 : decode cX8_goOn 128 = .ok (.aload_n 0, 1) := by decide +kernel
theorem dX8_goOn_129 : decode cX8_goOn 129 = .ok (.getfield 128, 3) := by decide +kernel
theorem dX8_goOn_132 : decode cX8_goOn 132 = .ok (.ifCond .ne 50, 3) := by decide +kernel
theorem dX8_goOn_135 : decode cX8_goOn 135 = .ok (.iload 7, 2) := by decide +kernel
theorem dX8_goOn_137 : decode cX8_goOn 137 = .ok (.ifCond .eq 28, 3) := by decide +kernel
theorem dX8_goOn_140 : decode cX8_goOn 140 = .ok (.aload_n 0, 1) := by decide +kernel
theorem dX8_goOn_141 : decode cX8_goOn 141 = .ok (.getfield 35, 3) := by decide +kernel
theorem dX8_goOn_144 : decode cX8_goOn 144 = .ok (.iload 5, 2) := by decide +kernel
theorem dX8_goOn_146 : decode cX8_goOn 146 = .ok (.iconst 1, 1) := by decide +kernel
theorem dX8_goOn_147 : decode cX8_goOn 147 = .ok (.iadd, 1) := by decide +kernel
theorem dX8_goOn_148 : decode cX8_goOn 148 = .ok (.iload 7, 2) := by decide +kernel
theorem dX8_goOn_150 : decode cX8_goOn 150 = .ok (.iadd, 1) := by decide +kernel
theorem dX8_goOn_151 : decode cX8_goOn 151 = .ok (.baload, 1) := by decide +kernel
theorem dX8_goOn_152 : decode cX8_goOn 152 = .ok (.aload_n 0, 1) := by decide +kernel
theorem dX8_goOn_153 : decode cX8_goOn 153 = .ok (.getfield 35, 3) := by decide +kernel
theorem dX8_goOn_156 : decode cX8_goOn 156 = .ok (.iload 5, 2) := by decide +kernel
theorem dX8_goOn_158 : decode cX8_goOn 158 = .ok (.iload 7, 2) := by decide +kernel
theorem dX8_goOn_160 : decode cX8_goOn 160 = .ok (.iadd, 1) := by decide +kernel
theorem dX8_goOn_161 : decode cX8_goOn 161 = .ok (.baload, 1) := by decide +kernel
theorem dX8_goOn_162 : decode cX8_goOn 162 = .ok (.if_icmp .eq 14, 3) := by decide +kernel
theorem dX8_goOn_165 : decode cX8_goOn 165 = .ok (.aload_n 0, 1) := by decide +kernel
theorem dX8_goOn_166 : decode cX8_goOn 166 = .ok (.iload_n 1, 1) := by decide +kernel
theorem dX8_goOn_167 : decode cX8_goOn 167 = .ok (.iload 4, 2) := by decide +kernel
theorem dX8_goOn_169 : decode cX8_goOn 169 = .ok (.iload 7, 2) := by decide +kernel
theorem dX8_goOn_171 : decode cX8_goOn 171 = .ok (.iload_n 2, 1) := by decide +kernel
theorem dX8_goOn_172 : decode cX8_goOn 172 = .ok (.iload_n 3, 1) := by decide +kernel
theorem dX8_goOn_173 : decode cX8_goOn 173 = .ok (.invokevirtual 138, 3) := by decide +kernel
theorem dX8_goOn_176 : decode cX8_goOn 176 = .ok (.iinc 7 1, 3) := by decide +kernel
theorem dX8_goOn_179 : decode cX8_goOn 179 = .ok (.goto (-58), 3) := by decide +kernel
theorem dX8_goOn_182 : decode cX8_goOn 182 = .ok (.iinc 4 1, 3) := by decide +kernel
theorem dX8_goOn_185 : decode cX8_goOn 185 = .ok (.goto (-123), 3) := by decide +kernel
theorem dX8_goOn_188 : decode cX8_goOn 188 = .ok (.return_, 1) := by decide +kernel
set_option maxRecDepth 20000 in
theorem ggX8_openIn_X8_rowOf : GoodIn wsX8_openIn wsX8_rowOf := goodIn_r _ [7] (by decide +kernel) (by decide +kernel)
set_option maxRecDepth 20000 in
theorem gX8_openIn_X8_rowOf : GoodIn wsX8_openIn (va_wsS RX8 96 yX8_rowOf wsX8_rowOf) := goodIn_app (goodIn_of _ (by decide +kernel)) ggX8_openIn_X8_rowOf
theorem dX8_openIn_0 : decode cX8_openIn 0 = .ok (.iconst 0, 1) := by decide +kernel
theorem dX8_openIn_1 : decode cX8_openIn 1 = .ok (.istore_n 2, 1) := by decide +kernel
theorem dX8_openIn_2 : decode cX8_openIn 2 = .ok (.iconst 0, 1) := by decide +kernel
theorem dX8_openIn_3 : decode cX8_openIn 3 = .ok (.istore_n 3, 1) := by decide +kernel
theorem dX8_openIn_4 : decode cX8_openIn 4 = .ok (.iload_n 3, 1) := by decide +kernel
theorem dX8_openIn_5 : decode cX8_openIn 5 = .ok (.aload_n 0, 1) := by decide +kernel
theorem dX8_openIn_6 : decode cX8_openIn 6 = .ok (.getfield 78, 3) := by decide +kernel
theorem dX8_openIn_9 : decode cX8_openIn 9 = .ok (.if_icmp .ge 37, 3) := by decide +kernel
theorem dX8_openIn_12 : decode cX8_openIn 12 = .ok (.iload_n 2, 1) := by decide +kernel
theorem dX8_openIn_13 : decode cX8_openIn 13 = .ok (.aload_n 0, 1) := by decide +kernel
theorem dX8_openIn_14 : decode cX8_openIn 14 = .ok (.getfield 35, 3) := by decide +kernel
theorem dX8_openIn_17 : decode cX8_openIn 17 = .ok (.sipush 148, 3) := by decide +kernel
theorem dX8_openIn_20 : decode cX8_openIn 20 = .ok (.iload_n 1, 1) := by decide +kernel
theorem dX8_openIn_21 : decode cX8_openIn 21 = .ok (.imul, 1) := by decide +kernel
theorem dX8_openIn_22 : decode cX8_openIn 22 = .ok (.bipush 10, 2) := by decide +kernel
theorem dX8_openIn_24 : decode cX8_openIn 24 = .ok (.iadd, 1) := by decide +kernel
theorem dX8_openIn_25 : decode cX8_openIn 25 = .ok (.baload, 1) := by decide +kernel
theorem dX8_openIn_26 : decode cX8_openIn 26 = .ok (.iload_n 3, 1) := by decide +kernel
theorem dX8_openIn_27 : decode cX8_openIn 27 = .ok (.ishr, 1) := by decide +kernel
theorem dX8_openIn_28 : decode cX8_openIn 28 = .ok (.iconst 1, 1) := by decide +kernel
theorem dX8_openIn_29 : decode cX8_openIn 29 = .ok (.iand, 1) := by decide +kernel
theorem dX8_openIn_30 : decode cX8_openIn 30 = .ok (.ifCond .ne 7, 3) := by decide +kernel
theorem dX8_openIn_33 : decode cX8_openIn 33 = .ok (.iconst 1, 1) := by decide +kernel
theorem dX8_openIn_34 : decode cX8_openIn 34 = .ok (.goto 4, 3) := by decide +kernel
theorem dX8_openIn_37 : decode cX8_openIn 37 = .ok (.iconst 0, 1) := by decide +kernel
theorem dX8_openIn_38 : decode cX8_openIn 38 = .ok (.iadd, 1) := by decide +kernel
theorem dX8_openIn_39 : decode cX8_openIn 39 = .ok (.istore_n 2, 1) := by decide +kernel
theorem dX8_openIn_40 : decode cX8_openIn 40 = .ok (.iinc 3 1, 3) := by decide +kernel
theorem dX8_openIn_43 : decode cX8_openIn 43 = .ok (.goto (-39), 3) := by decide +kernel
theorem dX8_openIn_46 : decode cX8_openIn 46 = .ok (.iconst 0, 1) := by decide +kernel
theorem dX8_openIn_47 : decode cX8_openIn 47 = .ok (.istore_n 3, 1) := by decide +kernel
theorem dX8_openIn_48 : decode cX8_openIn 48 = .ok (.iload_n 3, 1) := by decide +kernel
theorem dX8_openIn_49 : decode cX8_openIn 49 = .ok (.aload_n 0, 1) := by decide +kernel
theorem dX8_openIn_50 : decode cX8_openIn 50 = .ok (.getfield 75, 3) := by decide +kernel
theorem dX8_openIn_53 : decode cX8_openIn 53 = .ok (.if_icmp .ge 27, 3) := by decide +kernel
theorem dX8_openIn_56 : decode cX8_openIn 56 = .ok (.iload_n 2, 1) := by decide +kernel
theorem dX8_openIn_57 : decode cX8_openIn 57 = .ok (.aload_n 0, 1) := by decide +kernel
theorem dX8_openIn_58 : decode cX8_openIn 58 = .ok (.getfield 35, 3) := by decide +kernel
theorem dX8_openIn_61 : decode cX8_openIn 61 = .ok (.sipush 148, 3) := by decide +kernel
theorem dX8_openIn_64 : decode cX8_openIn 64 = .ok (.iload_n 1, 1) := by decide +kernel
theorem dX8_openIn_65 : decode cX8_openIn 65 = .ok (.imul, 1) := by decide +kernel
theorem dX8_openIn_66 : decode cX8_openIn 66 = .ok (.iload_n 3, 1) := by decide +kernel
theorem dX8_openIn_67 : decode cX8_openIn 67 = .ok (.invokestatic 96, 3) := by decide +kernel
theorem dX8_openIn_70 : decode cX8_openIn 70 = .ok (.iadd, 1) := by decide +kernel
theorem dX8_openIn_71 : decode cX8_openIn 71 = .ok (.baload, 1) := by decide +kernel
theorem dX8_openIn_72 : decode cX8_openIn 72 = .ok (.iadd, 1) := by decide +kernel
theorem dX8_openIn_73 : decode cX8_openIn 73 = .ok (.istore_n 2, 1) := by decide +kernel
theorem dX8_openIn_74 : decode cX8_openIn 74 = .ok (.iinc 3 1, 3) := by decide +kernel
theorem dX8_openIn_77 : decode cX8_openIn 77 = .ok (.goto (-29), 3) := by decide +kernel
theorem dX8_openIn_80 : decode cX8_openIn 80 = .ok (.iload_n 2, 1) := by decide +kernel
theorem dX8_openIn_81 : decode cX8_openIn 81 = .ok (.ireturn, 1) := by decide +kernel
set_option maxRecDepth 20000 in
theorem ggX8_search_X8_find : GoodIn wsX8_search wsX8_find := goodIn_r _ [12, 4, 3, 1, 13, 14, 15, 11, 16, 17, 18, 19, 20, 73, 74, 75, 76, 77, 78, 79, 80, 81, 82, 83, 84, 85, 86, 87, 88, 89, 90, 91, 92, 93, 94, 95, 96, 97, 98, 99, 100, 101] (by decide +kernel) (by decide +kernel)
set_option maxRecDepth 20000 in
theorem gX8_search_X8_find : GoodIn wsX8_search (wsV RX8 125 RX8 yX8_find wsX8_find) := goodIn_app (goodIn_of _ (by decide +kernel)) ggX8_search_X8_find
set_option maxRecDepth 20000 in
theorem ggX8_search_X8_goOn : GoodIn wsX8_search wsX8_goOn := goodIn_r _ [24, 25, 2, 13, 26, 7, 27, 28, 29, 11, 30, 31, 32, 33, 34, 35, 36, 4, 37, 38, 39, 1, 40, 41, 42, 43, 44, 45, 46, 47, 48, 49, 50, 51, 52, 53, 54, 55, 56, 57, 58, 59, 60, 61, 62, 63, 64, 65, 66, 67, 68, 69, 70, 71, 72, 8, 9, 10, 12, 3, 14, 15, 16, 17, 18, 19, 20, 73, 74, 75, 76, 77, 78, 79, 80, 81, 82, 83, 84, 85, 86, 87, 88, 89, 90, 91, 92, 93, 94, 95, 96, 97, 98, 99, 100, 101] (by decide +kernel) (by decide +kernel)
set_option maxRecDepth 20000 in
theorem gX8_search_X8_goOn : GoodIn wsX8_search (wsV RX8 142 RX8 yX8_goOn wsX8_goOn) := goodIn_app (goodIn_of _ (by decide +kernel)) ggX8_search_X8_goOn
theorem dX8_search_0 : decode cX8_search 0 = .ok (.aload_n 0, 1) := by decide +kernel
theorem dX8_search_1 : decode cX8_search 1 = .ok (.iconst 0, 1) := by decide +kernel
theorem dX8_search_2 : decode cX8_search 2 = .ok (.putfield 111, 3) := by decide +kernel
theorem dX8_search_5 : decode cX8_search 5 = .ok (.aload_n 0, 1) := by decide +kernel
theorem dX8_search_6 : decode cX8_search 6 = .ok (.iconst 0, 1) := by decide +kernel
theorem dX8_search_7 : decode cX8_search 7 = .ok (.putfield 128, 3) := by decide +kernel
theorem dX8_search_10 : decode cX8_search 10 = .ok (.iconst 0, 1) := by decide +kernel
theorem dX8_search_11 : decode cX8_search 11 = .ok (.istore_n 3, 1) := by decide +kernel
theorem dX8_search_12 : decode cX8_search 12 = .ok (.iload_n 3, 1) := by decide +kernel
theorem dX8_search_13 : decode cX8_search 13 = .ok (.sipush 2048, 3) := by decide +kernel
theorem dX8_search_16 : decode cX8_search 16 = .ok (.if_icmp .ge 16, 3) := by decide +kernel
theorem dX8_search_19 : decode cX8_search 19 = .ok (.aload_n 0, 1) := by decide +kernel
theorem dX8_search_20 : decode cX8_search 20 = .ok (.getfield 39, 3) := by decide +kernel
theorem dX8_search_23 : decode cX8_search 23 = .ok (.iload_n 3, 1) := by decide +kernel
theorem dX8_search_24 : decode cX8_search 24 = .ok (.iconst 0, 1) := by decide +kernel
theorem dX8_search_25 : decode cX8_search 25 = .ok (.iastore, 1) := by decide +kernel
theorem dX8_search_26 : decode cX8_search 26 = .ok (.iinc 3 1, 3) := by decide +kernel
theorem dX8_search_29 : decode cX8_search 29 = .ok (.goto (-17), 3) := by decide +kernel
theorem dX8_search_32 : decode cX8_search 32 = .ok (.iconst 0, 1) := by decide +kernel
theorem dX8_search_33 : decode cX8_search 33 = .ok (.istore_n 3, 1) := by decide +kernel
theorem dX8_search_34 : decode cX8_search 34 = .ok (.iload_n 3, 1) := by decide +kernel
theorem dX8_search_35 : decode cX8_search 35 = .ok (.sipush 148, 3) := by decide +kernel
theorem dX8_search_38 : decode cX8_search 38 = .ok (.if_icmp .ge 34, 3) := by decide +kernel
theorem dX8_search_41 : decode cX8_search 41 = .ok (.aload_n 0, 1) := by decide +kernel
theorem dX8_search_42 : decode cX8_search 42 = .ok (.getfield 42, 3) := by decide +kernel
theorem dX8_search_45 : decode cX8_search 45 = .ok (.iload_n 3, 1) := by decide +kernel
theorem dX8_search_46 : decode cX8_search 46 = .ok (.iload_n 3, 1) := by decide +kernel
theorem dX8_search_47 : decode cX8_search 47 = .ok (.aload_n 0, 1) := by decide +kernel
theorem dX8_search_48 : decode cX8_search 48 = .ok (.getfield 71, 3) := by decide +kernel
theorem dX8_search_51 : decode cX8_search 51 = .ok (.if_icmp .ge 13, 3) := by decide +kernel
theorem dX8_search_54 : decode cX8_search 54 = .ok (.aload_n 0, 1) := by decide +kernel
theorem dX8_search_55 : decode cX8_search 55 = .ok (.getfield 7, 3) := by decide +kernel
theorem dX8_search_58 : decode cX8_search 58 = .ok (.iload_n 3, 1) := by decide +kernel
theorem dX8_search_59 : decode cX8_search 59 = .ok (.iaload, 1) := by decide +kernel
theorem dX8_search_60 : decode cX8_search 60 = .ok (.i2b, 1) := by decide +kernel
theorem dX8_search_61 : decode cX8_search 61 = .ok (.goto 4, 3) := by decide +kernel
theorem dX8_search_64 : decode cX8_search 64 = .ok (.iconst 0, 1) := by decide +kernel
theorem dX8_search_65 : decode cX8_search 65 = .ok (.bastore, 1) := by decide +kernel
theorem dX8_search_66 : decode cX8_search 66 = .ok (.iinc 3 1, 3) := by decide +kernel
theorem dX8_search_69 : decode cX8_search 69 = .ok (.goto (-35), 3) := by decide +kernel
theorem dX8_search_72 : decode cX8_search 72 = .ok (.aload_n 0, 1) := by decide +kernel
theorem dX8_search_73 : decode cX8_search 73 = .ok (.getfield 42, 3) := by decide +kernel
theorem dX8_search_76 : decode cX8_search 76 = .ok (.bipush 11, 2) := by decide +kernel
theorem dX8_search_78 : decode cX8_search 78 = .ok (.aload_n 0, 1) := by decide +kernel
theorem dX8_search_79 : decode cX8_search 79 = .ok (.getfield 28, 3) := by decide +kernel
theorem dX8_search_82 : decode cX8_search 82 = .ok (.iconst 5, 1) := by decide +kernel
theorem dX8_search_83 : decode cX8_search 83 = .ok (.iaload, 1) := by decide +kernel
theorem dX8_search_84 : decode cX8_search 84 = .ok (.i2b, 1) := by decide +kernel
theorem dX8_search_85 : decode cX8_search 85 = .ok (.bastore, 1) := by decide +kernel
theorem dX8_search_86 : decode cX8_search 86 = .ok (.aload_n 0, 1) := by decide +kernel
theorem dX8_search_87 : decode cX8_search 87 = .ok (.iload_n 1, 1) := by decide +kernel
theorem dX8_search_88 : decode cX8_search 88 = .ok (.invokevirtual 125, 3) := by decide +kernel
theorem dX8_search_91 : decode cX8_search 91 = .ok (.istore_n 3, 1) := by decide +kernel
theorem dX8_search_92 : decode cX8_search 92 = .ok (.iconst 0, 1) := by decide +kernel
theorem dX8_search_93 : decode cX8_search 93 = .ok (.istore 4, 2) := by decide +kernel
theorem dX8_search_95 : decode cX8_search 95 = .ok (.iload 4, 2) := by decide +kernel
theorem dX8_search_97 : decode cX8_search 97 = .ok (.aload_n 0, 1) := by decide +kernel
theorem dX8_search_98 : decode cX8_search 98 = .ok (.getfield 111, 3) := by decide +kernel
theorem dX8_search_101 : decode cX8_search 101 = .ok (.if_icmp .ge 28, 3) := by decide +kernel
theorem dX8_search_104 : decode cX8_search 104 = .ok (.aload_n 0, 1) := by decide +kernel
theorem dX8_search_105 : decode cX8_search 105 = .ok (.getfield 128, 3) := by decide +kernel
theorem dX8_search_108 : decode cX8_search 108 = .ok (.ifCond .ne 21, 3) := by decide +kernel
theorem dX8_search_111 : decode cX8_search 111 = .ok (.iload_n 3, 1) := by decide +kernel
theorem dX8_search_112 : decode cX8_search 112 = .ok (.ifCond .le 17, 3) := by decide +kernel
theorem dX8_search_115 : decode cX8_search 115 = .ok (.aload_n 0, 1) := by decide +kernel
theorem dX8_search_116 : decode cX8_search 116 = .ok (.iload 4, 2) := by decide +kernel
theorem dX8_search_118 : decode cX8_search 118 = .ok (.iload_n 1, 1) := by decide +kernel
theorem dX8_search_119 : decode cX8_search 119 = .ok (.iload_n 2, 1) := by decide +kernel
theorem dX8_search_120 : decode cX8_search 120 = .ok (.invokevirtual 142, 3) := by decide +kernel
theorem dX8_search_123 : decode cX8_search 123 = .ok (.iinc 4 1, 3) := by decide +kernel
theorem dX8_search_126 : decode cX8_search 126 = .ok (.goto (-31), 3) := by decide +kernel
theorem dX8_search_129 : decode cX8_search 129 = .ok (.aload_n 0, 1) := by decide +kernel
theorem dX8_search_130 : decode cX8_search 130 = .ok (.getfield 128, 3) := by decide +kernel
theorem dX8_search_133 : decode cX8_search 133 = .ok (.ifCond .ne 7, 3) := by decide +kernel
theorem dX8_search_136 : decode cX8_search 136 = .ok (.iconst 1, 1) := by decide +kernel
theorem dX8_search_137 : decode cX8_search 137 = .ok (.goto 4, 3) := by decide +kernel
theorem dX8_search_140 : decode cX8_search 140 = .ok (.iconst 0, 1) := by decide +kernel
theorem dX8_search_141 : decode cX8_search 141 = .ok (.ireturn, 1) := by decide +kernel
theorem dX8_isLike_0 : decode cX8_isLike 0 = .ok (.iconst 1, 1) := by decide +kernel
theorem dX8_isLike_1 : decode cX8_isLike 1 = .ok (.istore_n 3, 1) := by decide +kernel
theorem dX8_isLike_2 : decode cX8_isLike 2 = .ok (.iconst 0, 1) := by decide +kernel
theorem dX8_isLike_3 : decode cX8_isLike 3 = .ok (.istore 4, 2) := by decide +kernel
theorem dX8_isLike_5 : decode cX8_isLike 5 = .ok (.iload 4, 2) := by decide +kernel
theorem dX8_isLike_7 : decode cX8_isLike 7 = .ok (.iconst 5, 1) := by decide +kernel
theorem dX8_isLike_8 : decode cX8_isLike 8 = .ok (.if_icmp .ge 48, 3) := by decide +kernel
theorem dX8_isLike_11 : decode cX8_isLike 11 = .ok (.iload_n 3, 1) := by decide +kernel
theorem dX8_isLike_12 : decode cX8_isLike 12 = .ok (.ifCond .eq 36, 3) := by decide +kernel
theorem dX8_isLike_15 : decode cX8_isLike 15 = .ok (.aload_n 0, 1) := by decide +kernel
theorem dX8_isLike_16 : decode cX8_isLike 16 = .ok (.getfield 35, 3) := by decide +kernel
theorem dX8_isLike_19 : decode cX8_isLike 19 = .ok (.sipush 148, 3) := by decide +kernel
theorem dX8_isLike_22 : decode cX8_isLike 22 = .ok (.iload_n 1, 1) := by decide +kernel
theorem dX8_isLike_23 : decode cX8_isLike 23 = .ok (.imul, 1) := by decide +kernel
theorem dX8_isLike_24 : decode cX8_isLike 24 = .ok (.iload 4, 2) := by decide +kernel
theorem dX8_isLike_26 : decode cX8_isLike 26 = .ok (.iadd, 1) := by decide +kernel
theorem dX8_isLike_27 : decode cX8_isLike 27 = .ok (.baload, 1) := by decide +kernel
theorem dX8_isLike_28 : decode cX8_isLike 28 = .ok (.aload_n 0, 1) := by decide +kernel
theorem dX8_isLike_29 : decode cX8_isLike 29 = .ok (.getfield 35, 3) := by decide +kernel
theorem dX8_isLike_32 : decode cX8_isLike 32 = .ok (.sipush 148, 3) := by decide +kernel
theorem dX8_isLike_35 : decode cX8_isLike 35 = .ok (.iload_n 2, 1) := by decide +kernel
theorem dX8_isLike_36 : decode cX8_isLike 36 = .ok (.imul, 1) := by decide +kernel
theorem dX8_isLike_37 : decode cX8_isLike 37 = .ok (.iload 4, 2) := by decide +kernel
theorem dX8_isLike_39 : decode cX8_isLike 39 = .ok (.iadd, 1) := by decide +kernel
theorem dX8_isLike_40 : decode cX8_isLike 40 = .ok (.baload, 1) := by decide +kernel
theorem dX8_isLike_41 : decode cX8_isLike 41 = .ok (.if_icmp .ne 7, 3) := by decide +kernel
theorem dX8_isLike_44 : decode cX8_isLike 44 = .ok (.iconst 1, 1) := by decide +kernel
theorem dX8_isLike_45 : decode cX8_isLike 45 = .ok (.goto 4, 3) := by decide +kernel
theorem dX8_isLike_48 : decode cX8_isLike 48 = .ok (.iconst 0, 1) := by decide +kernel
theorem dX8_isLike_49 : decode cX8_isLike 49 = .ok (.istore_n 3, 1) := by decide +kernel
theorem dX8_isLike_50 : decode cX8_isLike 50 = .ok (.iinc 4 1, 3) := by decide +kernel
theorem dX8_isLike_53 : decode cX8_isLike 53 = .ok (.goto (-48), 3) := by decide +kernel
theorem dX8_isLike_56 : decode cX8_isLike 56 = .ok (.iload_n 3, 1) := by decide +kernel
theorem dX8_isLike_57 : decode cX8_isLike 57 = .ok (.ireturn, 1) := by decide +kernel
set_option maxRecDepth 20000 in
theorem ggX8_isFirstOf_X8_openIn : GoodIn wsX8_isFirstOf wsX8_openIn := goodIn_r _ [5, 6, 7, 8, 9, 10, 4, 11, 16, 17, 18, 19, 20, 21, 22, 23, 24, 25, 26, 27, 28, 29, 30, 31, 32, 33, 34, 35, 36, 37, 38, 39, 40, 41, 42, 43, 44] (by decide +kernel) (by decide +kernel)
set_option maxRecDepth 20000 in
theorem gX8_isFirstOf_X8_openIn : GoodIn wsX8_isFirstOf (wsV RX8 145 RX8 yX8_openIn wsX8_openIn) := goodIn_app (goodIn_of _ (by decide +kernel)) ggX8_isFirstOf_X8_openIn
set_option maxRecDepth 20000 in
theorem ggX8_isFirstOf_X8_isLike : GoodIn wsX8_isFirstOf wsX8_isLike := goodIn_r _ [15, 7, 16, 17, 18, 19, 20, 21, 22, 23, 24, 25, 26, 27, 28, 29, 30, 31, 32, 33, 34, 35, 36, 37, 38, 39, 40, 41, 42, 43, 44] (by decide +kernel) (by decide +kernel)
set_option maxRecDepth 20000 in
theorem gX8_isFirstOf_X8_isLike : GoodIn wsX8_isFirstOf (wsV RX8 148 RX8 yX8_isLike wsX8_isLike) := goodIn_app (goodIn_of _ (by decide +kernel)) ggX8_isFirstOf_X8_isLike
theorem dX8_isFirstOf_0 : decode cX8_isFirstOf 0 = .ok (.aload_n 0, 1) := by decide +kernel
theorem dX8_isFirstOf_1 : decode cX8_isFirstOf 1 = .ok (.iload_n 1, 1) := by decide +kernel
theorem dX8_isFirstOf_2 : decode cX8_isFirstOf 2 = .ok (.invokevirtual 145, 3) := by decide +kernel
theorem dX8_isFirstOf_5 : decode cX8_isFirstOf 5 = .ok (.ifCond .le 5, 3) := by decide +kernel
theorem dX8_isFirstOf_8 : decode cX8_isFirstOf 8 = .ok (.iconst 0, 1) := by decide +kernel
theorem dX8_isFirstOf_9 : decode cX8_isFirstOf 9 = .ok (.ireturn, 1) := by decide +kernel
theorem dX8_isFirstOf_10 : decode cX8_isFirstOf 10 = .ok (.iconst 0, 1) := by decide +kernel
theorem dX8_isFirstOf_11 : decode cX8_isFirstOf 11 = .ok (.istore_n 2, 1) := by decide +kernel
theorem dX8_isFirstOf_12 : decode cX8_isFirstOf 12 = .ok (.iload_n 2, 1) := by decide +kernel
theorem dX8_isFirstOf_13 : decode cX8_isFirstOf 13 = .ok (.iload_n 1, 1) := by decide +kernel
theorem dX8_isFirstOf_14 : decode cX8_isFirstOf 14 = .ok (.if_icmp .ge 28, 3) := by decide +kernel
theorem dX8_isFirstOf_17 : decode cX8_isFirstOf 17 = .ok (.aload_n 0, 1) := by decide +kernel
theorem dX8_isFirstOf_18 : decode cX8_isFirstOf 18 = .ok (.iload_n 2, 1) := by decide +kernel
theorem dX8_isFirstOf_19 : decode cX8_isFirstOf 19 = .ok (.invokevirtual 145, 3) := by decide +kernel
theorem dX8_isFirstOf_22 : decode cX8_isFirstOf 22 = .ok (.ifCond .ne 14, 3) := by decide +kernel
theorem dX8_isFirstOf_25 : decode cX8_isFirstOf 25 = .ok (.aload_n 0, 1) := by decide +kernel
theorem dX8_isFirstOf_26 : decode cX8_isFirstOf 26 = .ok (.iload_n 2, 1) := by decide +kernel
theorem dX8_isFirstOf_27 : decode cX8_isFirstOf 27 = .ok (.iload_n 1, 1) := by decide +kernel
theorem dX8_isFirstOf_28 : decode cX8_isFirstOf 28 = .ok (.invokevirtual 148, 3) := by decide +kernel
theorem dX8_isFirstOf_31 : decode cX8_isFirstOf 31 = .ok (.ifCond .eq 5, 3) := by decide +kernel
theorem dX8_isFirstOf_34 : decode cX8_isFirstOf 34 = .ok (.iconst 0, 1) := by decide +kernel
theorem dX8_isFirstOf_35 : decode cX8_isFirstOf 35 = .ok (.ireturn, 1) := by decide +kernel
theorem dX8_isFirstOf_36 : decode cX8_isFirstOf 36 = .ok (.iinc 2 1, 3) := by decide +kernel
theorem dX8_isFirstOf_39 : decode cX8_isFirstOf 39 = .ok (.goto (-27), 3) := by decide +kernel
theorem dX8_isFirstOf_42 : decode cX8_isFirstOf 42 = .ok (.iconst 1, 1) := by decide +kernel
theorem dX8_isFirstOf_43 : decode cX8_isFirstOf 43 = .ok (.ireturn, 1) := by decide +kernel
set_option maxRecDepth 20000 in
theorem ggX8_countEnds_X8_isFirstOf : GoodIn wsX8_countEnds wsX8_isFirstOf := goodIn_r _ [6, 7, 8, 9, 5, 10, 11, 12, 13, 14, 15, 16, 17, 18, 19, 20, 21, 22, 23, 24, 25, 26, 27, 28, 29, 30, 31, 32, 33, 34, 35, 36, 37, 38, 39, 40, 41, 42, 43, 44, 45, 46, 47, 48, 49] (by decide +kernel) (by decide +kernel)
set_option maxRecDepth 20000 in
theorem gX8_countEnds_X8_isFirstOf : GoodIn wsX8_countEnds (wsV RX8 152 RX8 yX8_isFirstOf wsX8_isFirstOf) := goodIn_app (goodIn_of _ (by decide +kernel)) ggX8_countEnds_X8_isFirstOf
theorem dX8_countEnds_0 : decode cX8_countEnds 0 = .ok (.iconst 0, 1) := by decide +kernel
theorem dX8_countEnds_1 : decode cX8_countEnds 1 = .ok (.istore_n 1, 1) := by decide +kernel
theorem dX8_countEnds_2 : decode cX8_countEnds 2 = .ok (.iconst 0, 1) := by decide +kernel
theorem dX8_countEnds_3 : decode cX8_countEnds 3 = .ok (.istore_n 2, 1) := by decide +kernel
theorem dX8_countEnds_4 : decode cX8_countEnds 4 = .ok (.iload_n 2, 1) := by decide +kernel
theorem dX8_countEnds_5 : decode cX8_countEnds 5 = .ok (.aload_n 0, 1) := by decide +kernel
theorem dX8_countEnds_6 : decode cX8_countEnds 6 = .ok (.getfield 111, 3) := by decide +kernel
theorem dX8_countEnds_9 : decode cX8_countEnds 9 = .ok (.if_icmp .ge 25, 3) := by decide +kernel
theorem dX8_countEnds_12 : decode cX8_countEnds 12 = .ok (.iload_n 1, 1) := by decide +kernel
theorem dX8_countEnds_13 : decode cX8_countEnds 13 = .ok (.aload_n 0, 1) := by decide +kernel
theorem dX8_countEnds_14 : decode cX8_countEnds 14 = .ok (.iload_n 2, 1) := by decide +kernel
theorem dX8_countEnds_15 : decode cX8_countEnds 15 = .ok (.invokevirtual 152, 3) := by decide +kernel
theorem dX8_countEnds_18 : decode cX8_countEnds 18 = .ok (.ifCond .eq 7, 3) := by decide +kernel
theorem dX8_countEnds_21 : decode cX8_countEnds 21 = .ok (.iconst 1, 1) := by decide +kernel
theorem dX8_countEnds_22 : decode cX8_countEnds 22 = .ok (.goto 4, 3) := by decide +kernel
theorem dX8_countEnds_25 : decode cX8_countEnds 25 = .ok (.iconst 0, 1) := by decide +kernel
theorem dX8_countEnds_26 : decode cX8_countEnds 26 = .ok (.iadd, 1) := by decide +kernel
theorem dX8_countEnds_27 : decode cX8_countEnds 27 = .ok (.istore_n 1, 1) := by decide +kernel
theorem dX8_countEnds_28 : decode cX8_countEnds 28 = .ok (.iinc 2 1, 3) := by decide +kernel
theorem dX8_countEnds_31 : decode cX8_countEnds 31 = .ok (.goto (-27), 3) := by decide +kernel
theorem dX8_countEnds_34 : decode cX8_countEnds 34 = .ok (.iload_n 1, 1) := by decide +kernel
theorem dX8_countEnds_35 : decode cX8_countEnds 35 = .ok (.ireturn, 1) := by decide +kernel
set_option maxRecDepth 20000 in
theorem ggX8_look_X8_in : GoodIn wsX8_look wsX8_in := goodIn_r _ [17] (by decide +kernel) (by decide +kernel)
set_option maxRecDepth 20000 in
theorem gX8_look_X8_in : GoodIn wsX8_look (va_wsS RX8 67 yX8_in wsX8_in) := goodIn_app (goodIn_of _ (by decide +kernel)) ggX8_look_X8_in
set_option maxRecDepth 20000 in
theorem ggX8_look_X8_search : GoodIn wsX8_look wsX8_search := goodIn_r _ [21, 10, 22, 23, 24, 5, 25, 26, 27, 28, 29, 16, 30, 13, 31, 32, 33, 34, 35, 36, 37, 38, 39, 40, 41, 42, 43, 44, 45, 46, 47, 48, 49, 50, 51, 52, 53, 54, 1, 2, 55, 56, 57, 58, 59, 60, 61, 62, 63, 64, 65, 66, 67, 68, 69, 70, 71, 72, 73, 74, 75, 76, 77, 78, 79, 80, 81, 82, 83, 84, 85, 86, 87, 100, 101, 102, 103, 104, 105, 106, 107, 108, 109, 110, 111, 112, 113, 114, 115, 116, 117, 118, 119, 120, 121, 122, 123, 124, 125, 126, 127, 128] (by decide +kernel) (by decide +kernel)
set_option maxRecDepth 20000 in
theorem gX8_look_X8_search : GoodIn wsX8_look (wsV RX8 155 RX8 yX8_search wsX8_search) := goodIn_app (goodIn_of _ (by decide +kernel)) ggX8_look_X8_search
set_option maxRecDepth 20000 in
theorem ggX8_look_X8_openIn : GoodIn wsX8_look wsX8_openIn := goodIn_r _ [91, 42, 13, 43, 62, 63, 16, 64, 100, 101, 102, 103, 104, 105, 106, 107, 108, 109, 110, 111, 112, 113, 114, 115, 116, 117, 118, 119, 120, 121, 122, 123, 124, 125, 126, 127, 128] (by decide +kernel) (by decide +kernel)
set_option maxRecDepth 20000 in
theorem gX8_look_X8_openIn : GoodIn wsX8_look (wsV RX8 145 RX8 yX8_openIn wsX8_openIn) := goodIn_app (goodIn_of _ (by decide +kernel)) ggX8_look_X8_openIn
set_option maxRecDepth 20000 in
theorem ggX8_look_X8_isFirstOf : GoodIn wsX8_look wsX8_isFirstOf := goodIn_r _ [95, 88, 89, 90, 16, 91, 42, 13, 43, 62, 63, 64, 96, 97, 98, 99, 100, 101, 102, 103, 104, 105, 106, 107, 108, 109, 110, 111, 112, 113, 114, 115, 116, 117, 118, 119, 120, 121, 122, 123, 124, 125, 126, 127, 128] (by decide +kernel) (by decide +kernel)
set_option maxRecDepth 20000 in
theorem gX8_look_X8_isFirstOf : GoodIn wsX8_look (wsV RX8 152 RX8 yX8_isFirstOf wsX8_isFirstOf) := goodIn_app (goodIn_of _ (by decide +kernel)) ggX8_look_X8_isFirstOf
theorem dX8_look_0 : decode cX8_look 0 = .ok (.iload_n 1, 1) := by decide +kernel
theorem dX8_look_1 : decode cX8_look 1 = .ok (.iconst 1, 1) := by decide +kernel
theorem dX8_look_2 : decode cX8_look 2 = .ok (.sipush 600, 3) := by decide +kernel
theorem dX8_look_5 : decode cX8_look 5 = .ok (.invokestatic 67, 3) := by decide +kernel
theorem dX8_look_8 : decode cX8_look 8 = .ok (.ifCond .ne 6, 3) := by decide +kernel
theorem dX8_look_11 : decode cX8_look 11 = .ok (.bipush (-102), 2) := by decide +kernel
theorem dX8_look_13 : decode cX8_look 13 = .ok (.ireturn, 1) := by decide +kernel
theorem dX8_look_14 : decode cX8_look 14 = .ok (.aload_n 0, 1) := by decide +kernel
theorem dX8_look_15 : decode cX8_look 15 = .ok (.iconst 1, 1) := by decide +kernel
theorem dX8_look_16 : decode cX8_look 16 = .ok (.putfield 131, 3) := by decide +kernel
theorem dX8_look_19 : decode cX8_look 19 = .ok (.aload_n 0, 1) := by decide +kernel
theorem dX8_look_20 : decode cX8_look 20 = .ok (.getfield 51, 3) := by decide +kernel
theorem dX8_look_23 : decode cX8_look 23 = .ok (.iconst 0, 1) := by decide +kernel
theorem dX8_look_24 : decode cX8_look 24 = .ok (.iconst (-1), 1) := by decide +kernel
theorem dX8_look_25 : decode cX8_look 25 = .ok (.iastore, 1) := by decide +kernel
theorem dX8_look_26 : decode cX8_look 26 = .ok (.aload_n 0, 1) := by decide +kernel
theorem dX8_look_27 : decode cX8_look 27 = .ok (.aload_n 0, 1) := by decide +kernel
theorem dX8_look_28 : decode cX8_look 28 = .ok (.iload_n 1, 1) := by decide +kernel
theorem dX8_look_29 : decode cX8_look 29 = .ok (.iconst 0, 1) := by decide +kernel
theorem dX8_look_30 : decode cX8_look 30 = .ok (.invokevirtual 155, 3) := by decide +kernel
theorem dX8_look_33 : decode cX8_look 33 = .ok (.putfield 158, 3) := by decide +kernel
theorem dX8_look_36 : decode cX8_look 36 = .ok (.aload_n 0, 1) := by decide +kernel
theorem dX8_look_37 : decode cX8_look 37 = .ok (.iconst 1, 1) := by decide +kernel
theorem dX8_look_38 : decode cX8_look 38 = .ok (.putfield 63, 3) := by decide +kernel
theorem dX8_look_41 : decode cX8_look 41 = .ok (.aload_n 0, 1) := by decide +kernel
theorem dX8_look_42 : decode cX8_look 42 = .ok (.aload_n 0, 1) := by decide +kernel
theorem dX8_look_43 : decode cX8_look 43 = .ok (.getfield 71, 3) := by decide +kernel
theorem dX8_look_46 : decode cX8_look 46 = .ok (.putfield 161, 3) := by decide +kernel
theorem dX8_look_49 : decode cX8_look 49 = .ok (.aload_n 0, 1) := by decide +kernel
theorem dX8_look_50 : decode cX8_look 50 = .ok (.iconst 0, 1) := by decide +kernel
theorem dX8_look_51 : decode cX8_look 51 = .ok (.putfield 164, 3) := by decide +kernel
theorem dX8_look_54 : decode cX8_look 54 = .ok (.aload_n 0, 1) := by decide +kernel
theorem dX8_look_55 : decode cX8_look 55 = .ok (.iconst 0, 1) := by decide +kernel
theorem dX8_look_56 : decode cX8_look 56 = .ok (.putfield 167, 3) := by decide +kernel
theorem dX8_look_59 : decode cX8_look 59 = .ok (.aload_n 0, 1) := by decide +kernel
theorem dX8_look_60 : decode cX8_look 60 = .ok (.iconst 0, 1) := by decide +kernel
theorem dX8_look_61 : decode cX8_look 61 = .ok (.putfield 170, 3) := by decide +kernel
theorem dX8_look_64 : decode cX8_look 64 = .ok (.iconst 0, 1) := by decide +kernel
theorem dX8_look_65 : decode cX8_look 65 = .ok (.istore_n 2, 1) := by decide +kernel
theorem dX8_look_66 : decode cX8_look 66 = .ok (.iload_n 2, 1) := by decide +kernel
theorem dX8_look_67 : decode cX8_look 67 = .ok (.aload_n 0, 1) := by decide +kernel
theorem dX8_look_68 : decode cX8_look 68 = .ok (.getfield 111, 3) := by decide +kernel
theorem dX8_look_71 : decode cX8_look 71 = .ok (.if_icmp .ge 123, 3) := by decide +kernel
theorem dX8_look_74 : decode cX8_look 74 = .ok (.aload_n 0, 1) := by decide +kernel
theorem dX8_look_75 : decode cX8_look 75 = .ok (.iload_n 2, 1) := by decide +kernel
theorem dX8_look_76 : decode cX8_look 76 = .ok (.invokevirtual 145, 3) := by decide +kernel
theorem dX8_look_79 : decode cX8_look 79 = .ok (.istore_n 3, 1) := by decide +kernel
theorem dX8_look_80 : decode cX8_look 80 = .ok (.aload_n 0, 1) := by decide +kernel
theorem dX8_look_81 : decode cX8_look 81 = .ok (.dup, 1) := by decide +kernel
theorem dX8_look_82 : decode cX8_look 82 = .ok (.getfield 164, 3) := by decide +kernel
theorem dX8_look_85 : decode cX8_look 85 = .ok (.iload_n 3, 1) := by decide +kernel
theorem dX8_look_86 : decode cX8_look 86 = .ok (.ifCond .ne 7, 3) := by decide +kernel
theorem dX8_look_89 : decode cX8_look 89 = .ok (.iconst 1, 1) := by decide +kernel
theorem dX8_look_90 : decode cX8_look 90 = .ok (.goto 4, 3) := by decide +kernel
theorem dX8_look_93 : decode cX8_look 93 = .ok (.iconst 0, 1) := by decide +kernel
theorem dX8_look_94 : decode cX8_look 94 = .ok (.iadd, 1) := by decide +kernel
theorem dX8_look_95 : decode cX8_look 95 = .ok (.putfield 164, 3) := by decide +kernel
theorem dX8_look_98 : decode cX8_look 98 = .ok (.aload_n 0, 1) := by decide +kernel
theorem dX8_look_99 : decode cX8_look 99 = .ok (.iload_n 3, 1) := by decide +kernel
theorem dX8_look_100 : decode cX8_look 100 = .ok (.aload_n 0, 1) := by decide +kernel
theorem dX8_look_101 : decode cX8_look 101 = .ok (.getfield 167, 3) := by decide +kernel
theorem dX8_look_104 : decode cX8_look 104 = .ok (.if_icmp .le 7, 3) := by decide +kernel
theorem dX8_look_107 : decode cX8_look 107 = .ok (.iload_n 3, 1) := by decide +kernel
theorem dX8_look_108 : decode cX8_look 108 = .ok (.goto 7, 3) := by decide +kernel
theorem dX8_look_111 : decode cX8_look 111 = .ok (.aload_n 0, 1) := by decide +kernel
theorem dX8_look_112 : decode cX8_look 112 = .ok (.getfield 167, 3) := by decide +kernel
theorem dX8_look_115 : decode cX8_look 115 = .ok (.putfield 167, 3) := by decide +kernel
theorem dX8_look_118 : decode cX8_look 118 = .ok (.aload_n 0, 1) := by decide +kernel
theorem dX8_look_119 : decode cX8_look 119 = .ok (.iload_n 2, 1) := by decide +kernel
theorem dX8_look_120 : decode cX8_look 120 = .ok (.invokevirtual 152, 3) := by decide +kernel
theorem dX8_look_123 : decode cX8_look 123 = .ok (.ifCond .eq 65, 3) := by decide +kernel
theorem dX8_look_126 : decode cX8_look 126 = .ok (.aload_n 0, 1) := by decide +kernel
theorem dX8_look_127 : decode cX8_look 127 = .ok (.getfield 45, 3) := by decide +kernel
theorem dX8_look_130 : decode cX8_look 130 = .ok (.aload_n 0, 1) := by decide +kernel
theorem dX8_look_131 : decode cX8_look 131 = .ok (.getfield 170, 3) := by decide +kernel
theorem dX8_look_134 : decode cX8_look 134 = .ok (.iload_n 2, 1) := by decide +kernel
theorem dX8_look_135 : decode cX8_look 135 = .ok (.iastore, 1) := by decide +kernel
theorem dX8_look_136 : decode cX8_look 136 = .ok (.iconst 0, 1) := by decide +kernel
theorem dX8_look_137 : decode cX8_look 137 = .ok (.istore 4, 2) := by decide +kernel
theorem dX8_look_139 : decode cX8_look 139 = .ok (.iload 4, 2) := by decide +kernel
theorem dX8_look_141 : decode cX8_look 141 = .ok (.iconst 5, 1) := by decide +kernel
theorem dX8_look_142 : decode cX8_look 142 = .ok (.if_icmp .ge 36, 3) := by decide +kernel
theorem dX8_look_145 : decode cX8_look 145 = .ok (.aload_n 0, 1) := by decide +kernel
theorem dX8_look_146 : decode cX8_look 146 = .ok (.getfield 48, 3) := by decide +kernel
theorem dX8_look_149 : decode cX8_look 149 = .ok (.iconst 5, 1) := by decide +kernel
theorem dX8_look_150 : decode cX8_look 150 = .ok (.aload_n 0, 1) := by decide +kernel
theorem dX8_look_151 : decode cX8_look 151 = .ok (.getfield 170, 3) := by decide +kernel
theorem dX8_look_154 : decode cX8_look 154 = .ok (.imul, 1) := by decide +kernel
theorem dX8_look_155 : decode cX8_look 155 = .ok (.iload 4, 2) := by decide +kernel
theorem dX8_look_157 : decode cX8_look 157 = .ok (.iadd, 1) := by decide +kernel
theorem dX8_look_158 : decode cX8_look 158 = .ok (.aload_n 0, 1) := by decide +kernel
theorem dX8_look_159 : decode cX8_look 159 = .ok (.getfield 35, 3) := by decide +kernel
theorem dX8_look_162 : decode cX8_look 162 = .ok (.sipush 148, 3) := by decide +kernel
theorem dX8_look_165 : decode cX8_look 165 = .ok (.iload_n 2, 1) := by decide +kernel
theorem dX8_look_166 : decode cX8_look 166 = .ok (.imul, 1) := by decide +kernel
theorem dX8_look_167 : decode cX8_look 167 = .ok (.iload 4, 2) := by decide +kernel
theorem dX8_look_169 : decode cX8_look 169 = .ok (.iadd, 1) := by decide +kernel
theorem dX8_look_170 : decode cX8_look 170 = .ok (.baload, 1) := by decide +kernel
theorem dX8_look_171 : decode cX8_look 171 = .ok (.bastore, 1) := by decide +kernel
theorem dX8_look_172 : decode cX8_look 172 = .ok (.iinc 4 1, 3) := by decide +kernel
theorem dX8_look_175 : decode cX8_look 175 = .ok (.goto (-36), 3) := by decide +kernel
theorem dX8_look_178 : decode cX8_look 178 = .ok (.aload_n 0, 1) := by decide +kernel
theorem dX8_look_179 : decode cX8_look 179 = .ok (.dup, 1) := by decide +kernel
theorem dX8_look_180 : decode cX8_look 180 = .ok (.getfield 170, 3) := by decide +kernel
theorem dX8_look_183 : decode cX8_look 183 = .ok (.iconst 1, 1) := by decide +kernel
theorem dX8_look_184 : decode cX8_look 184 = .ok (.iadd, 1) := by decide +kernel
theorem dX8_look_185 : decode cX8_look 185 = .ok (.putfield 170, 3) := by decide +kernel
theorem dX8_look_188 : decode cX8_look 188 = .ok (.iinc 2 1, 3) := by decide +kernel
theorem dX8_look_191 : decode cX8_look 191 = .ok (.goto (-125), 3) := by decide +kernel
theorem dX8_look_194 : decode cX8_look 194 = .ok (.aload_n 0, 1) := by decide +kernel
theorem dX8_look_195 : decode cX8_look 195 = .ok (.getfield 111, 3) := by decide +kernel
theorem dX8_look_198 : decode cX8_look 198 = .ok (.ireturn, 1) := by decide +kernel
set_option maxRecDepth 20000 in
theorem ggX8_looked_X8_in : GoodIn wsX8_looked wsX8_in := goodIn_r _ [9] (by decide +kernel) (by decide +kernel)
set_option maxRecDepth 20000 in
theorem gX8_looked_X8_in : GoodIn wsX8_looked (va_wsS RX8 67 yX8_in wsX8_in) := goodIn_app (goodIn_of _ (by decide +kernel)) ggX8_looked_X8_in
theorem dX8_looked_0 : decode cX8_looked 0 = .ok (.iload_n 1, 1) := by decide +kernel
theorem dX8_looked_1 : decode cX8_looked 1 = .ok (.iconst 0, 1) := by decide +kernel
theorem dX8_looked_2 : decode cX8_looked 2 = .ok (.iconst 3, 1) := by decide +kernel
theorem dX8_looked_3 : decode cX8_looked 3 = .ok (.invokestatic 67, 3) := by decide +kernel
theorem dX8_looked_6 : decode cX8_looked 6 = .ok (.ifCond .ne 6, 3) := by decide +kernel
theorem dX8_looked_9 : decode cX8_looked 9 = .ok (.bipush (-102), 2) := by decide +kernel
theorem dX8_looked_11 : decode cX8_looked 11 = .ok (.ireturn, 1) := by decide +kernel
theorem dX8_looked_12 : decode cX8_looked 12 = .ok (.aload_n 0, 1) := by decide +kernel
theorem dX8_looked_13 : decode cX8_looked 13 = .ok (.getfield 63, 3) := by decide +kernel
theorem dX8_looked_16 : decode cX8_looked 16 = .ok (.ifCond .ne 5, 3) := by decide +kernel
theorem dX8_looked_19 : decode cX8_looked 19 = .ok (.iconst (-1), 1) := by decide +kernel
theorem dX8_looked_20 : decode cX8_looked 20 = .ok (.ireturn, 1) := by decide +kernel
theorem dX8_looked_21 : decode cX8_looked 21 = .ok (.iload_n 1, 1) := by decide +kernel
theorem dX8_looked_22 : decode cX8_looked 22 = .ok (.ifCond .ne 18, 3) := by decide +kernel
theorem dX8_looked_25 : decode cX8_looked 25 = .ok (.aload_n 0, 1) := by decide +kernel
theorem dX8_looked_26 : decode cX8_looked 26 = .ok (.getfield 158, 3) := by decide +kernel
theorem dX8_looked_29 : decode cX8_looked 29 = .ok (.ifCond .eq 7, 3) := by decide +kernel
theorem dX8_looked_32 : decode cX8_looked 32 = .ok (.iconst 1, 1) := by decide +kernel
theorem dX8_looked_33 : decode cX8_looked 33 = .ok (.goto 35, 3) := by decide +kernel
theorem dX8_looked_36 : decode cX8_looked 36 = .ok (.iconst 0, 1) := by decide +kernel
theorem dX8_looked_37 : decode cX8_looked 37 = .ok (.goto 31, 3) := by decide +kernel
theorem dX8_looked_40 : decode cX8_looked 40 = .ok (.iload_n 1, 1) := by decide +kernel
theorem dX8_looked_41 : decode cX8_looked 41 = .ok (.iconst 1, 1) := by decide +kernel
theorem dX8_looked_42 : decode cX8_looked 42 = .ok (.if_icmp .ne 10, 3) := by decide +kernel
theorem dX8_looked_45 : decode cX8_looked 45 = .ok (.aload_n 0, 1) := by decide +kernel
theorem dX8_looked_46 : decode cX8_looked 46 = .ok (.getfield 170, 3) := by decide +kernel
theorem dX8_looked_49 : decode cX8_looked 49 = .ok (.goto 19, 3) := by decide +kernel
theorem dX8_looked_52 : decode cX8_looked 52 = .ok (.iload_n 1, 1) := by decide +kernel
theorem dX8_looked_53 : decode cX8_looked 53 = .ok (.iconst 2, 1) := by decide +kernel
theorem dX8_looked_54 : decode cX8_looked 54 = .ok (.if_icmp .ne 10, 3) := by decide +kernel
theorem dX8_looked_57 : decode cX8_looked 57 = .ok (.aload_n 0, 1) := by decide +kernel
theorem dX8_looked_58 : decode cX8_looked 58 = .ok (.getfield 164, 3) := by decide +kernel
theorem dX8_looked_61 : decode cX8_looked 61 = .ok (.goto 7, 3) := by decide +kernel
theorem dX8_looked_64 : decode cX8_looked 64 = .ok (.aload_n 0, 1) := by decide +kernel
theorem dX8_looked_65 : decode cX8_looked 65 = .ok (.getfield 167, 3) := by decide +kernel
theorem dX8_looked_68 : decode cX8_looked 68 = .ok (.ireturn, 1) := by decide +kernel
set_option maxRecDepth 20000 in
theorem ggX8_end_X8_in : GoodIn wsX8_end wsX8_in := goodIn_r _ [8] (by decide +kernel) (by decide +kernel)
set_option maxRecDepth 20000 in
theorem gX8_end_X8_in : GoodIn wsX8_end (va_wsS RX8 67 yX8_in wsX8_in) := goodIn_app (goodIn_of _ (by decide +kernel)) ggX8_end_X8_in
theorem dX8_end_0 : decode cX8_end 0 = .ok (.aload_n 0, 1) := by decide +kernel
theorem dX8_end_1 : decode cX8_end 1 = .ok (.getfield 63, 3) := by decide +kernel
theorem dX8_end_4 : decode cX8_end 4 = .ok (.ifCond .eq 31, 3) := by decide +kernel
theorem dX8_end_7 : decode cX8_end 7 = .ok (.iload_n 1, 1) := by decide +kernel
theorem dX8_end_8 : decode cX8_end 8 = .ok (.iconst 0, 1) := by decide +kernel
theorem dX8_end_9 : decode cX8_end 9 = .ok (.aload_n 0, 1) := by decide +kernel
theorem dX8_end_10 : decode cX8_end 10 = .ok (.getfield 170, 3) := by decide +kernel
theorem dX8_end_13 : decode cX8_end 13 = .ok (.iconst 1, 1) := by decide +kernel
theorem dX8_end_14 : decode cX8_end 14 = .ok (.isub, 1) := by decide +kernel
theorem dX8_end_15 : decode cX8_end 15 = .ok (.invokestatic 67, 3) := by decide +kernel
theorem dX8_end_18 : decode cX8_end 18 = .ok (.ifCond .eq 17, 3) := by decide +kernel
theorem dX8_end_21 : decode cX8_end 21 = .ok (.iload_n 2, 1) := by decide +kernel
theorem dX8_end_22 : decode cX8_end 22 = .ok (.iconst 0, 1) := by decide +kernel
theorem dX8_end_23 : decode cX8_end 23 = .ok (.aload_n 0, 1) := by decide +kernel
theorem dX8_end_24 : decode cX8_end 24 = .ok (.getfield 161, 3) := by decide +kernel
theorem dX8_end_27 : decode cX8_end 27 = .ok (.iconst 1, 1) := by decide +kernel
theorem dX8_end_28 : decode cX8_end 28 = .ok (.isub, 1) := by decide +kernel
theorem dX8_end_29 : decode cX8_end 29 = .ok (.invokestatic 67, 3) := by decide +kernel
theorem dX8_end_32 : decode cX8_end 32 = .ok (.ifCond .ne 6, 3) := by decide +kernel
theorem dX8_end_35 : decode cX8_end 35 = .ok (.bipush (-101), 2) := by decide +kernel
theorem dX8_end_37 : decode cX8_end 37 = .ok (.ireturn, 1) := by decide +kernel
theorem dX8_end_38 : decode cX8_end 38 = .ok (.aload_n 0, 1) := by decide +kernel
theorem dX8_end_39 : decode cX8_end 39 = .ok (.getfield 48, 3) := by decide +kernel
theorem dX8_end_42 : decode cX8_end 42 = .ok (.iconst 5, 1) := by decide +kernel
theorem dX8_end_43 : decode cX8_end 43 = .ok (.iload_n 1, 1) := by decide +kernel
theorem dX8_end_44 : decode cX8_end 44 = .ok (.imul, 1) := by decide +kernel
theorem dX8_end_45 : decode cX8_end 45 = .ok (.iload_n 2, 1) := by decide +kernel
theorem dX8_end_46 : decode cX8_end 46 = .ok (.iadd, 1) := by decide +kernel
theorem dX8_end_47 : decode cX8_end 47 = .ok (.baload, 1) := by decide +kernel
theorem dX8_end_48 : decode cX8_end 48 = .ok (.ireturn, 1) := by decide +kernel
set_option maxRecDepth 20000 in
theorem ggX8_way_X8_in : GoodIn wsX8_way wsX8_in := goodIn_r _ [11] (by decide +kernel) (by decide +kernel)
set_option maxRecDepth 20000 in
theorem gX8_way_X8_in : GoodIn wsX8_way (va_wsS RX8 67 yX8_in wsX8_in) := goodIn_app (goodIn_of _ (by decide +kernel)) ggX8_way_X8_in
theorem dX8_way_0 : decode cX8_way 0 = .ok (.aload_n 0, 1) := by decide +kernel
theorem dX8_way_1 : decode cX8_way 1 = .ok (.getfield 63, 3) := by decide +kernel
theorem dX8_way_4 : decode cX8_way 4 = .ok (.ifCond .eq 22, 3) := by decide +kernel
theorem dX8_way_7 : decode cX8_way 7 = .ok (.iload_n 1, 1) := by decide +kernel
theorem dX8_way_8 : decode cX8_way 8 = .ok (.iconst 0, 1) := by decide +kernel
theorem dX8_way_9 : decode cX8_way 9 = .ok (.aload_n 0, 1) := by decide +kernel
theorem dX8_way_10 : decode cX8_way 10 = .ok (.getfield 170, 3) := by decide +kernel
theorem dX8_way_13 : decode cX8_way 13 = .ok (.iconst 1, 1) := by decide +kernel
theorem dX8_way_14 : decode cX8_way 14 = .ok (.isub, 1) := by decide +kernel
theorem dX8_way_15 : decode cX8_way 15 = .ok (.invokestatic 67, 3) := by decide +kernel
theorem dX8_way_18 : decode cX8_way 18 = .ok (.ifCond .eq 8, 3) := by decide +kernel
theorem dX8_way_21 : decode cX8_way 21 = .ok (.iload_n 2, 1) := by decide +kernel
theorem dX8_way_22 : decode cX8_way 22 = .ok (.iconst (-1), 1) := by decide +kernel
theorem dX8_way_23 : decode cX8_way 23 = .ok (.if_icmp .ge 6, 3) := by decide +kernel
theorem dX8_way_26 : decode cX8_way 26 = .ok (.bipush (-101), 2) := by decide +kernel
theorem dX8_way_28 : decode cX8_way 28 = .ok (.ireturn, 1) := by decide +kernel
theorem dX8_way_29 : decode cX8_way 29 = .ok (.iconst 0, 1) := by decide +kernel
theorem dX8_way_30 : decode cX8_way 30 = .ok (.istore 4, 2) := by decide +kernel
theorem dX8_way_32 : decode cX8_way 32 = .ok (.aload_n 0, 1) := by decide +kernel
theorem dX8_way_33 : decode cX8_way 33 = .ok (.getfield 45, 3) := by decide +kernel
theorem dX8_way_36 : decode cX8_way 36 = .ok (.iload_n 1, 1) := by decide +kernel
theorem dX8_way_37 : decode cX8_way 37 = .ok (.iaload, 1) := by decide +kernel
theorem dX8_way_38 : decode cX8_way 38 = .ok (.istore 5, 2) := by decide +kernel
theorem dX8_way_40 : decode cX8_way 40 = .ok (.aload_n 0, 1) := by decide +kernel
theorem dX8_way_41 : decode cX8_way 41 = .ok (.getfield 51, 3) := by decide +kernel
theorem dX8_way_44 : decode cX8_way 44 = .ok (.iload 5, 2) := by decide +kernel
theorem dX8_way_46 : decode cX8_way 46 = .ok (.iaload, 1) := by decide +kernel
theorem dX8_way_47 : decode cX8_way 47 = .ok (.iconst (-1), 1) := by decide +kernel
theorem dX8_way_48 : decode cX8_way 48 = .ok (.if_icmp .eq 18, 3) := by decide +kernel
theorem dX8_way_51 : decode cX8_way 51 = .ok (.iinc 4 1, 3) := by decide +kernel
theorem dX8_way_54 : decode cX8_way 54 = .ok (.aload_n 0, 1) := by decide +kernel
theorem dX8_way_55 : decode cX8_way 55 = .ok (.getfield 51, 3) := by decide +kernel
theorem dX8_way_58 : decode cX8_way 58 = .ok (.iload 5, 2) := by decide +kernel
theorem dX8_way_60 : decode cX8_way 60 = .ok (.iaload, 1) := by decide +kernel
theorem dX8_way_61 : decode cX8_way 61 = .ok (.istore 5, 2) := by decide +kernel
theorem dX8_way_63 : decode cX8_way 63 = .ok (.goto (-23), 3) := by decide +kernel
theorem dX8_way_66 : decode cX8_way 66 = .ok (.iload_n 2, 1) := by decide +kernel
theorem dX8_way_67 : decode cX8_way 67 = .ok (.iconst (-1), 1) := by decide +kernel
theorem dX8_way_68 : decode cX8_way 68 = .ok (.if_icmp .ne 6, 3) := by decide +kernel
theorem dX8_way_71 : decode cX8_way 71 = .ok (.iload 4, 2) := by decide +kernel
theorem dX8_way_73 : decode cX8_way 73 = .ok (.ireturn, 1) := by decide +kernel
theorem dX8_way_74 : decode cX8_way 74 = .ok (.iload_n 2, 1) := by decide +kernel
theorem dX8_way_75 : decode cX8_way 75 = .ok (.iload 4, 2) := by decide +kernel
theorem dX8_way_77 : decode cX8_way 77 = .ok (.if_icmp .lt 6, 3) := by decide +kernel
theorem dX8_way_80 : decode cX8_way 80 = .ok (.bipush (-101), 2) := by decide +kernel
theorem dX8_way_82 : decode cX8_way 82 = .ok (.ireturn, 1) := by decide +kernel
theorem dX8_way_83 : decode cX8_way 83 = .ok (.iload_n 3, 1) := by decide +kernel
theorem dX8_way_84 : decode cX8_way 84 = .ok (.iconst 0, 1) := by decide +kernel
theorem dX8_way_85 : decode cX8_way 85 = .ok (.iconst 2, 1) := by decide +kernel
theorem dX8_way_86 : decode cX8_way 86 = .ok (.invokestatic 67, 3) := by decide +kernel
theorem dX8_way_89 : decode cX8_way 89 = .ok (.ifCond .ne 6, 3) := by decide +kernel
theorem dX8_way_92 : decode cX8_way 92 = .ok (.bipush (-102), 2) := by decide +kernel
theorem dX8_way_94 : decode cX8_way 94 = .ok (.ireturn, 1) := by decide +kernel
theorem dX8_way_95 : decode cX8_way 95 = .ok (.aload_n 0, 1) := by decide +kernel
theorem dX8_way_96 : decode cX8_way 96 = .ok (.getfield 45, 3) := by decide +kernel
theorem dX8_way_99 : decode cX8_way 99 = .ok (.iload_n 1, 1) := by decide +kernel
theorem dX8_way_100 : decode cX8_way 100 = .ok (.iaload, 1) := by decide +kernel
theorem dX8_way_101 : decode cX8_way 101 = .ok (.istore 5, 2) := by decide +kernel
theorem dX8_way_103 : decode cX8_way 103 = .ok (.iload 4, 2) := by decide +kernel
theorem dX8_way_105 : decode cX8_way 105 = .ok (.iconst 1, 1) := by decide +kernel
theorem dX8_way_106 : decode cX8_way 106 = .ok (.isub, 1) := by decide +kernel
theorem dX8_way_107 : decode cX8_way 107 = .ok (.istore 6, 2) := by decide +kernel
theorem dX8_way_109 : decode cX8_way 109 = .ok (.iload 6, 2) := by decide +kernel
theorem dX8_way_111 : decode cX8_way 111 = .ok (.iload_n 2, 1) := by decide +kernel
theorem dX8_way_112 : decode cX8_way 112 = .ok (.if_icmp .le 18, 3) := by decide +kernel
theorem dX8_way_115 : decode cX8_way 115 = .ok (.aload_n 0, 1) := by decide +kernel
theorem dX8_way_116 : decode cX8_way 116 = .ok (.getfield 51, 3) := by decide +kernel
theorem dX8_way_119 : decode cX8_way 119 = .ok (.iload 5, 2) := by decide +kernel
theorem dX8_way_121 : decode cX8_way 121 = .ok (.iaload, 1) := by decide +kernel
theorem dX8_way_122 : decode cX8_way 122 = .ok (.istore 5, 2) := by decide +kernel
theorem dX8_way_124 : decode cX8_way 124 = .ok (.iinc 6 (-1), 3) := by decide +kernel
theorem dX8_way_127 : decode cX8_way 127 = .ok (.goto (-18), 3) := by decide +kernel
theorem dX8_way_130 : decode cX8_way 130 = .ok (.iload_n 3, 1) := by decide +kernel
theorem dX8_way_131 : decode cX8_way 131 = .ok (.ifCond .ne 13, 3) := by decide +kernel
theorem dX8_way_134 : decode cX8_way 134 = .ok (.aload_n 0, 1) := by decide +kernel
theorem dX8_way_135 : decode cX8_way 135 = .ok (.getfield 54, 3) := by decide +kernel
theorem dX8_way_138 : decode cX8_way 138 = .ok (.iload 5, 2) := by decide +kernel
theorem dX8_way_140 : decode cX8_way 140 = .ok (.iaload, 1) := by decide +kernel
theorem dX8_way_141 : decode cX8_way 141 = .ok (.goto 25, 3) := by decide +kernel
theorem dX8_way_144 : decode cX8_way 144 = .ok (.iload_n 3, 1) := by decide +kernel
theorem dX8_way_145 : decode cX8_way 145 = .ok (.iconst 1, 1) := by decide +kernel
theorem dX8_way_146 : decode cX8_way 146 = .ok (.if_icmp .ne 13, 3) := by decide +kernel
theorem dX8_way_149 : decode cX8_way 149 = .ok (.aload_n 0, 1) := by decide +kernel
theorem dX8_way_150 : decode cX8_way 150 = .ok (.getfield 57, 3) := by decide +kernel
theorem dX8_way_153 : decode cX8_way 153 = .ok (.iload 5, 2) := by decide +kernel
theorem dX8_way_155 : decode cX8_way 155 = .ok (.iaload, 1) := by decide +kernel
theorem dX8_way_156 : decode cX8_way 156 = .ok (.goto 10, 3) := by decide +kernel
theorem dX8_way_159 : decode cX8_way 159 = .ok (.aload_n 0, 1) := by decide +kernel
theorem dX8_way_160 : decode cX8_way 160 = .ok (.getfield 60, 3) := by decide +kernel
theorem dX8_way_163 : decode cX8_way 163 = .ok (.iload 5, 2) := by decide +kernel
theorem dX8_way_165 : decode cX8_way 165 = .ok (.iaload, 1) := by decide +kernel
theorem dX8_way_166 : decode cX8_way 166 = .ok (.ireturn, 1) := by decide +kernel
set_option maxRecDepth 20000 in
theorem ggX8_shrink_X8_in : GoodIn wsX8_shrink wsX8_in := goodIn_r _ [6] (by decide +kernel) (by decide +kernel)
set_option maxRecDepth 20000 in
theorem gX8_shrink_X8_in : GoodIn wsX8_shrink (va_wsS RX8 67 yX8_in wsX8_in) := goodIn_app (goodIn_of _ (by decide +kernel)) ggX8_shrink_X8_in
set_option maxRecDepth 20000 in
theorem ggX8_shrink_X8_search : GoodIn wsX8_shrink wsX8_search := goodIn_r _ [10, 11, 12, 13, 14, 15, 16, 17, 18, 19, 20, 5, 21, 22, 23, 24, 25, 26, 27, 28, 29, 30, 31, 32, 33, 34, 2, 35, 36, 37, 38, 39, 40, 41, 42, 43, 44, 45, 1, 46, 47, 48, 49, 50, 51, 52, 53, 54, 55, 56, 57, 58, 59, 60, 61, 62, 63, 64, 65, 66, 67, 68, 69, 70, 71, 72, 73, 74, 75, 76, 77, 78, 79, 96, 97, 98, 99, 100, 101, 102, 103, 104, 105, 106, 107, 108, 109, 110, 111, 112, 113, 114, 115, 116, 117, 118, 119, 120, 121, 122, 123, 124] (by decide +kernel) (by decide +kernel)
set_option maxRecDepth 20000 in
theorem gX8_shrink_X8_search : GoodIn wsX8_shrink (wsV RX8 155 RX8 yX8_search wsX8_search) := goodIn_app (goodIn_of _ (by decide +kernel)) ggX8_shrink_X8_search
set_option maxRecDepth 20000 in
theorem ggX8_shrink_X8_countEnds : GoodIn wsX8_shrink wsX8_countEnds := goodIn_r _ [83, 11, 84, 85, 86, 5, 87, 88, 89, 90, 91, 34, 22, 2, 54, 55, 56, 92, 93, 94, 95, 96, 97, 98, 99, 100, 101, 102, 103, 104, 105, 106, 107, 108, 109, 110, 111, 112, 113, 114, 115, 116, 117, 118, 119, 120, 121, 122, 123, 124] (by decide +kernel) (by decide +kernel)
set_option maxRecDepth 20000 in
theorem gX8_shrink_X8_countEnds : GoodIn wsX8_shrink (wsV RX8 173 RX8 yX8_countEnds wsX8_countEnds) := goodIn_app (goodIn_of _ (by decide +kernel)) ggX8_shrink_X8_countEnds
theorem dX8_shrink_0 : decode cX8_shrink 0 = .ok (.iload_n 1, 1) := by decide +kernel
theorem dX8_shrink_1 : decode cX8_shrink 1 = .ok (.iconst 1, 1) := by decide +kernel
theorem dX8_shrink_2 : decode cX8_shrink 2 = .ok (.sipush 600, 3) := by decide +kernel
theorem dX8_shrink_5 : decode cX8_shrink 5 = .ok (.invokestatic 67, 3) := by decide +kernel
theorem dX8_shrink_8 : decode cX8_shrink 8 = .ok (.ifCond .ne 6, 3) := by decide +kernel
theorem dX8_shrink_11 : decode cX8_shrink 11 = .ok (.bipush (-102), 2) := by decide +kernel
theorem dX8_shrink_13 : decode cX8_shrink 13 = .ok (.ireturn, 1) := by decide +kernel
theorem dX8_shrink_14 : decode cX8_shrink 14 = .ok (.aload_n 0, 1) := by decide +kernel
theorem dX8_shrink_15 : decode cX8_shrink 15 = .ok (.iconst 0, 1) := by decide +kernel
theorem dX8_shrink_16 : decode cX8_shrink 16 = .ok (.putfield 131, 3) := by decide +kernel
theorem dX8_shrink_19 : decode cX8_shrink 19 = .ok (.aload_n 0, 1) := by decide +kernel
theorem dX8_shrink_20 : decode cX8_shrink 20 = .ok (.iload_n 1, 1) := by decide +kernel
theorem dX8_shrink_21 : decode cX8_shrink 21 = .ok (.iconst 0, 1) := by decide +kernel
theorem dX8_shrink_22 : decode cX8_shrink 22 = .ok (.invokevirtual 155, 3) := by decide +kernel
theorem dX8_shrink_25 : decode cX8_shrink 25 = .ok (.pop, 1) := by decide +kernel
theorem dX8_shrink_26 : decode cX8_shrink 26 = .ok (.aload_n 0, 1) := by decide +kernel
theorem dX8_shrink_27 : decode cX8_shrink 27 = .ok (.invokevirtual 173, 3) := by decide +kernel
theorem dX8_shrink_30 : decode cX8_shrink 30 = .ok (.iconst 2, 1) := by decide +kernel
theorem dX8_shrink_31 : decode cX8_shrink 31 = .ok (.if_icmp .ge 5, 3) := by decide +kernel
theorem dX8_shrink_34 : decode cX8_shrink 34 = .ok (.iconst (-1), 1) := by decide +kernel
theorem dX8_shrink_35 : decode cX8_shrink 35 = .ok (.ireturn, 1) := by decide +kernel
theorem dX8_shrink_36 : decode cX8_shrink 36 = .ok (.iconst 0, 1) := by decide +kernel
theorem dX8_shrink_37 : decode cX8_shrink 37 = .ok (.istore_n 2, 1) := by decide +kernel
theorem dX8_shrink_38 : decode cX8_shrink 38 = .ok (.iconst 0, 1) := by decide +kernel
theorem dX8_shrink_39 : decode cX8_shrink 39 = .ok (.istore_n 3, 1) := by decide +kernel
theorem dX8_shrink_40 : decode cX8_shrink 40 = .ok (.iload_n 3, 1) := by decide +kernel
theorem dX8_shrink_41 : decode cX8_shrink 41 = .ok (.aload_n 0, 1) := by decide +kernel
theorem dX8_shrink_42 : decode cX8_shrink 42 = .ok (.getfield 75, 3) := by decide +kernel
theorem dX8_shrink_45 : decode cX8_shrink 45 = .ok (.if_icmp .ge 38, 3) := by decide +kernel
theorem dX8_shrink_48 : decode cX8_shrink 48 = .ok (.aload_n 0, 1) := by decide +kernel
theorem dX8_shrink_49 : decode cX8_shrink 49 = .ok (.iload_n 1, 1) := by decide +kernel
theorem dX8_shrink_50 : decode cX8_shrink 50 = .ok (.iload_n 2, 1) := by decide +kernel
theorem dX8_shrink_51 : decode cX8_shrink 51 = .ok (.iconst 1, 1) := by decide +kernel
theorem dX8_shrink_52 : decode cX8_shrink 52 = .ok (.iload_n 3, 1) := by decide +kernel
theorem dX8_shrink_53 : decode cX8_shrink 53 = .ok (.ishl, 1) := by decide +kernel
theorem dX8_shrink_54 : decode cX8_shrink 54 = .ok (.ior, 1) := by decide +kernel
theorem dX8_shrink_55 : decode cX8_shrink 55 = .ok (.invokevirtual 155, 3) := by decide +kernel
theorem dX8_shrink_58 : decode cX8_shrink 58 = .ok (.pop, 1) := by decide +kernel
theorem dX8_shrink_59 : decode cX8_shrink 59 = .ok (.aload_n 0, 1) := by decide +kernel
theorem dX8_shrink_60 : decode cX8_shrink 60 = .ok (.invokevirtual 173, 3) := by decide +kernel
theorem dX8_shrink_63 : decode cX8_shrink 63 = .ok (.iconst 2, 1) := by decide +kernel
theorem dX8_shrink_64 : decode cX8_shrink 64 = .ok (.if_icmp .lt 11, 3) := by decide +kernel
theorem dX8_shrink_67 : decode cX8_shrink 67 = .ok (.iload_n 2, 1) := by decide +kernel
theorem dX8_shrink_68 : decode cX8_shrink 68 = .ok (.iconst 1, 1) := by decide +kernel
theorem dX8_shrink_69 : decode cX8_shrink 69 = .ok (.iload_n 3, 1) := by decide +kernel
theorem dX8_shrink_70 : decode cX8_shrink 70 = .ok (.ishl, 1) := by decide +kernel
theorem dX8_shrink_71 : decode cX8_shrink 71 = .ok (.ior, 1) := by decide +kernel
theorem dX8_shrink_72 : decode cX8_shrink 72 = .ok (.goto 4, 3) := by decide +kernel
theorem dX8_shrink_75 : decode cX8_shrink 75 = .ok (.iload_n 2, 1) := by decide +kernel
theorem dX8_shrink_76 : decode cX8_shrink 76 = .ok (.istore_n 2, 1) := by decide +kernel
theorem dX8_shrink_77 : decode cX8_shrink 77 = .ok (.iinc 3 1, 3) := by decide +kernel
theorem dX8_shrink_80 : decode cX8_shrink 80 = .ok (.goto (-40), 3) := by decide +kernel
theorem dX8_shrink_83 : decode cX8_shrink 83 = .ok (.iconst 1, 1) := by decide +kernel
theorem dX8_shrink_84 : decode cX8_shrink 84 = .ok (.aload_n 0, 1) := by decide +kernel
theorem dX8_shrink_85 : decode cX8_shrink 85 = .ok (.getfield 75, 3) := by decide +kernel
theorem dX8_shrink_88 : decode cX8_shrink 88 = .ok (.ishl, 1) := by decide +kernel
theorem dX8_shrink_89 : decode cX8_shrink 89 = .ok (.iconst 1, 1) := by decide +kernel
theorem dX8_shrink_90 : decode cX8_shrink 90 = .ok (.isub, 1) := by decide +kernel
theorem dX8_shrink_91 : decode cX8_shrink 91 = .ok (.iload_n 2, 1) := by decide +kernel
theorem dX8_shrink_92 : decode cX8_shrink 92 = .ok (.iconst (-1), 1) := by decide +kernel
theorem dX8_shrink_93 : decode cX8_shrink 93 = .ok (.ixor, 1) := by decide +kernel
theorem dX8_shrink_94 : decode cX8_shrink 94 = .ok (.iand, 1) := by decide +kernel
theorem dX8_shrink_95 : decode cX8_shrink 95 = .ok (.ireturn, 1) := by decide +kernel
theorem dJ13_bitCount_95d88_0 : decode cJ13_bitCount_95d88 0 = .ok (.lload_n 0, 1) := by decide +kernel
theorem dJ13_bitCount_95d88_1 : decode cJ13_bitCount_95d88 1 = .ok (.lload_n 0, 1) := by decide +kernel
theorem dJ13_bitCount_95d88_2 : decode cJ13_bitCount_95d88 2 = .ok (.iconst 1, 1) := by decide +kernel
theorem dJ13_bitCount_95d88_3 : decode cJ13_bitCount_95d88 3 = .ok (.lushr, 1) := by decide +kernel
theorem dJ13_bitCount_95d88_4 : decode cJ13_bitCount_95d88 4 = .ok (.ldc2_w 314, 3) := by decide +kernel
theorem dJ13_bitCount_95d88_7 : decode cJ13_bitCount_95d88 7 = .ok (.land, 1) := by decide +kernel
theorem dJ13_bitCount_95d88_8 : decode cJ13_bitCount_95d88 8 = .ok (.lsub, 1) := by decide +kernel
theorem dJ13_bitCount_95d88_9 : decode cJ13_bitCount_95d88 9 = .ok (.lstore_n 0, 1) := by decide +kernel
theorem dJ13_bitCount_95d88_10 : decode cJ13_bitCount_95d88 10 = .ok (.lload_n 0, 1) := by decide +kernel
theorem dJ13_bitCount_95d88_11 : decode cJ13_bitCount_95d88 11 = .ok (.ldc2_w 316, 3) := by decide +kernel
theorem dJ13_bitCount_95d88_14 : decode cJ13_bitCount_95d88 14 = .ok (.land, 1) := by decide +kernel
theorem dJ13_bitCount_95d88_15 : decode cJ13_bitCount_95d88 15 = .ok (.lload_n 0, 1) := by decide +kernel
theorem dJ13_bitCount_95d88_16 : decode cJ13_bitCount_95d88 16 = .ok (.iconst 2, 1) := by decide +kernel
theorem dJ13_bitCount_95d88_17 : decode cJ13_bitCount_95d88 17 = .ok (.lushr, 1) := by decide +kernel
theorem dJ13_bitCount_95d88_18 : decode cJ13_bitCount_95d88 18 = .ok (.ldc2_w 316, 3) := by decide +kernel
theorem dJ13_bitCount_95d88_21 : decode cJ13_bitCount_95d88 21 = .ok (.land, 1) := by decide +kernel
theorem dJ13_bitCount_95d88_22 : decode cJ13_bitCount_95d88 22 = .ok (.ladd, 1) := by decide +kernel
theorem dJ13_bitCount_95d88_23 : decode cJ13_bitCount_95d88 23 = .ok (.lstore_n 0, 1) := by decide +kernel
theorem dJ13_bitCount_95d88_24 : decode cJ13_bitCount_95d88 24 = .ok (.lload_n 0, 1) := by decide +kernel
theorem dJ13_bitCount_95d88_25 : decode cJ13_bitCount_95d88 25 = .ok (.lload_n 0, 1) := by decide +kernel
theorem dJ13_bitCount_95d88_26 : decode cJ13_bitCount_95d88 26 = .ok (.iconst 4, 1) := by decide +kernel
theorem dJ13_bitCount_95d88_27 : decode cJ13_bitCount_95d88 27 = .ok (.lushr, 1) := by decide +kernel
theorem dJ13_bitCount_95d88_28 : decode cJ13_bitCount_95d88 28 = .ok (.ladd, 1) := by decide +kernel
theorem dJ13_bitCount_95d88_29 : decode cJ13_bitCount_95d88 29 = .ok (.ldc2_w 318, 3) := by decide +kernel
theorem dJ13_bitCount_95d88_32 : decode cJ13_bitCount_95d88 32 = .ok (.land, 1) := by decide +kernel
theorem dJ13_bitCount_95d88_33 : decode cJ13_bitCount_95d88 33 = .ok (.lstore_n 0, 1) := by decide +kernel
theorem dJ13_bitCount_95d88_34 : decode cJ13_bitCount_95d88 34 = .ok (.lload_n 0, 1) := by decide +kernel
theorem dJ13_bitCount_95d88_35 : decode cJ13_bitCount_95d88 35 = .ok (.lload_n 0, 1) := by decide +kernel
theorem dJ13_bitCount_95d88_36 : decode cJ13_bitCount_95d88 36 = .ok (.bipush 8, 2) := by decide +kernel
theorem dJ13_bitCount_95d88_38 : decode cJ13_bitCount_95d88 38 = .ok (.lushr, 1) := by decide +kernel
theorem dJ13_bitCount_95d88_39 : decode cJ13_bitCount_95d88 39 = .ok (.ladd, 1) := by decide +kernel
theorem dJ13_bitCount_95d88_40 : decode cJ13_bitCount_95d88 40 = .ok (.lstore_n 0, 1) := by decide +kernel
theorem dJ13_bitCount_95d88_41 : decode cJ13_bitCount_95d88 41 = .ok (.lload_n 0, 1) := by decide +kernel
theorem dJ13_bitCount_95d88_42 : decode cJ13_bitCount_95d88 42 = .ok (.lload_n 0, 1) := by decide +kernel
theorem dJ13_bitCount_95d88_43 : decode cJ13_bitCount_95d88 43 = .ok (.bipush 16, 2) := by decide +kernel
theorem dJ13_bitCount_95d88_45 : decode cJ13_bitCount_95d88 45 = .ok (.lushr, 1) := by decide +kernel
theorem dJ13_bitCount_95d88_46 : decode cJ13_bitCount_95d88 46 = .ok (.ladd, 1) := by decide +kernel
theorem dJ13_bitCount_95d88_47 : decode cJ13_bitCount_95d88 47 = .ok (.lstore_n 0, 1) := by decide +kernel
theorem dJ13_bitCount_95d88_48 : decode cJ13_bitCount_95d88 48 = .ok (.lload_n 0, 1) := by decide +kernel
theorem dJ13_bitCount_95d88_49 : decode cJ13_bitCount_95d88 49 = .ok (.lload_n 0, 1) := by decide +kernel
theorem dJ13_bitCount_95d88_50 : decode cJ13_bitCount_95d88 50 = .ok (.bipush 32, 2) := by decide +kernel
theorem dJ13_bitCount_95d88_52 : decode cJ13_bitCount_95d88 52 = .ok (.lushr, 1) := by decide +kernel
theorem dJ13_bitCount_95d88_53 : decode cJ13_bitCount_95d88 53 = .ok (.ladd, 1) := by decide +kernel
theorem dJ13_bitCount_95d88_54 : decode cJ13_bitCount_95d88 54 = .ok (.lstore_n 0, 1) := by decide +kernel
theorem dJ13_bitCount_95d88_55 : decode cJ13_bitCount_95d88 55 = .ok (.lload_n 0, 1) := by decide +kernel
theorem dJ13_bitCount_95d88_56 : decode cJ13_bitCount_95d88 56 = .ok (.l2i, 1) := by decide +kernel
theorem dJ13_bitCount_95d88_57 : decode cJ13_bitCount_95d88 57 = .ok (.bipush 127, 2) := by decide +kernel
theorem dJ13_bitCount_95d88_59 : decode cJ13_bitCount_95d88 59 = .ok (.iand, 1) := by decide +kernel
theorem dJ13_bitCount_95d88_60 : decode cJ13_bitCount_95d88 60 = .ok (.ireturn, 1) := by decide +kernel
theorem dJ9_max_7cf53_0 : decode cJ9_max_7cf53 0 = .ok (.iload_n 0, 1) := by decide +kernel
theorem dJ9_max_7cf53_1 : decode cJ9_max_7cf53 1 = .ok (.iload_n 1, 1) := by decide +kernel
theorem dJ9_max_7cf53_2 : decode cJ9_max_7cf53 2 = .ok (.if_icmp .lt 7, 3) := by decide +kernel
theorem dJ9_max_7cf53_5 : decode cJ9_max_7cf53 5 = .ok (.iload_n 0, 1) := by decide +kernel
theorem dJ9_max_7cf53_6 : decode cJ9_max_7cf53 6 = .ok (.goto 4, 3) := by decide +kernel
theorem dJ9_max_7cf53_9 : decode cJ9_max_7cf53 9 = .ok (.iload_n 1, 1) := by decide +kernel
theorem dJ9_max_7cf53_10 : decode cJ9_max_7cf53 10 = .ok (.ireturn, 1) := by decide +kernel
theorem dJ9_min_7cf53_0 : decode cJ9_min_7cf53 0 = .ok (.iload_n 0, 1) := by decide +kernel
theorem dJ9_min_7cf53_1 : decode cJ9_min_7cf53 1 = .ok (.iload_n 1, 1) := by decide +kernel
theorem dJ9_min_7cf53_2 : decode cJ9_min_7cf53 2 = .ok (.if_icmp .gt 7, 3) := by decide +kernel
theorem dJ9_min_7cf53_5 : decode cJ9_min_7cf53 5 = .ok (.iload_n 0, 1) := by decide +kernel
theorem dJ9_min_7cf53_6 : decode cJ9_min_7cf53 6 = .ok (.goto 4, 3) := by decide +kernel
theorem dJ9_min_7cf53_9 : decode cJ9_min_7cf53 9 = .ok (.iload_n 1, 1) := by decide +kernel
theorem dJ9_min_7cf53_10 : decode cJ9_min_7cf53 10 = .ok (.ireturn, 1) := by decide +kernel
theorem dJ7_fill_d0a16_0 : decode cJ7_fill_d0a16 0 = .ok (.iconst 0, 1) := by decide +kernel
theorem dJ7_fill_d0a16_1 : decode cJ7_fill_d0a16 1 = .ok (.istore_n 3, 1) := by decide +kernel
theorem dJ7_fill_d0a16_2 : decode cJ7_fill_d0a16 2 = .ok (.aload_n 0, 1) := by decide +kernel
theorem dJ7_fill_d0a16_3 : decode cJ7_fill_d0a16 3 = .ok (.arraylength, 1) := by decide +kernel
theorem dJ7_fill_d0a16_4 : decode cJ7_fill_d0a16 4 = .ok (.istore 4, 2) := by decide +kernel
theorem dJ7_fill_d0a16_6 : decode cJ7_fill_d0a16 6 = .ok (.iload_n 3, 1) := by decide +kernel
theorem dJ7_fill_d0a16_7 : decode cJ7_fill_d0a16 7 = .ok (.iload 4, 2) := by decide +kernel
theorem dJ7_fill_d0a16_9 : decode cJ7_fill_d0a16 9 = .ok (.if_icmp .ge 13, 3) := by decide +kernel
theorem dJ7_fill_d0a16_12 : decode cJ7_fill_d0a16 12 = .ok (.aload_n 0, 1) := by decide +kernel
theorem dJ7_fill_d0a16_13 : decode cJ7_fill_d0a16 13 = .ok (.iload_n 3, 1) := by decide +kernel
theorem dJ7_fill_d0a16_14 : decode cJ7_fill_d0a16 14 = .ok (.lload_n 1, 1) := by decide +kernel
theorem dJ7_fill_d0a16_15 : decode cJ7_fill_d0a16 15 = .ok (.lastore, 1) := by decide +kernel
theorem dJ7_fill_d0a16_16 : decode cJ7_fill_d0a16 16 = .ok (.iinc 3 1, 3) := by decide +kernel
theorem dJ7_fill_d0a16_19 : decode cJ7_fill_d0a16 19 = .ok (.goto (-13), 3) := by decide +kernel
theorem dJ7_fill_d0a16_22 : decode cJ7_fill_d0a16 22 = .ok (.return_, 1) := by decide +kernel
theorem dJ7_fill_53178_0 : decode cJ7_fill_53178 0 = .ok (.iconst 0, 1) := by decide +kernel
theorem dJ7_fill_53178_1 : decode cJ7_fill_53178 1 = .ok (.istore_n 2, 1) := by decide +kernel
theorem dJ7_fill_53178_2 : decode cJ7_fill_53178 2 = .ok (.aload_n 0, 1) := by decide +kernel
theorem dJ7_fill_53178_3 : decode cJ7_fill_53178 3 = .ok (.arraylength, 1) := by decide +kernel
theorem dJ7_fill_53178_4 : decode cJ7_fill_53178 4 = .ok (.istore_n 3, 1) := by decide +kernel
theorem dJ7_fill_53178_5 : decode cJ7_fill_53178 5 = .ok (.iload_n 2, 1) := by decide +kernel
theorem dJ7_fill_53178_6 : decode cJ7_fill_53178 6 = .ok (.iload_n 3, 1) := by decide +kernel
theorem dJ7_fill_53178_7 : decode cJ7_fill_53178 7 = .ok (.if_icmp .ge 13, 3) := by decide +kernel
theorem dJ7_fill_53178_10 : decode cJ7_fill_53178 10 = .ok (.aload_n 0, 1) := by decide +kernel
theorem dJ7_fill_53178_11 : decode cJ7_fill_53178 11 = .ok (.iload_n 2, 1) := by decide +kernel
theorem dJ7_fill_53178_12 : decode cJ7_fill_53178 12 = .ok (.iload_n 1, 1) := by decide +kernel
theorem dJ7_fill_53178_13 : decode cJ7_fill_53178 13 = .ok (.iastore, 1) := by decide +kernel
theorem dJ7_fill_53178_14 : decode cJ7_fill_53178 14 = .ok (.iinc 2 1, 3) := by decide +kernel
theorem dJ7_fill_53178_17 : decode cJ7_fill_53178 17 = .ok (.goto (-12), 3) := by decide +kernel
theorem dJ7_fill_53178_20 : decode cJ7_fill_53178 20 = .ok (.return_, 1) := by decide +kernel
set_option maxRecDepth 20000 in
theorem ggL_law_X7_init : GoodIn wsL_law wsX7_init := goodIn_r _ [8, 9, 10, 11, 12, 13, 14, 15, 16, 17, 18, 19, 20, 21, 22, 23, 24, 25, 26, 27, 28, 29, 30, 31, 32, 33, 34, 35, 36, 37, 38, 39, 40, 41, 42, 43, 44, 45, 46, 47, 48, 49, 50, 51, 52, 53, 54, 55, 56, 57, 58, 59, 60, 61, 62, 63, 64, 65, 66, 67, 68, 69, 70, 71, 72, 73, 74, 75, 76, 77, 78, 625, 626, 627, 628, 629, 630, 631, 632, 633, 591, 592, 593, 594, 595, 634, 635, 636, 637, 638, 639, 640, 641, 642, 643, 644, 645, 646, 647, 648, 649, 650, 651, 652, 653, 654, 655, 656, 657, 658, 659, 660, 661, 662] (by decide +kernel) (by decide +kernel)
set_option maxRecDepth 20000 in
theorem gL_law_X7_init : GoodIn wsL_law (wsX7_init) := ggL_law_X7_init
set_option maxRecDepth 20000 in
theorem ggL_law_X8_init : GoodIn wsL_law wsX8_init := goodIn_r _ [81, 82, 10, 11, 32, 83, 84, 85, 86, 87, 88, 89, 90, 91, 92, 93, 94, 95, 96, 97, 98, 99, 100, 101, 102, 596, 597, 598, 599, 600, 601, 602, 603, 604, 605, 606, 607, 608, 609, 610, 611, 612, 613, 614, 615, 616, 617, 618, 619, 620, 621, 622, 623, 624] (by decide +kernel) (by decide +kernel)
set_option maxRecDepth 20000 in
theorem gL_law_X8_init : GoodIn wsL_law (wsX8_init) := ggL_law_X8_init
set_option maxRecDepth 20000 in
theorem ggL_law_X7_vertex : GoodIn wsL_law wsX7_vertex := goodIn_r _ [106, 15, 107, 108, 2, 109, 110, 111, 112, 14, 113, 114, 33, 591, 592, 593, 594, 595, 625, 626, 627, 628, 629, 630, 631, 632, 633] (by decide +kernel) (by decide +kernel)
set_option maxRecDepth 20000 in
theorem gL_law_X7_vertex : GoodIn wsL_law (wsV RL 13 RX7 yX7_vertex wsX7_vertex) := goodIn_app (goodIn_of _ (by decide +kernel)) ggL_law_X7_vertex
set_option maxRecDepth 20000 in
theorem ggL_law_X8_vertex : GoodIn wsL_law wsX8_vertex := goodIn_r _ [118, 119, 83, 120, 121, 5, 122, 596, 597, 598, 599, 600, 601, 602, 603, 604, 605, 606, 607, 608, 609, 610, 611, 612, 613, 614, 615, 616, 617, 618, 619, 620, 621, 622, 623, 624] (by decide +kernel) (by decide +kernel)
set_option maxRecDepth 20000 in
theorem gL_law_X8_vertex : GoodIn wsL_law (wsV RL 17 RX8 yX8_vertex wsX8_vertex) := goodIn_app (goodIn_of _ (by decide +kernel)) ggL_law_X8_vertex
set_option maxRecDepth 20000 in
theorem ggL_law_X7_arc : GoodIn wsL_law wsX7_arc := goodIn_r _ [126, 15, 127, 128, 129, 14, 130, 114, 107, 108, 2, 109, 131, 132, 133, 134, 135, 34, 35, 36, 591, 592, 593, 594, 595, 625, 626, 627, 628, 629, 630, 631, 632, 633] (by decide +kernel) (by decide +kernel)
set_option maxRecDepth 20000 in
theorem gL_law_X7_arc : GoodIn wsL_law (wsV RL 18 RX7 yX7_arc wsX7_arc) := goodIn_app (goodIn_of _ (by decide +kernel)) ggL_law_X7_arc
set_option maxRecDepth 20000 in
theorem ggL_law_X8_arc : GoodIn wsL_law wsX8_arc := goodIn_r _ [139, 119, 140, 84, 85, 86, 120, 121, 5, 122, 596, 597, 598, 599, 600, 601, 602, 603, 604, 605, 606, 607, 608, 609, 610, 611, 612, 613, 614, 615, 616, 617, 618, 619, 620, 621, 622, 623, 624] (by decide +kernel) (by decide +kernel)
set_option maxRecDepth 20000 in
theorem gL_law_X8_arc : GoodIn wsL_law (wsV RL 22 RX8 yX8_arc wsX8_arc) := goodIn_app (goodIn_of _ (by decide +kernel)) ggL_law_X8_arc
set_option maxRecDepth 20000 in
theorem ggL_law_X7_first : GoodIn wsL_law wsX7_first := goodIn_r _ [144, 15, 127, 128, 129, 14, 130, 114, 107, 108, 2, 109, 145, 146, 147, 148, 149, 37, 38, 591, 592, 593, 594, 595, 625, 626, 627, 628, 629, 630, 631, 632, 633] (by decide +kernel) (by decide +kernel)
set_option maxRecDepth 20000 in
theorem gL_law_X7_first : GoodIn wsL_law (wsV RL 23 RX7 yX7_first wsX7_first) := goodIn_app (goodIn_of _ (by decide +kernel)) ggL_law_X7_first
set_option maxRecDepth 20000 in
theorem ggL_law_X8_first : GoodIn wsL_law wsX8_first := goodIn_r _ [153, 119, 154, 87, 88, 120, 121, 5, 122, 596, 597, 598, 599, 600, 601, 602, 603, 604, 605, 606, 607, 608, 609, 610, 611, 612, 613, 614, 615, 616, 617, 618, 619, 620, 621, 622, 623, 624] (by decide +kernel) (by decide +kernel)
set_option maxRecDepth 20000 in
theorem gL_law_X8_first : GoodIn wsL_law (wsV RL 27 RX8 yX8_first wsX8_first) := goodIn_app (goodIn_of _ (by decide +kernel)) ggL_law_X8_first
set_option maxRecDepth 20000 in
theorem ggL_law_X7_set : GoodIn wsL_law wsX7_set := goodIn_r _ [158, 159, 160, 19, 161, 162, 163, 2, 164, 591, 592, 593, 594, 595, 634, 635] (by decide +kernel) (by decide +kernel)
set_option maxRecDepth 20000 in
theorem gL_law_X7_set : GoodIn wsL_law (wsV RL 28 RX7 yX7_set wsX7_set) := goodIn_app (goodIn_of _ (by decide +kernel)) ggL_law_X7_set
set_option maxRecDepth 20000 in
theorem ggL_law_X8_set : GoodIn wsL_law wsX8_set := goodIn_r _ [168, 89, 120, 121, 5, 122, 169, 170, 171, 596, 597, 598, 599, 600, 601, 602, 603, 604, 605, 606, 607, 608, 609, 610, 611, 612, 613, 614, 615, 616, 617, 618, 619, 620, 621, 622, 623, 624] (by decide +kernel) (by decide +kernel)
set_option maxRecDepth 20000 in
theorem gL_law_X8_set : GoodIn wsL_law (wsV RL 31 RX8 yX8_set wsX8_set) := goodIn_app (goodIn_of _ (by decide +kernel)) ggL_law_X8_set
set_option maxRecDepth 20000 in
theorem ggL_law_X7_table : GoodIn wsL_law wsX7_table := goodIn_r _ [175, 19, 107, 108, 2, 109, 176, 177, 178, 18, 179, 43, 180, 181, 182, 591, 592, 593, 594, 595, 634, 635] (by decide +kernel) (by decide +kernel)
set_option maxRecDepth 20000 in
theorem gL_law_X7_table : GoodIn wsL_law (wsV RL 32 RX7 yX7_table wsX7_table) := goodIn_app (goodIn_of _ (by decide +kernel)) ggL_law_X7_table
set_option maxRecDepth 20000 in
theorem ggL_law_X8_table : GoodIn wsL_law wsX8_table := goodIn_r _ [186, 90, 120, 121, 5, 122, 596, 597, 598, 599, 600, 601, 602, 603, 604, 605, 606, 607, 608, 609, 610, 611, 612, 613, 614, 615, 616, 617, 618, 619, 620, 621, 622, 623, 624] (by decide +kernel) (by decide +kernel)
set_option maxRecDepth 20000 in
theorem gL_law_X8_table : GoodIn wsL_law (wsV RL 35 RX8 yX8_table wsX8_table) := goodIn_app (goodIn_of _ (by decide +kernel)) ggL_law_X8_table
set_option maxRecDepth 20000 in
theorem ggL_law_X7_value : GoodIn wsL_law wsX7_value := goodIn_r _ [190, 15, 191, 127, 128, 129, 14, 130, 114, 107, 108, 2, 109, 591, 592, 593, 594, 595, 625, 626, 627, 628, 629, 630, 631, 632, 633] (by decide +kernel) (by decide +kernel)
set_option maxRecDepth 20000 in
theorem gL_law_X7_value : GoodIn wsL_law (wsV RL 36 RX7 yX7_value wsX7_value) := goodIn_app (goodIn_of _ (by decide +kernel)) ggL_law_X7_value
set_option maxRecDepth 20000 in
theorem ggL_law_X8_value : GoodIn wsL_law wsX8_value := goodIn_r _ [195, 119, 83, 120, 121, 5, 122, 596, 597, 598, 599, 600, 601, 602, 603, 604, 605, 606, 607, 608, 609, 610, 611, 612, 613, 614, 615, 616, 617, 618, 619, 620, 621, 622, 623, 624] (by decide +kernel) (by decide +kernel)
set_option maxRecDepth 20000 in
theorem gL_law_X8_value : GoodIn wsL_law (wsV RL 39 RX8 yX8_value wsX8_value) := goodIn_app (goodIn_of _ (by decide +kernel)) ggL_law_X8_value
set_option maxRecDepth 20000 in
theorem ggL_law_X7_fold : GoodIn wsL_law wsX7_fold := goodIn_r _ [199, 19, 107, 108, 2, 109, 200, 201, 202, 18, 203, 42, 204, 205, 206, 207, 208, 209, 210, 43, 180, 181, 182, 591, 592, 593, 594, 595, 634, 635] (by decide +kernel) (by decide +kernel)
set_option maxRecDepth 20000 in
theorem gL_law_X7_fold : GoodIn wsL_law (wsV RL 40 RX7 yX7_fold wsX7_fold) := goodIn_app (goodIn_of _ (by decide +kernel)) ggL_law_X7_fold
set_option maxRecDepth 20000 in
theorem ggL_law_X8_fold : GoodIn wsL_law wsX8_fold := goodIn_r _ [214, 120, 121, 5, 122, 215, 216, 217, 218, 89, 90, 596, 597, 598, 599, 600, 601, 602, 603, 604, 605, 606, 607, 608, 609, 610, 611, 612, 613, 614, 615, 616, 617, 618, 619, 620, 621, 622, 623, 624] (by decide +kernel) (by decide +kernel)
set_option maxRecDepth 20000 in
theorem gL_law_X8_fold : GoodIn wsL_law (wsV RL 43 RX8 yX8_fold wsX8_fold) := goodIn_app (goodIn_of _ (by decide +kernel)) ggL_law_X8_fold
set_option maxRecDepth 20000 in
theorem ggL_law_X7_out : GoodIn wsL_law wsX7_out := goodIn_r _ [222, 19, 107, 108, 2, 109, 223, 224, 225, 18, 226, 42, 204, 205, 206, 207, 208, 209, 210, 591, 592, 593, 594, 595, 634, 635] (by decide +kernel) (by decide +kernel)
set_option maxRecDepth 20000 in
theorem gL_law_X7_out : GoodIn wsL_law (wsV RL 44 RX7 yX7_out wsX7_out) := goodIn_app (goodIn_of _ (by decide +kernel)) ggL_law_X7_out
set_option maxRecDepth 20000 in
theorem ggL_law_X8_out : GoodIn wsL_law wsX8_out := goodIn_r _ [230, 120, 121, 5, 122, 231, 232, 233, 234, 89, 596, 597, 598, 599, 600, 601, 602, 603, 604, 605, 606, 607, 608, 609, 610, 611, 612, 613, 614, 615, 616, 617, 618, 619, 620, 621, 622, 623, 624] (by decide +kernel) (by decide +kernel)
set_option maxRecDepth 20000 in
theorem gL_law_X8_out : GoodIn wsL_law (wsV RL 47 RX8 yX8_out wsX8_out) := goodIn_app (goodIn_of _ (by decide +kernel)) ggL_law_X8_out
set_option maxRecDepth 20000 in
theorem ggL_law_X7_law : GoodIn wsL_law wsX7_law := goodIn_r _ [238, 239, 19, 162, 163, 2, 164, 240, 241, 242, 18, 243, 244, 201, 202, 203, 42, 204, 205, 206, 207, 208, 209, 210, 43, 180, 181, 182, 591, 592, 593, 594, 595, 634, 635] (by decide +kernel) (by decide +kernel)
set_option maxRecDepth 20000 in
theorem gL_law_X7_law : GoodIn wsL_law (wsV RL 48 RX7 yX7_law wsX7_law) := goodIn_app (goodIn_of _ (by decide +kernel)) ggL_law_X7_law
set_option maxRecDepth 20000 in
theorem ggL_law_X8_law : GoodIn wsL_law wsX8_law := goodIn_r _ [248, 120, 121, 5, 122, 249, 250, 251, 252, 215, 216, 217, 218, 89, 90, 596, 597, 598, 599, 600, 601, 602, 603, 604, 605, 606, 607, 608, 609, 610, 611, 612, 613, 614, 615, 616, 617, 618, 619, 620, 621, 622, 623, 624] (by decide +kernel) (by decide +kernel)
set_option maxRecDepth 20000 in
theorem gL_law_X8_law : GoodIn wsL_law (wsV RL 51 RX8 yX8_law wsX8_law) := goodIn_app (goodIn_of _ (by decide +kernel)) ggL_law_X8_law
set_option maxRecDepth 20000 in
theorem ggL_law_X7_about : GoodIn wsL_law wsX7_about := goodIn_r _ [256, 15, 257, 258, 259, 19, 161, 162, 163, 2, 164, 591, 592, 593, 594, 595, 625, 626, 627, 628, 629, 630, 631, 632, 633, 634, 635] (by decide +kernel) (by decide +kernel)
set_option maxRecDepth 20000 in
theorem gL_law_X7_about : GoodIn wsL_law (wsV RL 52 RX7 yX7_about wsX7_about) := goodIn_app (goodIn_of _ (by decide +kernel)) ggL_law_X7_about
set_option maxRecDepth 20000 in
theorem ggL_law_X8_about : GoodIn wsL_law wsX8_about := goodIn_r _ [263, 119, 140, 154, 89, 120, 121, 5, 122, 596, 597, 598, 599, 600, 601, 602, 603, 604, 605, 606, 607, 608, 609, 610, 611, 612, 613, 614, 615, 616, 617, 618, 619, 620, 621, 622, 623, 624] (by decide +kernel) (by decide +kernel)
set_option maxRecDepth 20000 in
theorem gL_law_X8_about : GoodIn wsL_law (wsV RL 55 RX8 yX8_about wsX8_about) := goodIn_app (goodIn_of _ (by decide +kernel)) ggL_law_X8_about
set_option maxRecDepth 20000 in
theorem ggL_law_X7_look : GoodIn wsL_law wsX7_look := goodIn_r _ [267, 28, 15, 23, 268, 162, 163, 2, 164, 269, 270, 271, 14, 272, 135, 273, 274, 275, 27, 276, 66, 277, 278, 279, 58, 64, 280, 63, 65, 281, 282, 283, 284, 285, 286, 57, 287, 288, 74, 289, 290, 291, 292, 293, 294, 295, 22, 296, 297, 298, 299, 300, 301, 302, 303, 304, 305, 61, 306, 307, 308, 309, 310, 78, 311, 312, 313, 314, 315, 316, 317, 318, 319, 320, 321, 322, 323, 324, 325, 326, 327, 328, 329, 330, 331, 71, 332, 72, 333, 73, 334, 335, 336, 337, 338, 339, 340, 341, 342, 343, 344, 345, 346, 347, 348, 349, 350, 351, 352, 353, 354, 355, 356, 357, 358, 359, 360, 361, 362, 363, 364, 365, 366, 367, 49, 50, 368, 209, 206, 210, 369, 370, 371, 372, 47, 48, 373, 374, 375, 376, 62, 377, 378, 379, 380, 381, 382, 383, 384, 385, 386, 387, 388, 389, 390, 391, 392, 393, 394, 395, 396, 397, 398, 399, 400, 401, 402, 403, 404, 405, 406, 407, 408, 409, 410, 411, 412, 413, 414, 415, 416, 417, 418, 419, 420, 421, 422, 423, 424, 425, 426, 427, 428, 429, 201, 202, 18, 203, 42, 204, 205, 207, 208, 43, 180, 181, 182, 430, 431, 432, 433, 434, 435, 436, 437, 438, 439, 440, 441, 442, 443, 224, 225, 226, 444, 445, 446, 447, 448, 449, 450, 451, 452, 453, 454, 455, 456, 457, 591, 592, 593, 594, 595, 636, 637, 638, 639, 640, 641, 642, 643, 644, 645, 625, 626, 627, 628, 629, 630, 631, 632, 633, 646, 647, 648, 649, 650, 651, 652, 653, 654, 634, 635, 655, 656, 657, 658, 659, 660, 661, 662] (by decide +kernel) (by decide +kernel)
set_option maxRecDepth 20000 in
theorem gL_law_X7_look : GoodIn wsL_law (wsV RL 56 RX7 yX7_look wsX7_look) := goodIn_app (goodIn_of _ (by decide +kernel)) ggL_law_X7_look
set_option maxRecDepth 20000 in
theorem ggL_law_X8_look : GoodIn wsL_law wsX8_look := goodIn_r _ [461, 462, 98, 463, 102, 119, 464, 465, 466, 467, 468, 96, 97, 93, 120, 121, 5, 122, 469, 470, 471, 472, 473, 94, 95, 83, 89, 474, 475, 476, 477, 478, 479, 480, 481, 482, 483, 484, 485, 486, 487, 488, 154, 140, 489, 490, 491, 492, 493, 494, 495, 496, 87, 88, 85, 99, 100, 101, 497, 498, 499, 500, 501, 502, 503, 504, 505, 506, 507, 508, 509, 510, 511, 84, 86, 215, 216, 217, 218, 90, 231, 232, 233, 234, 512, 513, 514, 515, 516, 517, 518, 519, 520, 521, 522, 523, 524, 525, 526, 527, 596, 597, 598, 599, 600, 601, 602, 603, 604, 605, 606, 607, 608, 609, 610, 611, 612, 613, 614, 615, 616, 617, 618, 619, 620, 621, 622, 623, 624] (by decide +kernel) (by decide +kernel)
set_option maxRecDepth 20000 in
theorem gL_law_X8_look : GoodIn wsL_law (wsV RL 59 RX8 yX8_look wsX8_look) := goodIn_app (goodIn_of _ (by decide +kernel)) ggL_law_X8_look
set_option maxRecDepth 20000 in
theorem ggL_law_X7_looked : GoodIn wsL_law wsX7_looked := goodIn_r _ [531, 23, 268, 532, 533, 534, 535, 162, 163, 2, 164, 591, 592, 593, 594, 595, 636, 637, 638, 639, 640, 641, 642, 643, 644, 645] (by decide +kernel) (by decide +kernel)
set_option maxRecDepth 20000 in
theorem gL_law_X7_looked : GoodIn wsL_law (wsV RL 60 RX7 yX7_looked wsX7_looked) := goodIn_app (goodIn_of _ (by decide +kernel)) ggL_law_X7_looked
set_option maxRecDepth 20000 in
theorem ggL_law_X8_looked : GoodIn wsL_law wsX8_looked := goodIn_r _ [539, 102, 463, 467, 465, 466, 120, 121, 5, 122, 596, 597, 598, 599, 600, 601, 602, 603, 604, 605, 606, 607, 608, 609, 610, 611, 612, 613, 614, 615, 616, 617, 618, 619, 620, 621, 622, 623, 624] (by decide +kernel) (by decide +kernel)
set_option maxRecDepth 20000 in
theorem gL_law_X8_looked : GoodIn wsL_law (wsV RL 63 RX8 yX8_looked wsX8_looked) := goodIn_app (goodIn_of _ (by decide +kernel)) ggL_law_X8_looked
set_option maxRecDepth 20000 in
theorem ggL_law_X7_end : GoodIn wsL_law wsX7_end := goodIn_r _ [543, 23, 544, 545, 546, 547, 548, 22, 549, 299, 162, 163, 2, 164, 591, 592, 593, 594, 595, 636, 637, 638, 639, 640, 641, 642, 643, 644, 645] (by decide +kernel) (by decide +kernel)
set_option maxRecDepth 20000 in
theorem gL_law_X7_end : GoodIn wsL_law (wsV RL 64 RX7 yX7_end wsX7_end) := goodIn_app (goodIn_of _ (by decide +kernel)) ggL_law_X7_end
set_option maxRecDepth 20000 in
theorem ggL_law_X8_end : GoodIn wsL_law wsX8_end := goodIn_r _ [553, 102, 467, 464, 97, 120, 121, 5, 122, 596, 597, 598, 599, 600, 601, 602, 603, 604, 605, 606, 607, 608, 609, 610, 611, 612, 613, 614, 615, 616, 617, 618, 619, 620, 621, 622, 623, 624] (by decide +kernel) (by decide +kernel)
set_option maxRecDepth 20000 in
theorem gL_law_X8_end : GoodIn wsL_law (wsV RL 67 RX8 yX8_end wsX8_end) := goodIn_app (goodIn_of _ (by decide +kernel)) ggL_law_X8_end
set_option maxRecDepth 20000 in
theorem ggL_law_X7_way : GoodIn wsL_law wsX7_way := goodIn_r _ [557, 23, 546, 547, 548, 22, 549, 299, 558, 559, 560, 561, 48, 49, 162, 163, 2, 164, 562, 563, 564, 565, 50, 566, 567, 451, 568, 569, 570, 571, 572, 573, 574, 591, 592, 593, 594, 595, 636, 637, 638, 639, 640, 641, 642, 643, 644, 645] (by decide +kernel) (by decide +kernel)
set_option maxRecDepth 20000 in
theorem gL_law_X7_way : GoodIn wsL_law (wsV RL 68 RX7 yX7_way wsX7_way) := goodIn_app (goodIn_of _ (by decide +kernel)) ggL_law_X7_way
set_option maxRecDepth 20000 in
theorem ggL_law_X8_way : GoodIn wsL_law wsX8_way := goodIn_r _ [578, 102, 467, 96, 98, 99, 100, 101, 120, 121, 5, 122, 596, 597, 598, 599, 600, 601, 602, 603, 604, 605, 606, 607, 608, 609, 610, 611, 612, 613, 614, 615, 616, 617, 618, 619, 620, 621, 622, 623, 624] (by decide +kernel) (by decide +kernel)
set_option maxRecDepth 20000 in
theorem gL_law_X8_way : GoodIn wsL_law (wsV RL 71 RX8 yX8_way wsX8_way) := goodIn_app (goodIn_of _ (by decide +kernel)) ggL_law_X8_way
set_option maxRecDepth 20000 in
theorem ggL_law_X7_shrink : GoodIn wsL_law wsX7_shrink := goodIn_r _ [582, 15, 28, 24, 533, 258, 162, 163, 2, 164, 269, 270, 271, 14, 272, 135, 273, 274, 275, 27, 276, 66, 277, 278, 279, 58, 64, 280, 63, 65, 281, 282, 283, 284, 285, 286, 57, 287, 288, 74, 289, 290, 291, 292, 293, 294, 295, 22, 296, 297, 298, 299, 300, 301, 302, 303, 304, 305, 61, 306, 307, 308, 309, 310, 78, 311, 312, 313, 314, 315, 316, 317, 318, 319, 320, 321, 322, 323, 324, 325, 326, 327, 328, 329, 330, 331, 71, 332, 72, 333, 73, 334, 335, 336, 337, 338, 339, 340, 341, 342, 343, 344, 345, 346, 347, 348, 349, 350, 351, 352, 353, 354, 355, 356, 357, 358, 359, 360, 361, 362, 363, 364, 365, 366, 367, 49, 50, 368, 209, 206, 210, 369, 370, 371, 372, 47, 48, 373, 374, 375, 376, 62, 377, 378, 379, 380, 381, 382, 383, 384, 385, 386, 387, 388, 389, 390, 391, 392, 393, 394, 395, 396, 397, 398, 399, 400, 401, 402, 403, 404, 405, 406, 407, 408, 409, 410, 411, 412, 413, 414, 415, 416, 417, 418, 419, 420, 421, 422, 423, 424, 425, 426, 427, 428, 429, 201, 202, 18, 203, 42, 204, 205, 207, 208, 43, 180, 181, 182, 430, 431, 432, 433, 434, 435, 436, 437, 438, 439, 440, 441, 442, 443, 224, 225, 226, 444, 445, 446, 447, 448, 449, 450, 451, 452, 453, 454, 455, 456, 457, 591, 592, 593, 594, 595, 636, 637, 638, 639, 640, 641, 642, 643, 644, 645, 625, 626, 627, 628, 629, 630, 631, 632, 633, 646, 647, 648, 649, 650, 651, 652, 653, 654, 634, 635, 655, 656, 657, 658, 659, 660, 661, 662] (by decide +kernel) (by decide +kernel)
set_option maxRecDepth 20000 in
theorem gL_law_X7_shrink : GoodIn wsL_law (wsV RL 72 RX7 yX7_shrink wsX7_shrink) := goodIn_app (goodIn_of _ (by decide +kernel)) ggL_law_X7_shrink
set_option maxRecDepth 20000 in
theorem ggL_law_X8_shrink : GoodIn wsL_law wsX8_shrink := goodIn_r _ [586, 462, 140, 120, 121, 5, 122, 469, 470, 471, 472, 468, 473, 94, 95, 119, 83, 89, 474, 475, 476, 477, 93, 478, 479, 480, 481, 482, 483, 484, 485, 486, 487, 488, 154, 489, 490, 491, 492, 493, 494, 495, 496, 87, 88, 85, 98, 99, 100, 101, 497, 498, 499, 500, 501, 502, 503, 504, 505, 506, 507, 508, 509, 510, 511, 84, 86, 215, 216, 217, 218, 90, 231, 232, 233, 234, 512, 513, 514, 515, 587, 588, 589, 590, 520, 521, 522, 523, 516, 517, 518, 519, 524, 525, 526, 527, 596, 597, 598, 599, 600, 601, 602, 603, 604, 605, 606, 607, 608, 609, 610, 611, 612, 613, 614, 615, 616, 617, 618, 619, 620, 621, 622, 623, 624] (by decide +kernel) (by decide +kernel)
set_option maxRecDepth 20000 in
theorem gL_law_X8_shrink : GoodIn wsL_law (wsV RL 75 RX8 yX8_shrink wsX8_shrink) := goodIn_app (goodIn_of _ (by decide +kernel)) ggL_law_X8_shrink
theorem dL_law_0 : decode cL_law 0 = .ok (.new 7, 3) := by decide +kernel
end
section
theorem dL_law_3 : decode cL_law 3 = .ok (.dup, 1) := by decide +kernel
theorem dL_law_4 : decode cL_law 4 = .ok (.invokespecial 9, 3) := by decide +kernel
theorem dL_law_7 : decode cL_law 7 = .ok (.astore_n 1, 1) := by decide +kernel
theorem dL_law_8 : decode cL_law 8 = .ok (.new 10, 3) := by decide +kernel
theorem dL_law_11 : decode cL_law 11 = .ok (.dup, 1) := by decide +kernel
theorem dL_law_12 : decode cL_law 12 = .ok (.invokespecial 12, 3) := by decide +kernel
theorem dL_law_15 : decode cL_law 15 = .ok (.astore_n 2, 1) := by decide +kernel
theorem dL_law_16 : decode cL_law 16 = .ok (.iconst 0, 1) := by decide +kernel
theorem dL_law_17 : decode cL_law 17 = .ok (.istore_n 3, 1) := by decide +kernel
theorem dL_law_18 : decode cL_law 18 = .ok (.iload_n 3, 1) := by decide +kernel
theorem dL_law_19 : decode cL_law 19 = .ok (.aload_n 0, 1) := by decide +kernel
theorem dL_law_20 : decode cL_law 20 = .ok (.arraylength, 1) := by decide +kernel
theorem dL_law_21 : decode cL_law 21 = .ok (.iconst 4, 1) := by decide +kernel
theorem dL_law_22 : decode cL_law 22 = .ok (.isub, 1) := by decide +kernel
theorem dL_law_23 : decode cL_law 23 = .ok (.if_icmp .gt 556, 3) := by decide +kernel
theorem dL_law_26 : decode cL_law 26 = .ok (.aload_n 0, 1) := by decide +kernel
theorem dL_law_27 : decode cL_law 27 = .ok (.iload_n 3, 1) := by decide +kernel
theorem dL_law_28 : decode cL_law 28 = .ok (.iaload, 1) := by decide +kernel
theorem dL_law_29 : decode cL_law 29 = .ok (.bipush 15, 2) := by decide +kernel
theorem dL_law_31 : decode cL_law 31 = .ok (.iand, 1) := by decide +kernel
theorem dL_law_32 : decode cL_law 32 = .ok (.tableswitch 541 0 14 #[76, 99, 142, 175, 208, 251, 284, 317, 350, 373, 396, 419, 442, 475, 518], 76) := by decide +kernel
theorem dL_law_108 : decode cL_law 108 = .ok (.aload_n 1, 1) := by decide +kernel
theorem dL_law_109 : decode cL_law 109 = .ok (.aload_n 0, 1) := by decide +kernel
theorem dL_law_110 : decode cL_law 110 = .ok (.iload_n 3, 1) := by decide +kernel
theorem dL_law_111 : decode cL_law 111 = .ok (.iconst 1, 1) := by decide +kernel
theorem dL_law_112 : decode cL_law 112 = .ok (.iadd, 1) := by decide +kernel
theorem dL_law_113 : decode cL_law 113 = .ok (.iaload, 1) := by decide +kernel
theorem dL_law_114 : decode cL_law 114 = .ok (.invokevirtual 13, 3) := by decide +kernel
theorem dL_law_117 : decode cL_law 117 = .ok (.aload_n 2, 1) := by decide +kernel
theorem dL_law_118 : decode cL_law 118 = .ok (.aload_n 0, 1) := by decide +kernel
theorem dL_law_119 : decode cL_law 119 = .ok (.iload_n 3, 1) := by decide +kernel
theorem dL_law_120 : decode cL_law 120 = .ok (.iconst 1, 1) := by decide +kernel
theorem dL_law_121 : decode cL_law 121 = .ok (.iadd, 1) := by decide +kernel
theorem dL_law_122 : decode cL_law 122 = .ok (.iaload, 1) := by decide +kernel
theorem dL_law_123 : decode cL_law 123 = .ok (.invokevirtual 17, 3) := by decide +kernel
theorem dL_law_126 : decode cL_law 126 = .ok (.if_icmp .eq 447, 3) := by decide +kernel
theorem dL_law_129 : decode cL_law 129 = .ok (.iconst 0, 1) := by decide +kernel
theorem dL_law_130 : decode cL_law 130 = .ok (.ireturn, 1) := by decide +kernel
theorem dL_law_131 : decode cL_law 131 = .ok (.aload_n 1, 1) := by decide +kernel
theorem dL_law_132 : decode cL_law 132 = .ok (.aload_n 0, 1) := by decide +kernel
theorem dL_law_133 : decode cL_law 133 = .ok (.iload_n 3, 1) := by decide +kernel
theorem dL_law_134 : decode cL_law 134 = .ok (.iconst 1, 1) := by decide +kernel
theorem dL_law_135 : decode cL_law 135 = .ok (.iadd, 1) := by decide +kernel
theorem dL_law_136 : decode cL_law 136 = .ok (.iaload, 1) := by decide +kernel
theorem dL_law_137 : decode cL_law 137 = .ok (.aload_n 0, 1) := by decide +kernel
theorem dL_law_138 : decode cL_law 138 = .ok (.iload_n 3, 1) := by decide +kernel
theorem dL_law_139 : decode cL_law 139 = .ok (.iconst 2, 1) := by decide +kernel
theorem dL_law_140 : decode cL_law 140 = .ok (.iadd, 1) := by decide +kernel
theorem dL_law_141 : decode cL_law 141 = .ok (.iaload, 1) := by decide +kernel
theorem dL_law_142 : decode cL_law 142 = .ok (.aload_n 0, 1) := by decide +kernel
theorem dL_law_143 : decode cL_law 143 = .ok (.iload_n 3, 1) := by decide +kernel
theorem dL_law_144 : decode cL_law 144 = .ok (.iconst 3, 1) := by decide +kernel
theorem dL_law_145 : decode cL_law 145 = .ok (.iadd, 1) := by decide +kernel
theorem dL_law_146 : decode cL_law 146 = .ok (.iaload, 1) := by decide +kernel
theorem dL_law_147 : decode cL_law 147 = .ok (.invokevirtual 18, 3) := by decide +kernel
theorem dL_law_150 : decode cL_law 150 = .ok (.aload_n 2, 1) := by decide +kernel
theorem dL_law_151 : decode cL_law 151 = .ok (.aload_n 0, 1) := by decide +kernel
theorem dL_law_152 : decode cL_law 152 = .ok (.iload_n 3, 1) := by decide +kernel
theorem dL_law_153 : decode cL_law 153 = .ok (.iconst 1, 1) := by decide +kernel
theorem dL_law_154 : decode cL_law 154 = .ok (.iadd, 1) := by decide +kernel
theorem dL_law_155 : decode cL_law 155 = .ok (.iaload, 1) := by decide +kernel
theorem dL_law_156 : decode cL_law 156 = .ok (.aload_n 0, 1) := by decide +kernel
theorem dL_law_157 : decode cL_law 157 = .ok (.iload_n 3, 1) := by decide +kernel
theorem dL_law_158 : decode cL_law 158 = .ok (.iconst 2, 1) := by decide +kernel
theorem dL_law_159 : decode cL_law 159 = .ok (.iadd, 1) := by decide +kernel
theorem dL_law_160 : decode cL_law 160 = .ok (.iaload, 1) := by decide +kernel
theorem dL_law_161 : decode cL_law 161 = .ok (.aload_n 0, 1) := by decide +kernel
theorem dL_law_162 : decode cL_law 162 = .ok (.iload_n 3, 1) := by decide +kernel
theorem dL_law_163 : decode cL_law 163 = .ok (.iconst 3, 1) := by decide +kernel
theorem dL_law_164 : decode cL_law 164 = .ok (.iadd, 1) := by decide +kernel
theorem dL_law_165 : decode cL_law 165 = .ok (.iaload, 1) := by decide +kernel
theorem dL_law_166 : decode cL_law 166 = .ok (.invokevirtual 22, 3) := by decide +kernel
theorem dL_law_169 : decode cL_law 169 = .ok (.if_icmp .eq 404, 3) := by decide +kernel
theorem dL_law_172 : decode cL_law 172 = .ok (.iconst 0, 1) := by decide +kernel
theorem dL_law_173 : decode cL_law 173 = .ok (.ireturn, 1) := by decide +kernel
theorem dL_law_174 : decode cL_law 174 = .ok (.aload_n 1, 1) := by decide +kernel
theorem dL_law_175 : decode cL_law 175 = .ok (.aload_n 0, 1) := by decide +kernel
theorem dL_law_176 : decode cL_law 176 = .ok (.iload_n 3, 1) := by decide +kernel
theorem dL_law_177 : decode cL_law 177 = .ok (.iconst 1, 1) := by decide +kernel
theorem dL_law_178 : decode cL_law 178 = .ok (.iadd, 1) := by decide +kernel
theorem dL_law_179 : decode cL_law 179 = .ok (.iaload, 1) := by decide +kernel
theorem dL_law_180 : decode cL_law 180 = .ok (.aload_n 0, 1) := by decide +kernel
theorem dL_law_181 : decode cL_law 181 = .ok (.iload_n 3, 1) := by decide +kernel
theorem dL_law_182 : decode cL_law 182 = .ok (.iconst 2, 1) := by decide +kernel
theorem dL_law_183 : decode cL_law 183 = .ok (.iadd, 1) := by decide +kernel
theorem dL_law_184 : decode cL_law 184 = .ok (.iaload, 1) := by decide +kernel
theorem dL_law_185 : decode cL_law 185 = .ok (.invokevirtual 23, 3) := by decide +kernel
theorem dL_law_188 : decode cL_law 188 = .ok (.aload_n 2, 1) := by decide +kernel
theorem dL_law_189 : decode cL_law 189 = .ok (.aload_n 0, 1) := by decide +kernel
theorem dL_law_190 : decode cL_law 190 = .ok (.iload_n 3, 1) := by decide +kernel
theorem dL_law_191 : decode cL_law 191 = .ok (.iconst 1, 1) := by decide +kernel
theorem dL_law_192 : decode cL_law 192 = .ok (.iadd, 1) := by decide +kernel
theorem dL_law_193 : decode cL_law 193 = .ok (.iaload, 1) := by decide +kernel
theorem dL_law_194 : decode cL_law 194 = .ok (.aload_n 0, 1) := by decide +kernel
theorem dL_law_195 : decode cL_law 195 = .ok (.iload_n 3, 1) := by decide +kernel
theorem dL_law_196 : decode cL_law 196 = .ok (.iconst 2, 1) := by decide +kernel
theorem dL_law_197 : decode cL_law 197 = .ok (.iadd, 1) := by decide +kernel
theorem dL_law_198 : decode cL_law 198 = .ok (.iaload, 1) := by decide +kernel
theorem dL_law_199 : decode cL_law 199 = .ok (.invokevirtual 27, 3) := by decide +kernel
theorem dL_law_202 : decode cL_law 202 = .ok (.if_icmp .eq 371, 3) := by decide +kernel
theorem dL_law_205 : decode cL_law 205 = .ok (.iconst 0, 1) := by decide +kernel
theorem dL_law_206 : decode cL_law 206 = .ok (.ireturn, 1) := by decide +kernel
theorem dL_law_207 : decode cL_law 207 = .ok (.aload_n 1, 1) := by decide +kernel
theorem dL_law_208 : decode cL_law 208 = .ok (.aload_n 0, 1) := by decide +kernel
theorem dL_law_209 : decode cL_law 209 = .ok (.iload_n 3, 1) := by decide +kernel
theorem dL_law_210 : decode cL_law 210 = .ok (.iconst 1, 1) := by decide +kernel
theorem dL_law_211 : decode cL_law 211 = .ok (.iadd, 1) := by decide +kernel
theorem dL_law_212 : decode cL_law 212 = .ok (.iaload, 1) := by decide +kernel
theorem dL_law_213 : decode cL_law 213 = .ok (.aload_n 0, 1) := by decide +kernel
theorem dL_law_214 : decode cL_law 214 = .ok (.iload_n 3, 1) := by decide +kernel
theorem dL_law_215 : decode cL_law 215 = .ok (.iconst 2, 1) := by decide +kernel
theorem dL_law_216 : decode cL_law 216 = .ok (.iadd, 1) := by decide +kernel
theorem dL_law_217 : decode cL_law 217 = .ok (.iaload, 1) := by decide +kernel
theorem dL_law_218 : decode cL_law 218 = .ok (.invokevirtual 28, 3) := by decide +kernel
theorem dL_law_221 : decode cL_law 221 = .ok (.aload_n 2, 1) := by decide +kernel
theorem dL_law_222 : decode cL_law 222 = .ok (.aload_n 0, 1) := by decide +kernel
theorem dL_law_223 : decode cL_law 223 = .ok (.iload_n 3, 1) := by decide +kernel
theorem dL_law_224 : decode cL_law 224 = .ok (.iconst 1, 1) := by decide +kernel
theorem dL_law_225 : decode cL_law 225 = .ok (.iadd, 1) := by decide +kernel
theorem dL_law_226 : decode cL_law 226 = .ok (.iaload, 1) := by decide +kernel
theorem dL_law_227 : decode cL_law 227 = .ok (.aload_n 0, 1) := by decide +kernel
theorem dL_law_228 : decode cL_law 228 = .ok (.iload_n 3, 1) := by decide +kernel
theorem dL_law_229 : decode cL_law 229 = .ok (.iconst 2, 1) := by decide +kernel
theorem dL_law_230 : decode cL_law 230 = .ok (.iadd, 1) := by decide +kernel
theorem dL_law_231 : decode cL_law 231 = .ok (.iaload, 1) := by decide +kernel
theorem dL_law_232 : decode cL_law 232 = .ok (.invokevirtual 31, 3) := by decide +kernel
theorem dL_law_235 : decode cL_law 235 = .ok (.if_icmp .eq 338, 3) := by decide +kernel
theorem dL_law_238 : decode cL_law 238 = .ok (.iconst 0, 1) := by decide +kernel
theorem dL_law_239 : decode cL_law 239 = .ok (.ireturn, 1) := by decide +kernel
theorem dL_law_240 : decode cL_law 240 = .ok (.aload_n 1, 1) := by decide +kernel
theorem dL_law_241 : decode cL_law 241 = .ok (.aload_n 0, 1) := by decide +kernel
theorem dL_law_242 : decode cL_law 242 = .ok (.iload_n 3, 1) := by decide +kernel
theorem dL_law_243 : decode cL_law 243 = .ok (.iconst 1, 1) := by decide +kernel
theorem dL_law_244 : decode cL_law 244 = .ok (.iadd, 1) := by decide +kernel
theorem dL_law_245 : decode cL_law 245 = .ok (.iaload, 1) := by decide +kernel
theorem dL_law_246 : decode cL_law 246 = .ok (.aload_n 0, 1) := by decide +kernel
theorem dL_law_247 : decode cL_law 247 = .ok (.iload_n 3, 1) := by decide +kernel
theorem dL_law_248 : decode cL_law 248 = .ok (.iconst 2, 1) := by decide +kernel
theorem dL_law_249 : decode cL_law 249 = .ok (.iadd, 1) := by decide +kernel
theorem dL_law_250 : decode cL_law 250 = .ok (.iaload, 1) := by decide +kernel
theorem dL_law_251 : decode cL_law 251 = .ok (.aload_n 0, 1) := by decide +kernel
theorem dL_law_252 : decode cL_law 252 = .ok (.iload_n 3, 1) := by decide +kernel
theorem dL_law_253 : decode cL_law 253 = .ok (.iconst 3, 1) := by decide +kernel
theorem dL_law_254 : decode cL_law 254 = .ok (.iadd, 1) := by decide +kernel
theorem dL_law_255 : decode cL_law 255 = .ok (.iaload, 1) := by decide +kernel
theorem dL_law_256 : decode cL_law 256 = .ok (.invokevirtual 32, 3) := by decide +kernel
theorem dL_law_259 : decode cL_law 259 = .ok (.aload_n 2, 1) := by decide +kernel
theorem dL_law_260 : decode cL_law 260 = .ok (.aload_n 0, 1) := by decide +kernel
theorem dL_law_261 : decode cL_law 261 = .ok (.iload_n 3, 1) := by decide +kernel
theorem dL_law_262 : decode cL_law 262 = .ok (.iconst 1, 1) := by decide +kernel
theorem dL_law_263 : decode cL_law 263 = .ok (.iadd, 1) := by decide +kernel
theorem dL_law_264 : decode cL_law 264 = .ok (.iaload, 1) := by decide +kernel
theorem dL_law_265 : decode cL_law 265 = .ok (.aload_n 0, 1) := by decide +kernel
theorem dL_law_266 : decode cL_law 266 = .ok (.iload_n 3, 1) := by decide +kernel
theorem dL_law_267 : decode cL_law 267 = .ok (.iconst 2, 1) := by decide +kernel
theorem dL_law_268 : decode cL_law 268 = .ok (.iadd, 1) := by decide +kernel
theorem dL_law_269 : decode cL_law 269 = .ok (.iaload, 1) := by decide +kernel
theorem dL_law_270 : decode cL_law 270 = .ok (.aload_n 0, 1) := by decide +kernel
theorem dL_law_271 : decode cL_law 271 = .ok (.iload_n 3, 1) := by decide +kernel
theorem dL_law_272 : decode cL_law 272 = .ok (.iconst 3, 1) := by decide +kernel
theorem dL_law_273 : decode cL_law 273 = .ok (.iadd, 1) := by decide +kernel
theorem dL_law_274 : decode cL_law 274 = .ok (.iaload, 1) := by decide +kernel
theorem dL_law_275 : decode cL_law 275 = .ok (.invokevirtual 35, 3) := by decide +kernel
theorem dL_law_278 : decode cL_law 278 = .ok (.if_icmp .eq 295, 3) := by decide +kernel
theorem dL_law_281 : decode cL_law 281 = .ok (.iconst 0, 1) := by decide +kernel
theorem dL_law_282 : decode cL_law 282 = .ok (.ireturn, 1) := by decide +kernel
theorem dL_law_283 : decode cL_law 283 = .ok (.aload_n 1, 1) := by decide +kernel
theorem dL_law_284 : decode cL_law 284 = .ok (.aload_n 0, 1) := by decide +kernel
theorem dL_law_285 : decode cL_law 285 = .ok (.iload_n 3, 1) := by decide +kernel
theorem dL_law_286 : decode cL_law 286 = .ok (.iconst 1, 1) := by decide +kernel
theorem dL_law_287 : decode cL_law 287 = .ok (.iadd, 1) := by decide +kernel
theorem dL_law_288 : decode cL_law 288 = .ok (.iaload, 1) := by decide +kernel
theorem dL_law_289 : decode cL_law 289 = .ok (.aload_n 0, 1) := by decide +kernel
theorem dL_law_290 : decode cL_law 290 = .ok (.iload_n 3, 1) := by decide +kernel
theorem dL_law_291 : decode cL_law 291 = .ok (.iconst 2, 1) := by decide +kernel
theorem dL_law_292 : decode cL_law 292 = .ok (.iadd, 1) := by decide +kernel
theorem dL_law_293 : decode cL_law 293 = .ok (.iaload, 1) := by decide +kernel
theorem dL_law_294 : decode cL_law 294 = .ok (.invokevirtual 36, 3) := by decide +kernel
theorem dL_law_297 : decode cL_law 297 = .ok (.aload_n 2, 1) := by decide +kernel
theorem dL_law_298 : decode cL_law 298 = .ok (.aload_n 0, 1) := by decide +kernel
theorem dL_law_299 : decode cL_law 299 = .ok (.iload_n 3, 1) := by decide +kernel
theorem dL_law_300 : decode cL_law 300 = .ok (.iconst 1, 1) := by decide +kernel
theorem dL_law_301 : decode cL_law 301 = .ok (.iadd, 1) := by decide +kernel
theorem dL_law_302 : decode cL_law 302 = .ok (.iaload, 1) := by decide +kernel
theorem dL_law_303 : decode cL_law 303 = .ok (.aload_n 0, 1) := by decide +kernel
theorem dL_law_304 : decode cL_law 304 = .ok (.iload_n 3, 1) := by decide +kernel
theorem dL_law_305 : decode cL_law 305 = .ok (.iconst 2, 1) := by decide +kernel
theorem dL_law_306 : decode cL_law 306 = .ok (.iadd, 1) := by decide +kernel
theorem dL_law_307 : decode cL_law 307 = .ok (.iaload, 1) := by decide +kernel
theorem dL_law_308 : decode cL_law 308 = .ok (.invokevirtual 39, 3) := by decide +kernel
theorem dL_law_311 : decode cL_law 311 = .ok (.if_icmp .eq 262, 3) := by decide +kernel
theorem dL_law_314 : decode cL_law 314 = .ok (.iconst 0, 1) := by decide +kernel
theorem dL_law_315 : decode cL_law 315 = .ok (.ireturn, 1) := by decide +kernel
theorem dL_law_316 : decode cL_law 316 = .ok (.aload_n 1, 1) := by decide +kernel
theorem dL_law_317 : decode cL_law 317 = .ok (.aload_n 0, 1) := by decide +kernel
theorem dL_law_318 : decode cL_law 318 = .ok (.iload_n 3, 1) := by decide +kernel
theorem dL_law_319 : decode cL_law 319 = .ok (.iconst 1, 1) := by decide +kernel
theorem dL_law_320 : decode cL_law 320 = .ok (.iadd, 1) := by decide +kernel
theorem dL_law_321 : decode cL_law 321 = .ok (.iaload, 1) := by decide +kernel
theorem dL_law_322 : decode cL_law 322 = .ok (.aload_n 0, 1) := by decide +kernel
theorem dL_law_323 : decode cL_law 323 = .ok (.iload_n 3, 1) := by decide +kernel
theorem dL_law_324 : decode cL_law 324 = .ok (.iconst 2, 1) := by decide +kernel
theorem dL_law_325 : decode cL_law 325 = .ok (.iadd, 1) := by decide +kernel
theorem dL_law_326 : decode cL_law 326 = .ok (.iaload, 1) := by decide +kernel
theorem dL_law_327 : decode cL_law 327 = .ok (.invokevirtual 40, 3) := by decide +kernel
theorem dL_law_330 : decode cL_law 330 = .ok (.aload_n 2, 1) := by decide +kernel
theorem dL_law_331 : decode cL_law 331 = .ok (.aload_n 0, 1) := by decide +kernel
theorem dL_law_332 : decode cL_law 332 = .ok (.iload_n 3, 1) := by decide +kernel
theorem dL_law_333 : decode cL_law 333 = .ok (.iconst 1, 1) := by decide +kernel
theorem dL_law_334 : decode cL_law 334 = .ok (.iadd, 1) := by decide +kernel
theorem dL_law_335 : decode cL_law 335 = .ok (.iaload, 1) := by decide +kernel
theorem dL_law_336 : decode cL_law 336 = .ok (.aload_n 0, 1) := by decide +kernel
theorem dL_law_337 : decode cL_law 337 = .ok (.iload_n 3, 1) := by decide +kernel
theorem dL_law_338 : decode cL_law 338 = .ok (.iconst 2, 1) := by decide +kernel
theorem dL_law_339 : decode cL_law 339 = .ok (.iadd, 1) := by decide +kernel
theorem dL_law_340 : decode cL_law 340 = .ok (.iaload, 1) := by decide +kernel
theorem dL_law_341 : decode cL_law 341 = .ok (.invokevirtual 43, 3) := by decide +kernel
theorem dL_law_344 : decode cL_law 344 = .ok (.if_icmp .eq 229, 3) := by decide +kernel
theorem dL_law_347 : decode cL_law 347 = .ok (.iconst 0, 1) := by decide +kernel
theorem dL_law_348 : decode cL_law 348 = .ok (.ireturn, 1) := by decide +kernel
theorem dL_law_349 : decode cL_law 349 = .ok (.aload_n 1, 1) := by decide +kernel
theorem dL_law_350 : decode cL_law 350 = .ok (.aload_n 0, 1) := by decide +kernel
theorem dL_law_351 : decode cL_law 351 = .ok (.iload_n 3, 1) := by decide +kernel
theorem dL_law_352 : decode cL_law 352 = .ok (.iconst 1, 1) := by decide +kernel
theorem dL_law_353 : decode cL_law 353 = .ok (.iadd, 1) := by decide +kernel
theorem dL_law_354 : decode cL_law 354 = .ok (.iaload, 1) := by decide +kernel
theorem dL_law_355 : decode cL_law 355 = .ok (.aload_n 0, 1) := by decide +kernel
theorem dL_law_356 : decode cL_law 356 = .ok (.iload_n 3, 1) := by decide +kernel
theorem dL_law_357 : decode cL_law 357 = .ok (.iconst 2, 1) := by decide +kernel
theorem dL_law_358 : decode cL_law 358 = .ok (.iadd, 1) := by decide +kernel
theorem dL_law_359 : decode cL_law 359 = .ok (.iaload, 1) := by decide +kernel
theorem dL_law_360 : decode cL_law 360 = .ok (.invokevirtual 44, 3) := by decide +kernel
theorem dL_law_363 : decode cL_law 363 = .ok (.aload_n 2, 1) := by decide +kernel
theorem dL_law_364 : decode cL_law 364 = .ok (.aload_n 0, 1) := by decide +kernel
theorem dL_law_365 : decode cL_law 365 = .ok (.iload_n 3, 1) := by decide +kernel
theorem dL_law_366 : decode cL_law 366 = .ok (.iconst 1, 1) := by decide +kernel
theorem dL_law_367 : decode cL_law 367 = .ok (.iadd, 1) := by decide +kernel
theorem dL_law_368 : decode cL_law 368 = .ok (.iaload, 1) := by decide +kernel
theorem dL_law_369 : decode cL_law 369 = .ok (.aload_n 0, 1) := by decide +kernel
theorem dL_law_370 : decode cL_law 370 = .ok (.iload_n 3, 1) := by decide +kernel
theorem dL_law_371 : decode cL_law 371 = .ok (.iconst 2, 1) := by decide +kernel
theorem dL_law_372 : decode cL_law 372 = .ok (.iadd, 1) := by decide +kernel
theorem dL_law_373 : decode cL_law 373 = .ok (.iaload, 1) := by decide +kernel
theorem dL_law_374 : decode cL_law 374 = .ok (.invokevirtual 47, 3) := by decide +kernel
theorem dL_law_377 : decode cL_law 377 = .ok (.if_icmp .eq 196, 3) := by decide +kernel
theorem dL_law_380 : decode cL_law 380 = .ok (.iconst 0, 1) := by decide +kernel
theorem dL_law_381 : decode cL_law 381 = .ok (.ireturn, 1) := by decide +kernel
theorem dL_law_382 : decode cL_law 382 = .ok (.aload_n 1, 1) := by decide +kernel
theorem dL_law_383 : decode cL_law 383 = .ok (.aload_n 0, 1) := by decide +kernel
theorem dL_law_384 : decode cL_law 384 = .ok (.iload_n 3, 1) := by decide +kernel
theorem dL_law_385 : decode cL_law 385 = .ok (.iconst 1, 1) := by decide +kernel
theorem dL_law_386 : decode cL_law 386 = .ok (.iadd, 1) := by decide +kernel
theorem dL_law_387 : decode cL_law 387 = .ok (.iaload, 1) := by decide +kernel
theorem dL_law_388 : decode cL_law 388 = .ok (.invokevirtual 48, 3) := by decide +kernel
theorem dL_law_391 : decode cL_law 391 = .ok (.aload_n 2, 1) := by decide +kernel
theorem dL_law_392 : decode cL_law 392 = .ok (.aload_n 0, 1) := by decide +kernel
theorem dL_law_393 : decode cL_law 393 = .ok (.iload_n 3, 1) := by decide +kernel
theorem dL_law_394 : decode cL_law 394 = .ok (.iconst 1, 1) := by decide +kernel
theorem dL_law_395 : decode cL_law 395 = .ok (.iadd, 1) := by decide +kernel
theorem dL_law_396 : decode cL_law 396 = .ok (.iaload, 1) := by decide +kernel
theorem dL_law_397 : decode cL_law 397 = .ok (.invokevirtual 51, 3) := by decide +kernel
theorem dL_law_400 : decode cL_law 400 = .ok (.if_icmp .eq 173, 3) := by decide +kernel
theorem dL_law_403 : decode cL_law 403 = .ok (.iconst 0, 1) := by decide +kernel
theorem dL_law_404 : decode cL_law 404 = .ok (.ireturn, 1) := by decide +kernel
theorem dL_law_405 : decode cL_law 405 = .ok (.aload_n 1, 1) := by decide +kernel
theorem dL_law_406 : decode cL_law 406 = .ok (.aload_n 0, 1) := by decide +kernel
theorem dL_law_407 : decode cL_law 407 = .ok (.iload_n 3, 1) := by decide +kernel
theorem dL_law_408 : decode cL_law 408 = .ok (.iconst 1, 1) := by decide +kernel
theorem dL_law_409 : decode cL_law 409 = .ok (.iadd, 1) := by decide +kernel
theorem dL_law_410 : decode cL_law 410 = .ok (.iaload, 1) := by decide +kernel
theorem dL_law_411 : decode cL_law 411 = .ok (.invokevirtual 52, 3) := by decide +kernel
theorem dL_law_414 : decode cL_law 414 = .ok (.aload_n 2, 1) := by decide +kernel
theorem dL_law_415 : decode cL_law 415 = .ok (.aload_n 0, 1) := by decide +kernel
theorem dL_law_416 : decode cL_law 416 = .ok (.iload_n 3, 1) := by decide +kernel
theorem dL_law_417 : decode cL_law 417 = .ok (.iconst 1, 1) := by decide +kernel
theorem dL_law_418 : decode cL_law 418 = .ok (.iadd, 1) := by decide +kernel
theorem dL_law_419 : decode cL_law 419 = .ok (.iaload, 1) := by decide +kernel
theorem dL_law_420 : decode cL_law 420 = .ok (.invokevirtual 55, 3) := by decide +kernel
theorem dL_law_423 : decode cL_law 423 = .ok (.if_icmp .eq 150, 3) := by decide +kernel
theorem dL_law_426 : decode cL_law 426 = .ok (.iconst 0, 1) := by decide +kernel
theorem dL_law_427 : decode cL_law 427 = .ok (.ireturn, 1) := by decide +kernel
theorem dL_law_428 : decode cL_law 428 = .ok (.aload_n 1, 1) := by decide +kernel
theorem dL_law_429 : decode cL_law 429 = .ok (.aload_n 0, 1) := by decide +kernel
theorem dL_law_430 : decode cL_law 430 = .ok (.iload_n 3, 1) := by decide +kernel
theorem dL_law_431 : decode cL_law 431 = .ok (.iconst 1, 1) := by decide +kernel
theorem dL_law_432 : decode cL_law 432 = .ok (.iadd, 1) := by decide +kernel
theorem dL_law_433 : decode cL_law 433 = .ok (.iaload, 1) := by decide +kernel
theorem dL_law_434 : decode cL_law 434 = .ok (.invokevirtual 56, 3) := by decide +kernel
theorem dL_law_437 : decode cL_law 437 = .ok (.aload_n 2, 1) := by decide +kernel
theorem dL_law_438 : decode cL_law 438 = .ok (.aload_n 0, 1) := by decide +kernel
theorem dL_law_439 : decode cL_law 439 = .ok (.iload_n 3, 1) := by decide +kernel
theorem dL_law_440 : decode cL_law 440 = .ok (.iconst 1, 1) := by decide +kernel
theorem dL_law_441 : decode cL_law 441 = .ok (.iadd, 1) := by decide +kernel
theorem dL_law_442 : decode cL_law 442 = .ok (.iaload, 1) := by decide +kernel
theorem dL_law_443 : decode cL_law 443 = .ok (.invokevirtual 59, 3) := by decide +kernel
theorem dL_law_446 : decode cL_law 446 = .ok (.if_icmp .eq 127, 3) := by decide +kernel
theorem dL_law_449 : decode cL_law 449 = .ok (.iconst 0, 1) := by decide +kernel
theorem dL_law_450 : decode cL_law 450 = .ok (.ireturn, 1) := by decide +kernel
theorem dL_law_451 : decode cL_law 451 = .ok (.aload_n 1, 1) := by decide +kernel
theorem dL_law_452 : decode cL_law 452 = .ok (.aload_n 0, 1) := by decide +kernel
theorem dL_law_453 : decode cL_law 453 = .ok (.iload_n 3, 1) := by decide +kernel
theorem dL_law_454 : decode cL_law 454 = .ok (.iconst 1, 1) := by decide +kernel
theorem dL_law_455 : decode cL_law 455 = .ok (.iadd, 1) := by decide +kernel
theorem dL_law_456 : decode cL_law 456 = .ok (.iaload, 1) := by decide +kernel
theorem dL_law_457 : decode cL_law 457 = .ok (.invokevirtual 60, 3) := by decide +kernel
theorem dL_law_460 : decode cL_law 460 = .ok (.aload_n 2, 1) := by decide +kernel
theorem dL_law_461 : decode cL_law 461 = .ok (.aload_n 0, 1) := by decide +kernel
theorem dL_law_462 : decode cL_law 462 = .ok (.iload_n 3, 1) := by decide +kernel
theorem dL_law_463 : decode cL_law 463 = .ok (.iconst 1, 1) := by decide +kernel
theorem dL_law_464 : decode cL_law 464 = .ok (.iadd, 1) := by decide +kernel
theorem dL_law_465 : decode cL_law 465 = .ok (.iaload, 1) := by decide +kernel
theorem dL_law_466 : decode cL_law 466 = .ok (.invokevirtual 63, 3) := by decide +kernel
theorem dL_law_469 : decode cL_law 469 = .ok (.if_icmp .eq 104, 3) := by decide +kernel
theorem dL_law_472 : decode cL_law 472 = .ok (.iconst 0, 1) := by decide +kernel
theorem dL_law_473 : decode cL_law 473 = .ok (.ireturn, 1) := by decide +kernel
theorem dL_law_474 : decode cL_law 474 = .ok (.aload_n 1, 1) := by decide +kernel
theorem dL_law_475 : decode cL_law 475 = .ok (.aload_n 0, 1) := by decide +kernel
theorem dL_law_476 : decode cL_law 476 = .ok (.iload_n 3, 1) := by decide +kernel
theorem dL_law_477 : decode cL_law 477 = .ok (.iconst 1, 1) := by decide +kernel
theorem dL_law_478 : decode cL_law 478 = .ok (.iadd, 1) := by decide +kernel
theorem dL_law_479 : decode cL_law 479 = .ok (.iaload, 1) := by decide +kernel
theorem dL_law_480 : decode cL_law 480 = .ok (.aload_n 0, 1) := by decide +kernel
theorem dL_law_481 : decode cL_law 481 = .ok (.iload_n 3, 1) := by decide +kernel
theorem dL_law_482 : decode cL_law 482 = .ok (.iconst 2, 1) := by decide +kernel
theorem dL_law_483 : decode cL_law 483 = .ok (.iadd, 1) := by decide +kernel
theorem dL_law_484 : decode cL_law 484 = .ok (.iaload, 1) := by decide +kernel
theorem dL_law_485 : decode cL_law 485 = .ok (.invokevirtual 64, 3) := by decide +kernel
theorem dL_law_488 : decode cL_law 488 = .ok (.aload_n 2, 1) := by decide +kernel
theorem dL_law_489 : decode cL_law 489 = .ok (.aload_n 0, 1) := by decide +kernel
theorem dL_law_490 : decode cL_law 490 = .ok (.iload_n 3, 1) := by decide +kernel
theorem dL_law_491 : decode cL_law 491 = .ok (.iconst 1, 1) := by decide +kernel
theorem dL_law_492 : decode cL_law 492 = .ok (.iadd, 1) := by decide +kernel
theorem dL_law_493 : decode cL_law 493 = .ok (.iaload, 1) := by decide +kernel
theorem dL_law_494 : decode cL_law 494 = .ok (.aload_n 0, 1) := by decide +kernel
theorem dL_law_495 : decode cL_law 495 = .ok (.iload_n 3, 1) := by decide +kernel
theorem dL_law_496 : decode cL_law 496 = .ok (.iconst 2, 1) := by decide +kernel
theorem dL_law_497 : decode cL_law 497 = .ok (.iadd, 1) := by decide +kernel
theorem dL_law_498 : decode cL_law 498 = .ok (.iaload, 1) := by decide +kernel
theorem dL_law_499 : decode cL_law 499 = .ok (.invokevirtual 67, 3) := by decide +kernel
theorem dL_law_502 : decode cL_law 502 = .ok (.if_icmp .eq 71, 3) := by decide +kernel
theorem dL_law_505 : decode cL_law 505 = .ok (.iconst 0, 1) := by decide +kernel
theorem dL_law_506 : decode cL_law 506 = .ok (.ireturn, 1) := by decide +kernel
theorem dL_law_507 : decode cL_law 507 = .ok (.aload_n 1, 1) := by decide +kernel
theorem dL_law_508 : decode cL_law 508 = .ok (.aload_n 0, 1) := by decide +kernel
theorem dL_law_509 : decode cL_law 509 = .ok (.iload_n 3, 1) := by decide +kernel
theorem dL_law_510 : decode cL_law 510 = .ok (.iconst 1, 1) := by decide +kernel
theorem dL_law_511 : decode cL_law 511 = .ok (.iadd, 1) := by decide +kernel
theorem dL_law_512 : decode cL_law 512 = .ok (.iaload, 1) := by decide +kernel
theorem dL_law_513 : decode cL_law 513 = .ok (.aload_n 0, 1) := by decide +kernel
theorem dL_law_514 : decode cL_law 514 = .ok (.iload_n 3, 1) := by decide +kernel
theorem dL_law_515 : decode cL_law 515 = .ok (.iconst 2, 1) := by decide +kernel
theorem dL_law_516 : decode cL_law 516 = .ok (.iadd, 1) := by decide +kernel
theorem dL_law_517 : decode cL_law 517 = .ok (.iaload, 1) := by decide +kernel
theorem dL_law_518 : decode cL_law 518 = .ok (.aload_n 0, 1) := by decide +kernel
theorem dL_law_519 : decode cL_law 519 = .ok (.iload_n 3, 1) := by decide +kernel
theorem dL_law_520 : decode cL_law 520 = .ok (.iconst 3, 1) := by decide +kernel
theorem dL_law_521 : decode cL_law 521 = .ok (.iadd, 1) := by decide +kernel
theorem dL_law_522 : decode cL_law 522 = .ok (.iaload, 1) := by decide +kernel
theorem dL_law_523 : decode cL_law 523 = .ok (.invokevirtual 68, 3) := by decide +kernel
theorem dL_law_526 : decode cL_law 526 = .ok (.aload_n 2, 1) := by decide +kernel
theorem dL_law_527 : decode cL_law 527 = .ok (.aload_n 0, 1) := by decide +kernel
theorem dL_law_528 : decode cL_law 528 = .ok (.iload_n 3, 1) := by decide +kernel
theorem dL_law_529 : decode cL_law 529 = .ok (.iconst 1, 1) := by decide +kernel
theorem dL_law_530 : decode cL_law 530 = .ok (.iadd, 1) := by decide +kernel
theorem dL_law_531 : decode cL_law 531 = .ok (.iaload, 1) := by decide +kernel
theorem dL_law_532 : decode cL_law 532 = .ok (.aload_n 0, 1) := by decide +kernel
theorem dL_law_533 : decode cL_law 533 = .ok (.iload_n 3, 1) := by decide +kernel
theorem dL_law_534 : decode cL_law 534 = .ok (.iconst 2, 1) := by decide +kernel
theorem dL_law_535 : decode cL_law 535 = .ok (.iadd, 1) := by decide +kernel
theorem dL_law_536 : decode cL_law 536 = .ok (.iaload, 1) := by decide +kernel
theorem dL_law_537 : decode cL_law 537 = .ok (.aload_n 0, 1) := by decide +kernel
theorem dL_law_538 : decode cL_law 538 = .ok (.iload_n 3, 1) := by decide +kernel
theorem dL_law_539 : decode cL_law 539 = .ok (.iconst 3, 1) := by decide +kernel
theorem dL_law_540 : decode cL_law 540 = .ok (.iadd, 1) := by decide +kernel
theorem dL_law_541 : decode cL_law 541 = .ok (.iaload, 1) := by decide +kernel
theorem dL_law_542 : decode cL_law 542 = .ok (.invokevirtual 71, 3) := by decide +kernel
theorem dL_law_545 : decode cL_law 545 = .ok (.if_icmp .eq 28, 3) := by decide +kernel
theorem dL_law_548 : decode cL_law 548 = .ok (.iconst 0, 1) := by decide +kernel
theorem dL_law_549 : decode cL_law 549 = .ok (.ireturn, 1) := by decide +kernel
theorem dL_law_550 : decode cL_law 550 = .ok (.aload_n 1, 1) := by decide +kernel
theorem dL_law_551 : decode cL_law 551 = .ok (.aload_n 0, 1) := by decide +kernel
theorem dL_law_552 : decode cL_law 552 = .ok (.iload_n 3, 1) := by decide +kernel
theorem dL_law_553 : decode cL_law 553 = .ok (.iconst 1, 1) := by decide +kernel
theorem dL_law_554 : decode cL_law 554 = .ok (.iadd, 1) := by decide +kernel
theorem dL_law_555 : decode cL_law 555 = .ok (.iaload, 1) := by decide +kernel
theorem dL_law_556 : decode cL_law 556 = .ok (.invokevirtual 72, 3) := by decide +kernel
theorem dL_law_559 : decode cL_law 559 = .ok (.aload_n 2, 1) := by decide +kernel
theorem dL_law_560 : decode cL_law 560 = .ok (.aload_n 0, 1) := by decide +kernel
theorem dL_law_561 : decode cL_law 561 = .ok (.iload_n 3, 1) := by decide +kernel
theorem dL_law_562 : decode cL_law 562 = .ok (.iconst 1, 1) := by decide +kernel
theorem dL_law_563 : decode cL_law 563 = .ok (.iadd, 1) := by decide +kernel
theorem dL_law_564 : decode cL_law 564 = .ok (.iaload, 1) := by decide +kernel
theorem dL_law_565 : decode cL_law 565 = .ok (.invokevirtual 75, 3) := by decide +kernel
theorem dL_law_568 : decode cL_law 568 = .ok (.if_icmp .eq 5, 3) := by decide +kernel
theorem dL_law_571 : decode cL_law 571 = .ok (.iconst 0, 1) := by decide +kernel
theorem dL_law_572 : decode cL_law 572 = .ok (.ireturn, 1) := by decide +kernel
theorem dL_law_573 : decode cL_law 573 = .ok (.iinc 3 4, 3) := by decide +kernel
theorem dL_law_576 : decode cL_law 576 = .ok (.goto (-558), 3) := by decide +kernel
theorem dL_law_579 : decode cL_law 579 = .ok (.iconst 1, 1) := by decide +kernel
theorem dL_law_580 : decode cL_law 580 = .ok (.ireturn, 1) := by decide +kernel
end
section
theorem mem_places {big ws : List Cond} (ps : List Nat) (hp : ws = ps.filterMap (fun i => big[i]?)) : ∀ w ∈ ws, w ∈ big := by
  intro w hw
  rw [hp] at hw
  obtain ⟨i, -, hi⟩ := List.mem_filterMap.mp hw
  exact List.mem_of_getElem? hi
set_option maxRecDepth 20000 in
theorem in_wsL_law_r1 : ∀ w ∈ wsL_law_r1, w ∈ lw_tbl := mem_places [38, 39, 25, 540, 541, 32, 40, 41, 42, 43, 44, 45, 46, 47, 26, 232, 95, 96, 27, 233, 110, 111, 28, 235] (by decide +kernel)
set_option maxRecDepth 20000 in
theorem in_wsL_law_r2 : ∀ w ∈ wsL_law_r2, w ∈ lw_tbl := mem_places [236, 155, 156, 29, 234, 49, 50, 51, 94, 62, 65, 67, 69, 71, 73, 98, 99, 100, 101, 104, 113, 114, 115, 129] (by decide +kernel)
set_option maxRecDepth 20000 in
theorem in_wsL_law_r3 : ∀ w ∈ wsL_law_r3, w ∈ lw_tbl := mem_places [131, 132, 133, 157, 158, 159, 160, 161, 162, 30, 206, 185, 186, 31, 207, 208, 204, 205, 209, 164, 165, 166, 184, 169] (by decide +kernel)
set_option maxRecDepth 20000 in
theorem in_wsL_law_r4 : ∀ w ∈ wsL_law_r4, w ∈ lw_tbl := mem_places [170, 171, 172, 188, 189, 190, 195, 542, 543, 544, 545, 548, 550, 551, 552, 554, 555, 556, 557, 546, 635, 558, 560, 561] (by decide +kernel)
set_option maxRecDepth 20000 in
theorem in_wsL_law_r5 : ∀ w ∈ wsL_law_r5, w ∈ lw_tbl := mem_places [568, 569, 570, 571, 572, 573, 562, 248, 249, 250, 251, 252, 253, 254, 255, 256, 257, 258, 52, 636, 637, 638, 639, 547] (by decide +kernel)
set_option maxRecDepth 20000 in
theorem in_wsL_law_r6 : ∀ w ∈ wsL_law_r6, w ∈ lw_tbl := mem_places [640, 641, 642, 259, 260, 261, 262, 263, 264, 265, 266, 267, 268, 269, 270, 56, 643, 644, 645, 646, 549, 271, 272, 273] (by decide +kernel)
set_option maxRecDepth 20000 in
theorem in_wsL_law_r7 : ∀ w ∈ wsL_law_r7, w ∈ lw_tbl := mem_places [274, 275, 276, 277, 278, 60, 647, 648, 649, 650, 553, 279, 280, 281, 282, 286, 288, 103, 283, 284, 285, 651, 652, 653] (by decide +kernel)
set_option maxRecDepth 20000 in
theorem in_wsL_law_r8 : ∀ w ∈ wsL_law_r8, w ∈ lw_tbl := mem_places [654, 655, 656, 657, 290, 291, 292, 293, 294, 295, 296, 297, 298, 299, 300, 658, 659, 660, 661, 301, 302, 303, 304, 64] (by decide +kernel)
set_option maxRecDepth 20000 in
theorem in_wsL_law_r9 : ∀ w ∈ wsL_law_r9, w ∈ lw_tbl := mem_places [662, 663, 664, 665, 305, 306, 307, 308, 309, 310, 311, 312, 313, 314, 33, 315, 316, 317, 318, 666, 667, 668, 669, 670] (by decide +kernel)
set_option maxRecDepth 20000 in
theorem in_wsL_law_r10 : ∀ w ∈ wsL_law_r10, w ∈ lw_tbl := mem_places [672, 7, 673, 319, 320, 321, 322, 323, 324, 325, 326, 674, 675, 676, 677, 678, 680, 8, 681, 327, 328, 329, 330, 331] (by decide +kernel)
set_option maxRecDepth 20000 in
theorem in_wsL_law_r11 : ∀ w ∈ wsL_law_r11, w ∈ lw_tbl := mem_places [333, 334, 335, 336, 337, 682, 683, 684, 685, 686, 688, 9, 689, 338, 339, 340, 341, 55, 58, 61, 690, 691, 692, 693] (by decide +kernel)
set_option maxRecDepth 20000 in
theorem in_wsL_law_r12 : ∀ w ∈ wsL_law_r12, w ∈ lw_tbl := mem_places [342, 343, 344, 345, 117, 346, 347, 348, 349, 350, 351, 352, 353, 210, 211, 212, 54, 102, 168, 127, 354, 355, 356, 357] (by decide +kernel)
set_option maxRecDepth 20000 in
theorem in_wsL_law_r13 : ∀ w ∈ wsL_law_r13, w ∈ lw_tbl := mem_places [167, 358, 359, 34, 360, 361, 362, 363, 364, 116, 118, 120, 122, 124, 126, 365, 366, 367, 368, 191, 53, 63, 193, 369] (by decide +kernel)
set_option maxRecDepth 20000 in
theorem in_wsL_law_r14 : ∀ w ∈ wsL_law_r14, w ∈ lw_tbl := mem_places [370, 371, 372, 374, 0, 375, 59, 376, 377, 378, 379, 380, 381, 382, 383, 384, 385, 387, 1, 388, 192, 194, 196, 389] (by decide +kernel)
set_option maxRecDepth 20000 in
theorem in_wsL_law_r15 : ∀ w ∈ wsL_law_r15, w ∈ lw_tbl := mem_places [390, 391, 392, 393, 395, 394, 35, 396, 397, 398, 399, 400, 401, 402, 36, 403, 404, 405, 406, 407, 408, 409, 410, 411] (by decide +kernel)
set_option maxRecDepth 20000 in
theorem in_wsL_law_r16 : ∀ w ∈ wsL_law_r16, w ∈ lw_tbl := mem_places [412, 413, 414, 415, 416, 417, 418, 419, 420, 421, 423, 2, 424, 425, 427, 3, 428, 57, 429, 430, 431, 432, 433, 434] (by decide +kernel)
set_option maxRecDepth 20000 in
theorem in_wsL_law_r17 : ∀ w ∈ wsL_law_r17, w ∈ lw_tbl := mem_places [435, 436, 437, 438, 439, 440, 441, 443, 4, 444, 74, 72, 68, 445, 446, 447, 448, 449, 450, 451, 452, 453, 454, 455] (by decide +kernel)
set_option maxRecDepth 20000 in
theorem in_wsL_law_r18 : ∀ w ∈ wsL_law_r18, w ∈ lw_tbl := mem_places [456, 457, 458, 459, 460, 461, 462, 463, 464, 465, 466, 467, 469, 5, 470, 66, 70, 471, 472, 473, 474, 475, 476, 477] (by decide +kernel)
set_option maxRecDepth 20000 in
theorem in_wsL_law_r19 : ∀ w ∈ wsL_law_r19, w ∈ lw_tbl := mem_places [478, 479, 480, 481, 482, 483, 484, 485, 486, 487, 488, 489, 490, 491, 492, 493, 494, 495, 496, 37, 497, 498, 499, 501] (by decide +kernel)
set_option maxRecDepth 20000 in
theorem in_wsL_law_r20 : ∀ w ∈ wsL_law_r20, w ∈ lw_tbl := mem_places [6, 502, 694, 695, 696, 697, 574, 563, 564, 565, 566, 567, 559, 698, 700, 10, 701, 575, 702, 704, 11, 705, 706, 707] (by decide +kernel)
set_option maxRecDepth 20000 in
theorem in_wsL_law_r21 : ∀ w ∈ wsL_law_r21, w ∈ lw_tbl := mem_places [708, 709, 711, 12, 712, 713, 715, 13, 716, 717, 719, 14, 720, 721, 723, 15, 724, 725, 727, 16, 728, 729, 730, 731] (by decide +kernel)
set_option maxRecDepth 20000 in
theorem in_wsL_law_r22 : ∀ w ∈ wsL_law_r22, w ∈ lw_tbl := mem_places [732, 734, 17, 735, 736, 738, 18, 739, 740, 742, 19, 743, 744, 746, 20, 747, 748, 750, 21, 751, 752, 754, 22, 755] (by decide +kernel)
set_option maxRecDepth 20000 in
theorem in_wsL_law_r23 : ∀ w ∈ wsL_law_r23, w ∈ lw_tbl := mem_places [503, 504, 505, 506, 128, 121, 123, 125, 756, 757, 758, 759, 507, 508, 509, 510, 119, 130, 511, 512, 513, 514, 760, 761] (by decide +kernel)
set_option maxRecDepth 20000 in
theorem in_wsL_law_r24 : ∀ w ∈ wsL_law_r24, w ∈ lw_tbl := mem_places [762, 763, 515, 516, 517, 518, 519, 520, 521, 522, 523, 524, 525, 526, 527, 528, 529, 530, 531, 532, 533, 534, 535, 764] (by decide +kernel)
set_option maxRecDepth 20000 in
theorem in_wsL_law_r25 : ∀ w ∈ wsL_law_r25, w ∈ lw_tbl := mem_places [765, 766, 767, 536, 537, 538, 539, 768, 769, 770, 771, 772, 774, 23, 775] (by decide +kernel)
set_option maxRecDepth 20000 in
theorem inX0 : ∀ w ∈ wsX00, w ∈ lw_tbl := mem_places [134, 136, 138, 140, 142, 144, 146, 148, 150, 152] (by decide +kernel)
set_option maxRecDepth 20000 in
theorem inX1 : ∀ w ∈ wsX10, w ∈ lw_tbl := mem_places [75, 77, 79, 81, 83, 85, 87, 89, 91] (by decide +kernel)
set_option maxRecDepth 20000 in
theorem inX2 : ∀ w ∈ wsX20, w ∈ lw_tbl := mem_places [105, 107] (by decide +kernel)
set_option maxRecDepth 20000 in
theorem inX3 : ∀ w ∈ wsX30, w ∈ lw_tbl := mem_places [213, 215, 217, 219, 221, 223, 225, 227, 229] (by decide +kernel)
set_option maxRecDepth 20000 in
theorem inX4 : ∀ w ∈ wsX40, w ∈ lw_tbl := mem_places [197, 199, 201] (by decide +kernel)
set_option maxRecDepth 20000 in
theorem inX5 : ∀ w ∈ wsX50, w ∈ lw_tbl := mem_places [173, 175, 177, 179, 181] (by decide +kernel)
set_option maxRecDepth 20000 in
theorem inX7 : ∀ w ∈ wsX70, w ∈ lw_tbl := mem_places [237, 239, 241, 243, 245] (by decide +kernel)
set_option maxRecDepth 20000 in
theorem inX8 : ∀ w ∈ wsX80, w ∈ lw_tbl := mem_places [576, 578, 580, 582, 584, 586, 588, 590, 592, 594, 596, 598, 600, 602, 604, 606, 608, 610, 612, 614, 616, 618, 620, 622, 624, 626, 628, 630, 632] (by decide +kernel)
theorem wsL_law_in : ∀ w ∈ wsL_law, w ∈ lw_tbl := (List.forall_mem_append.mpr ⟨(List.forall_mem_append.mpr ⟨(List.forall_mem_append.mpr ⟨(List.forall_mem_append.mpr ⟨(List.forall_mem_append.mpr ⟨(List.forall_mem_append.mpr ⟨(List.forall_mem_append.mpr ⟨(List.forall_mem_append.mpr ⟨(List.forall_mem_append.mpr ⟨(List.forall_mem_append.mpr ⟨in_wsL_law_r1, (List.forall_mem_append.mpr ⟨in_wsL_law_r2, (List.forall_mem_append.mpr ⟨in_wsL_law_r3, (List.forall_mem_append.mpr ⟨in_wsL_law_r4, (List.forall_mem_append.mpr ⟨in_wsL_law_r5, (List.forall_mem_append.mpr ⟨in_wsL_law_r6, (List.forall_mem_append.mpr ⟨in_wsL_law_r7, (List.forall_mem_append.mpr ⟨in_wsL_law_r8, (List.forall_mem_append.mpr ⟨in_wsL_law_r9, (List.forall_mem_append.mpr ⟨in_wsL_law_r10, (List.forall_mem_append.mpr ⟨in_wsL_law_r11, (List.forall_mem_append.mpr ⟨in_wsL_law_r12, (List.forall_mem_append.mpr ⟨in_wsL_law_r13, (List.forall_mem_append.mpr ⟨in_wsL_law_r14, (List.forall_mem_append.mpr ⟨in_wsL_law_r15, (List.forall_mem_append.mpr ⟨in_wsL_law_r16, (List.forall_mem_append.mpr ⟨in_wsL_law_r17, (List.forall_mem_append.mpr ⟨in_wsL_law_r18, (List.forall_mem_append.mpr ⟨in_wsL_law_r19, (List.forall_mem_append.mpr ⟨in_wsL_law_r20, (List.forall_mem_append.mpr ⟨in_wsL_law_r21, (List.forall_mem_append.mpr ⟨in_wsL_law_r22, (List.forall_mem_append.mpr ⟨in_wsL_law_r23, (List.forall_mem_append.mpr ⟨in_wsL_law_r24, in_wsL_law_r25⟩)⟩)⟩)⟩)⟩)⟩)⟩)⟩)⟩)⟩)⟩)⟩)⟩)⟩)⟩)⟩)⟩)⟩)⟩)⟩)⟩)⟩)⟩)⟩), inX7⟩), inX8⟩), inX1⟩), inX2⟩), inX0⟩), inX3⟩), inX5⟩), inX4⟩), fun _ h => absurd h List.not_mem_nil⟩)
end
section
/-! my own layer: a method's contract over a world, and calls in one row -/
abbrev tyL (cA : Nat → ClassId) : List (ClassId × FieldType) := [(cA 0, .int), (cA 1, .long), (cA 2, .byte)]
abbrev cPre (D : va_G) (cA : Nat → ClassId) (sz : Nat) (av : List Value) (ws : va_W) : Array Value → State → Prop := va_Pc av (fun U => U.heap.size = sz ∧ va_P D vwCl ws U.heap ∧ va_K D vwCl (tyL cA) U ∧ va_D (fun _ => True) ws)
abbrev cOut {S : Type} (D : va_G) (cA : Nat → ClassId) (A : Nat → Prop) (w1 : S → va_W) : S → State → Prop := fun u t => va_P D vwCl (w1 u) t.heap ∧ va_K D vwCl (tyL cA) t ∧ va_D A (w1 u)
def cxm (own : String) (cc : ByteArray) (nL : Nat) (ret : Option FieldType) (ws : List Cond) (p : Program) (s : State) (m : MethodId) (args : Array Value) (meth : Method) (c : Code) : Prop := p.tables.exec = Jvm.exec ∧ c.code = cc ∧ meth.sig.returnType = ret ∧ (∀ w ∈ ws, w.before args s = true) ∧ s.vm.findClass own = some m.cls ∧ meth.locks = false ∧ c.maxLocals = nL
theorem fm_of {ws ws' : va_W} {is : List Nat} (h : is.map (fun i => ws[i]?) = ws'.map some) : is.filterMap (fun i => ws[i]?) = ws' := by
  induction is generalizing ws' with
  | nil => cases ws' <;> simp_all
  | cons i is ih =>
    cases ws' with
    | nil => simp at h
    | cons w ws' =>
      simp only [List.map_cons, List.cons.injEq] at h
      rw [List.filterMap_cons, h.1, ih h.2]
theorem cPre_blind {D : va_G} {cA : Nat → ClassId} {sz : Nat} {av : List Value} {ws : va_W} : FrameBlind (cPre D cA sz av ws) := fun a U g mk q => by
  obtain ⟨q0, q1, qP, qK, qD⟩ := q
  exact ⟨q0, q1, qP, va_K.moved (u := U) (U := U.calling g mk a) (Vm.Alike.refl U.vm) qK, qD⟩
section CB
variable {p : Program} {l : Launch} {e : Env} {R : Room} {s : State} {m : MethodId} {args : Array Value} {below : List Frame} {meth : Method} {c : Code} {H : Heap} {locs : List Loc} {cells slots : Nat} {Q : State → Prop}
variable {pc : Nat} {ls : Array Slot} {rest st0 As : List Value} {a : Array Value} {A : Nat → Prop} {H0 : Heap} {D : va_G} {cA : Nat → ClassId} {ws wc wr : va_W}
variable {y : MethodName} {bytes cc : ByteArray} {maxL nL n index ci N : Nat} {T : u_T} {ret : Option FieldType} {w Ts : List Cond} {rm : Room} {own Cn : String} {b : Addr} {fs : List Value}
theorem cB_i {S : Type} {post : Int32 → S → Prop} {w1 w2 : S → va_W} (hr : va_Run p l e R s m args below meth c H locs cells slots 0 0 (F0 m pc ls st0) rest (va_Qi post (cOut D cA (va_A wc H.size) w1) (va_A wc H.size) a) (va_A wc H.size))
    (hP : va_P D vwCl ws H) (hD : va_D A ws) (hS : va_S A H0 H locs) (hA : ∀ q, H0.size ≤ q → A q) (isC isR pm : List Nat) (hC : isC.map (fun i => ws[i]?) = wc.map some) (hR : isR.map (fun i => ws[i]?) = wr.map some) (hn : va_nd isR = true) (hdis : ∀ i ∈ isR, i ∉ isC) (hpm : va_nd pm = true) (hw2 : ∀ u, pm.map (fun i => (wr ++ w1 u)[i]?) = (w2 u).map some)
    (kk : ∀ (r : Int32) (u : S) (H1 : Heap) (locs1 : List Loc), post r u → va_P D vwCl (w2 u) H1 → va_D A (w2 u) → va_S A H0 H1 locs1 → W p l e R s m args below meth c H1 locs1 cells slots Q (F0 m (pc + 3) ls (.int r :: rest))) : W p l e R s m args below meth c H locs cells slots Q (F0 m pc ls st0) := by
  have hF := va_free (wc := wc) hD hS hA isC hC
  refine va_calli hr hS (fun q _ h => hF q h) hF (fun r u t H1 locs1 ht hvm hp hB hz hk hS1 => ?_)
  obtain ⟨hP1, hK1, hD1⟩ := hB
  rw [ht] at hP1
  obtain ⟨hP2, hD2⟩ := va_join hP hD isC isR hC hR hn hdis hk hF hP1 hD1
  exact kk r u H1 locs1 hp (hP2.sub pm (fm_of (hw2 u))) (hD2.sub pm hpm (hw2 u)) hS1
theorem cB_v {S : Type} {post : S → Prop} {w1 w2 : S → va_W} (hr : va_Run p l e R s m args below meth c H locs cells slots 0 0 (F0 m pc ls st0) rest (va_Qv post (cOut D cA (va_A wc H.size) w1) (va_A wc H.size) a) (va_A wc H.size))
    (hP : va_P D vwCl ws H) (hD : va_D A ws) (hS : va_S A H0 H locs) (hA : ∀ q, H0.size ≤ q → A q) (isC isR pm : List Nat) (hC : isC.map (fun i => ws[i]?) = wc.map some) (hR : isR.map (fun i => ws[i]?) = wr.map some) (hn : va_nd isR = true) (hdis : ∀ i ∈ isR, i ∉ isC) (hpm : va_nd pm = true) (hw2 : ∀ u, pm.map (fun i => (wr ++ w1 u)[i]?) = (w2 u).map some)
    (kk : ∀ (u : S) (H1 : Heap) (locs1 : List Loc), post u → va_P D vwCl (w2 u) H1 → va_D A (w2 u) → va_S A H0 H1 locs1 → W p l e R s m args below meth c H1 locs1 cells slots Q (F0 m (pc + 3) ls rest)) : W p l e R s m args below meth c H locs cells slots Q (F0 m pc ls st0) := by
  have hF := va_free (wc := wc) hD hS hA isC hC
  refine va_callv hr hS (fun q _ h => hF q h) hF (fun u t H1 locs1 ht hvm hp hB hz hk hS1 => ?_)
  obtain ⟨hP1, hK1, hD1⟩ := hB
  rw [ht] at hP1
  obtain ⟨hP2, hD2⟩ := va_join hP hD isC isR hC hR hn hdis hk hF hP1 hD1
  exact kk u H1 locs1 hp (hP2.sub pm (fm_of (hw2 u))) (hD2.sub pm hpm (hw2 u)) hS1
theorem cPreV (hK : va_K D vwCl (tyL cA) s) (hP : va_P D vwCl wc H) (hD : va_D A wc) (hb0 : wc[0]? = some (b, .inr (ci, fs))) (hci : vwCl[ci]? = some (Cn, T, N)) : PreV s H Cn b (cPre D cA H.size (.ref b :: As) wc) As :=
  ⟨cPre_blind, va_recv hK hP hci hb0, fun U hU hW => ⟨rfl, by rw [hU], by rw [hU]; exact hP, va_K.moved hW.alike hK, hD.weaken (fun _ _ _ _ => trivial)⟩⟩
theorem cPreS (hK : va_K D vwCl (tyL cA) s) (hP : va_P D vwCl wc H) (hD : va_D A wc) : PreS s H (cPre D cA H.size As wc) As :=
  ⟨cPre_blind, fun U hU hW => ⟨rfl, by rw [hU], by rw [hU]; exact hP, va_K.moved hW.alike hK, hD.weaken (fun _ _ _ _ => trivial)⟩⟩
theorem nd_of {is : List Nat} {w1 : va_W} (hD : va_D A ws) (hP : va_P D vwCl ws H) (hC : is.map (fun i => ws[i]?) = w1.map some) (hn : va_nd is = true) : va_P D vwCl w1 H ∧ va_D A w1 := ⟨hP.sub is (fm_of hC), hD.sub is hn hC⟩
theorem cV_i {S : Type} {post : Int32 → S → Prop} {w1 w2 : S → va_W} (C : CallFix p m c cc nL s args Ts own) (hM : Met l y w rm (cPre D cA H.size (.ref b :: As) wc) (va_Qi post (cOut D cA (va_A wc H.size) w1) (va_A wc H.size)) 0 0 (va_A wc H.size)) (cw : CallW R s args own Cn index y bytes maxL ret w rm 0 0 n)
    (hK : va_K D vwCl (tyL cA) s) (hP : va_P D vwCl ws H) (hD : va_D A ws) (hS : va_S A H0 H locs) (hA : ∀ q, H0.size ≤ q → A q) (isC isR pm : List Nat) (hC : isC.map (fun i => ws[i]?) = wc.map some) (hR : isR.map (fun i => ws[i]?) = wr.map some) (hn : va_nd isR = true) (hnC : va_nd isC = true) (hdis : ∀ i ∈ isR, i ∉ isC) (hpm : va_nd pm = true) (hw2 : ∀ u, pm.map (fun i => (wr ++ w1 u)[i]?) = (w2 u).map some)
    (hb0 : wc[0]? = some (b, .inr (ci, fs))) (hci : vwCl[ci]? = some (Cn, T, N)) (hnn : As.length = n) (hsize : ls.size = nL) (hst : st0 = As.reverse ++ .ref b :: rest) (hroom : (rest.map fun v => v.category).sum ≤ 8) (hdg : decode cc pc = .ok (.invokevirtual index, 3)) (hf : cells ≤ R.cells ∧ slots ≤ R.slots)
    (kk : ∀ (r : Int32) (u : S) (H1 : Heap) (locs1 : List Loc), post r u → va_P D vwCl (w2 u) H1 → va_D A (w2 u) → va_S A H0 H1 locs1 → W p l e R s m args below meth c H1 locs1 cells slots Q (F0 m (pc + 3) ls (.int r :: rest))) : W p l e R s m args below meth c H locs cells slots Q (F0 m pc ls st0) := by
  obtain ⟨hPc, hDc⟩ := nd_of hD hP hC hnC
  exact cB_i (va_runV (rest := rest) C hM cw (cPreV hK hPc hDc hb0 hci) rfl hnn hsize hst (lv_room hroom) hdg hf) hP hD hS hA isC isR pm hC hR hn hdis hpm hw2 kk
theorem cV_v {S : Type} {post : S → Prop} {w1 w2 : S → va_W} (C : CallFix p m c cc nL s args Ts own) (hM : Met l y w rm (cPre D cA H.size (.ref b :: As) wc) (va_Qv post (cOut D cA (va_A wc H.size) w1) (va_A wc H.size)) 0 0 (va_A wc H.size)) (cw : CallW R s args own Cn index y bytes maxL ret w rm 0 0 n)
    (hK : va_K D vwCl (tyL cA) s) (hP : va_P D vwCl ws H) (hD : va_D A ws) (hS : va_S A H0 H locs) (hA : ∀ q, H0.size ≤ q → A q) (isC isR pm : List Nat) (hC : isC.map (fun i => ws[i]?) = wc.map some) (hR : isR.map (fun i => ws[i]?) = wr.map some) (hn : va_nd isR = true) (hnC : va_nd isC = true) (hdis : ∀ i ∈ isR, i ∉ isC) (hpm : va_nd pm = true) (hw2 : ∀ u, pm.map (fun i => (wr ++ w1 u)[i]?) = (w2 u).map some)
    (hb0 : wc[0]? = some (b, .inr (ci, fs))) (hci : vwCl[ci]? = some (Cn, T, N)) (hnn : As.length = n) (hsize : ls.size = nL) (hst : st0 = As.reverse ++ .ref b :: rest) (hroom : (rest.map fun v => v.category).sum ≤ 8) (hdg : decode cc pc = .ok (.invokevirtual index, 3)) (hf : cells ≤ R.cells ∧ slots ≤ R.slots)
    (kk : ∀ (u : S) (H1 : Heap) (locs1 : List Loc), post u → va_P D vwCl (w2 u) H1 → va_D A (w2 u) → va_S A H0 H1 locs1 → W p l e R s m args below meth c H1 locs1 cells slots Q (F0 m (pc + 3) ls rest)) : W p l e R s m args below meth c H locs cells slots Q (F0 m pc ls st0) := by
  obtain ⟨hPc, hDc⟩ := nd_of hD hP hC hnC
  exact cB_v (va_runV (rest := rest) C hM cw (cPreV hK hPc hDc hb0 hci) rfl hnn hsize hst (lv_room hroom) hdg hf) hP hD hS hA isC isR pm hC hR hn hdis hpm hw2 kk
theorem cS_i {S : Type} {post : Int32 → S → Prop} {w1 w2 : S → va_W} (C : CallFix p m c cc nL s args Ts own) (hM : Met l y w rm (cPre D cA H.size As wc) (va_Qi post (cOut D cA (va_A wc H.size) w1) (va_A wc H.size)) 0 0 (va_A wc H.size)) (cw : CallB R s args own index y bytes maxL ret w rm 0 0 n ∧ (Cond.static y).before args s = true)
    (hK : va_K D vwCl (tyL cA) s) (hP : va_P D vwCl ws H) (hD : va_D A ws) (hS : va_S A H0 H locs) (hA : ∀ q, H0.size ≤ q → A q) (isC isR pm : List Nat) (hC : isC.map (fun i => ws[i]?) = wc.map some) (hR : isR.map (fun i => ws[i]?) = wr.map some) (hn : va_nd isR = true) (hnC : va_nd isC = true) (hdis : ∀ i ∈ isR, i ∉ isC) (hpm : va_nd pm = true) (hw2 : ∀ u, pm.map (fun i => (wr ++ w1 u)[i]?) = (w2 u).map some)
    (hnn : As.length = n) (hsize : ls.size = nL) (hst : st0 = As.reverse ++ rest) (hroom : (rest.map fun v => v.category).sum ≤ 8) (hdg : decode cc pc = .ok (.invokestatic index, 3)) (hf : cells ≤ R.cells ∧ slots ≤ R.slots)
    (kk : ∀ (r : Int32) (u : S) (H1 : Heap) (locs1 : List Loc), post r u → va_P D vwCl (w2 u) H1 → va_D A (w2 u) → va_S A H0 H1 locs1 → W p l e R s m args below meth c H1 locs1 cells slots Q (F0 m (pc + 3) ls (.int r :: rest))) : W p l e R s m args below meth c H locs cells slots Q (F0 m pc ls st0) := by
  obtain ⟨hPc, hDc⟩ := nd_of hD hP hC hnC
  exact cB_i (va_runS (rest := rest) C hM cw (cPreS hK hPc hDc) rfl hnn hsize hst (lv_room hroom) hdg hf) hP hD hS hA isC isR pm hC hR hn hdis hpm hw2 kk
theorem cS_v {S : Type} {post : S → Prop} {w1 w2 : S → va_W} (C : CallFix p m c cc nL s args Ts own) (hM : Met l y w rm (cPre D cA H.size As wc) (va_Qv post (cOut D cA (va_A wc H.size) w1) (va_A wc H.size)) 0 0 (va_A wc H.size)) (cw : CallB R s args own index y bytes maxL ret w rm 0 0 n ∧ (Cond.static y).before args s = true)
    (hK : va_K D vwCl (tyL cA) s) (hP : va_P D vwCl ws H) (hD : va_D A ws) (hS : va_S A H0 H locs) (hA : ∀ q, H0.size ≤ q → A q) (isC isR pm : List Nat) (hC : isC.map (fun i => ws[i]?) = wc.map some) (hR : isR.map (fun i => ws[i]?) = wr.map some) (hn : va_nd isR = true) (hnC : va_nd isC = true) (hdis : ∀ i ∈ isR, i ∉ isC) (hpm : va_nd pm = true) (hw2 : ∀ u, pm.map (fun i => (wr ++ w1 u)[i]?) = (w2 u).map some)
    (hnn : As.length = n) (hsize : ls.size = nL) (hst : st0 = As.reverse ++ rest) (hroom : (rest.map fun v => v.category).sum ≤ 8) (hdg : decode cc pc = .ok (.invokestatic index, 3)) (hf : cells ≤ R.cells ∧ slots ≤ R.slots)
    (kk : ∀ (u : S) (H1 : Heap) (locs1 : List Loc), post u → va_P D vwCl (w2 u) H1 → va_D A (w2 u) → va_S A H0 H1 locs1 → W p l e R s m args below meth c H1 locs1 cells slots Q (F0 m (pc + 3) ls rest)) : W p l e R s m args below meth c H locs cells slots Q (F0 m pc ls st0) := by
  obtain ⟨hPc, hDc⟩ := nd_of hD hP hC hnC
  exact cB_v (va_runS (rest := rest) C hM cw (cPreS hK hPc hDc) rfl hnn hsize hst (lv_room hroom) hdg hf) hP hD hS hA isC isR pm hC hR hn hdis hpm hw2 kk
/-- a table's default, out of its bounds -/
theorem swOut {x : Int32} {lo hi : Int} (h : ∀ k : Int, lo ≤ k → k ≤ hi → ¬ x.toInt = k) : x.toInt < lo ∨ hi < x.toInt := by
  rcases Int.lt_or_le x.toInt lo with h1 | h1
  · exact Or.inl h1
  · rcases Int.lt_or_le hi x.toInt with h2 | h2
    · exact Or.inr h2
    · exact absurd rfl (h _ h1 h2)
end CB
end
section
/-! the class's three tables -/
def tb_LEAST_SETTING : Nat → Int32 := fun j => ([0, 0, 0, 1, 0, 0] : List Int32).getD j 0
def tb_GREATEST_SETTING : Nat → Int32 := fun j => ([9, 4, 1, 16, 1, 2] : List Int32).getD j 0
def tb_LAW_VALUES : Nat → Int32 := fun j => ([3, 2, 1, 3, 2, 3, 2] : List Int32).getD j 0
def ztab (nm : String) (N : Nat) (f : Nat → Int32) (A : Nat → Prop) (U : State) (H : Heap) : Prop := ∃ t : Nat, va_Z RX7 nm "[I" (.ref t) A U H ∧ va_T .int t N (fun j => .int (f j)) A U H
theorem ztab.moved {nm : String} {N : Nat} {f : Nat → Int32} {A : Nat → Prop} {u U : State} {H : Heap} (hvm : u.vm.Alike U.vm) (h : ztab nm N f A u H) : ztab nm N f A U H := by
  obtain ⟨t, h1, h2⟩ := h
  exact ⟨t, h1.moved hvm, h2.moved hvm⟩
theorem ztab.kept {nm : String} {N : Nat} {f : Nat → Int32} {A : Nat → Prop} {U : State} {H H1 : Heap} (h : ztab nm N f A U H) (hq : ∀ a : Nat, a < H.size → ¬ A a → H1[a]? = H[a]?) : ztab nm N f A U H1 := by
  obtain ⟨t, h1, h2⟩ := h
  exact ⟨t, h1.kept hq, h2.kept hq⟩
theorem ztab.narrow {nm : String} {N : Nat} {f : Nat → Int32} {A B : Nat → Prop} {U : State} {H : Heap} (h : ztab nm N f A U H) (hAB : ∀ q, B q → A q) : ztab nm N f B U H := by
  obtain ⟨t, h1, h2⟩ := h
  exact ⟨t, h1.narrow hAB, h2.narrow hAB⟩
def zt_X7_set (A : Nat → Prop) (U : State) (H : Heap) : Prop := ztab "LEAST_SETTING" 6 tb_LEAST_SETTING A U H ∧ ztab "GREATEST_SETTING" 6 tb_GREATEST_SETTING A U H
def zt_X7_law (A : Nat → Prop) (U : State) (H : Heap) : Prop := ztab "LAW_VALUES" 7 tb_LAW_VALUES A U H
abbrev cPreZ (D : va_G) (cA : Nat → ClassId) (sz : Nat) (av : List Value) (ws : va_W) (Z : (Nat → Prop) → State → Heap → Prop) : Array Value → State → Prop := va_Pc av (fun U => (U.heap.size = sz ∧ va_P D vwCl ws U.heap ∧ va_K D vwCl (tyL cA) U ∧ va_D (fun _ => True) ws) ∧ Z (va_A ws sz) U U.heap)
end
section
def bd_J7_fill_53178_5 (n_v : Nat) (post : (Nat → Int32) → Prop) (K5 : Int32 → (Nat → Int32) → Prop) (x1 : Int32) (x2 : Int32) (x3 : Int32) (v_v : (Nat → Int32)) : Prop := (x3 ≤ x2 → (post v_v)) ∧ (¬ x3 ≤ x2 → (vp_in x2 n_v ∧ (K5 (x2 + 1) (upd v_v x2.toNatClampNeg x1))))
def wp_J7_fill_53178_5 (n_v : Nat) (post : (Nat → Int32) → Prop) (x1 : Int32) (x2 : Int32) (x3 : Int32) (v_v : (Nat → Int32)) : Prop := ∃ (I : Nat → Int32 → (Nat → Int32) → Prop) (n : Nat), I n x2 v_v ∧ ∀ (n : Nat) (x2 : Int32) (v_v : (Nat → Int32)), I n x2 v_v → bd_J7_fill_53178_5 n_v post (fun (x2' : Int32) (v_v' : (Nat → Int32)) => ∃ n', n' < n ∧ I n' x2' v_v') x1 x2 x3 v_v
def wp_J7_fill_53178_0 (n_v : Nat) (post : (Nat → Int32) → Prop) (x1 : Int32) (v_v : (Nat → Int32)) : Prop := wp_J7_fill_53178_5 n_v post x1 0 (Int32.ofNat n_v) v_v
abbrev wp_J7_fill_53178 (n_v : Nat) (v_v : (Nat → Int32)) (x1 : Int32) (post : (Nat → Int32) → Prop) : Prop := wp_J7_fill_53178_0 n_v post x1 v_v
def bd_J7_fill_d0a16_6 (n_v : Nat) (post : (Nat → Int64) → Prop) (K6 : Int32 → (Nat → Int64) → Prop) (x1 : Int64) (x3 : Int32) (x4 : Int32) (v_v : (Nat → Int64)) : Prop := (x4 ≤ x3 → (post v_v)) ∧ (¬ x4 ≤ x3 → (vp_in x3 n_v ∧ (K6 (x3 + 1) (vp_updL v_v x3.toNatClampNeg x1))))
def wp_J7_fill_d0a16_6 (n_v : Nat) (post : (Nat → Int64) → Prop) (x1 : Int64) (x3 : Int32) (x4 : Int32) (v_v : (Nat → Int64)) : Prop := ∃ (I : Nat → Int32 → (Nat → Int64) → Prop) (n : Nat), I n x3 v_v ∧ ∀ (n : Nat) (x3 : Int32) (v_v : (Nat → Int64)), I n x3 v_v → bd_J7_fill_d0a16_6 n_v post (fun (x3' : Int32) (v_v' : (Nat → Int64)) => ∃ n', n' < n ∧ I n' x3' v_v') x1 x3 x4 v_v
def wp_J7_fill_d0a16_0 (n_v : Nat) (post : (Nat → Int64) → Prop) (x1 : Int64) (v_v : (Nat → Int64)) : Prop := wp_J7_fill_d0a16_6 n_v post x1 0 (Int32.ofNat n_v) v_v
abbrev wp_J7_fill_d0a16 (n_v : Nat) (v_v : (Nat → Int64)) (x1 : Int64) (post : (Nat → Int64) → Prop) : Prop := wp_J7_fill_d0a16_0 n_v post x1 v_v
def wp_J13_bitCount_95d88_0 (post : Int32 → Prop) (x0 : Int64) : Prop := ∀ y1 : Int64, y1 = (x0 - (((x0.toUInt64 >>> ((1 : Int32).toInt64.toUInt64 &&& Int64.toUInt64 63)).toInt64) &&& 6148914691236517205)) → (∀ y2 : Int64, y2 = ((y1 &&& 3689348814741910323) + (((y1.toUInt64 >>> ((2 : Int32).toInt64.toUInt64 &&& Int64.toUInt64 63)).toInt64) &&& 3689348814741910323)) → (∀ y3 : Int64, y3 = ((y2 + ((y2.toUInt64 >>> ((4 : Int32).toInt64.toUInt64 &&& Int64.toUInt64 63)).toInt64)) &&& 1085102592571150095) → (∀ y4 : Int64, y4 = (y3 + ((y3.toUInt64 >>> ((8 : Int32).toInt64.toUInt64 &&& Int64.toUInt64 63)).toInt64)) → (∀ y5 : Int64, y5 = (y4 + ((y4.toUInt64 >>> ((16 : Int32).toInt64.toUInt64 &&& Int64.toUInt64 63)).toInt64)) → (∀ y6 : Int64, y6 = (y5 + ((y5.toUInt64 >>> ((32 : Int32).toInt64.toUInt64 &&& Int64.toUInt64 63)).toInt64)) → (post (y6.toInt32 &&& 127)))))))
abbrev wp_J13_bitCount_95d88 (x0 : Int64) (post : Int32 → Prop) : Prop := wp_J13_bitCount_95d88_0 post x0
def wp_X2_cell_0 (post : Int32 → Prop) (x0 : Int32) (x1 : Int32) : Prop := post (((x0 &&& 15) <<< (4 &&& 31)) ||| (x1 &&& 15))
abbrev wp_X2_cell (x0 : Int32) (x1 : Int32) (post : Int32 → Prop) : Prop := wp_X2_cell_0 post x0 x1
def wp_X6_of_0 (post : Int32 → Prop) (x0 : Int32) (x1 : Int32) (x2 : Int32) : Prop := post ((x0 ||| (x1 <<< (8 &&& 31))) ||| (x2 <<< (12 &&& 31)))
abbrev wp_X6_of (x0 : Int32) (x1 : Int32) (x2 : Int32) (post : Int32 → Prop) : Prop := wp_X6_of_0 post x0 x1 x2
def wp_X6_source_0 (post : Int32 → Prop) (x0 : Int32) : Prop := post (x0 &&& 255)
abbrev wp_X6_source (x0 : Int32) (post : Int32 → Prop) : Prop := wp_X6_source_0 post x0
def wp_X6_message_0 (post : Int32 → Prop) (x0 : Int32) : Prop := post (((x0.toUInt32 >>> ((8 : Int32).toUInt32 &&& Int32.toUInt32 31)).toInt32) &&& 15)
abbrev wp_X6_message (x0 : Int32) (post : Int32 → Prop) : Prop := wp_X6_message_0 post x0
def wp_X6_doubled_0 (post : Int32 → Prop) (x0 : Int32) : Prop := post (((x0.toUInt32 >>> ((12 : Int32).toUInt32 &&& Int32.toUInt32 31)).toInt32) &&& 1)
abbrev wp_X6_doubled (x0 : Int32) (post : Int32 → Prop) : Prop := wp_X6_doubled_0 post x0
def wp_X7_isWithin_14 (post : Int32 → Prop) : Prop := post 0
def wp_X7_isWithin_0 (post : Int32 → Prop) (x0 : Int32) (x1 : Int32) (x2 : Int32) : Prop := (x0 < x1 → (wp_X7_isWithin_14 post)) ∧ (¬ x0 < x1 → ((x2 < x0 → (wp_X7_isWithin_14 post)) ∧ (¬ x2 < x0 → (post 1))))
abbrev wp_X7_isWithin (x0 : Int32) (x1 : Int32) (x2 : Int32) (post : Int32 → Prop) : Prop := wp_X7_isWithin_0 post x0 x1 x2
def wp_X7_isValue_14 (post : Int32 → Prop) : Prop := post 0
def wp_X7_isValue_0 (post : Int32 → Prop) (x0 : Int32) : Prop := (x0 < 0 → (wp_X7_isValue_14 post)) ∧ (¬ x0 < 0 → ((15 < x0 → (wp_X7_isValue_14 post)) ∧ (¬ 15 < x0 → (post 1))))
abbrev wp_X7_isValue (x0 : Int32) (post : Int32 → Prop) : Prop := wp_X7_isValue_0 post x0
def wp_X8_in_14 (post : Int32 → Prop) : Prop := post 0
def wp_X8_in_0 (post : Int32 → Prop) (x0 : Int32) (x1 : Int32) (x2 : Int32) : Prop := (x0 < x1 → (wp_X8_in_14 post)) ∧ (¬ x0 < x1 → ((x2 < x0 → (wp_X8_in_14 post)) ∧ (¬ x2 < x0 → (post 1))))
abbrev wp_X8_in (x0 : Int32) (x1 : Int32) (x2 : Int32) (post : Int32 → Prop) : Prop := wp_X8_in_0 post x0 x1 x2
def wp_X8_greatestOf_0 (post : Int32 → Prop) (x0 : Int32) : Prop := (x0 = 0 → (post 9)) ∧ (¬ x0 = 0 → ((x0 = 1 → (post 4)) ∧ (¬ x0 = 1 → ((x0 = 2 → (post 1)) ∧ (¬ x0 = 2 → ((x0 = 3 → (post 16)) ∧ (¬ x0 = 3 → ((x0 = 4 → (post 1)) ∧ (¬ x0 = 4 → ((x0 = 5 → (post 2)) ∧ (¬ x0 = 5 → (post (-1)))))))))))))
abbrev wp_X8_greatestOf (x0 : Int32) (post : Int32 → Prop) : Prop := wp_X8_greatestOf_0 post x0
def wp_X8_rowOf_0 (post : Int32 → Prop) (x0 : Int32) : Prop := post (12 + (17 * x0))
abbrev wp_X8_rowOf (x0 : Int32) (post : Int32 → Prop) : Prop := wp_X8_rowOf_0 post x0
def bd_X8_hash_5 (v_v : (Nat → Int32)) (post : Int32 → Prop) (K5 : Int32 → Int32 → Prop) (x1 : Int32) (x2 : Int32) : Prop := (148 ≤ x2 → (post ((x1 ^^^ ((x1.toUInt32 >>> ((15 : Int32).toUInt32 &&& Int32.toUInt32 31)).toInt32)) &&& 2047))) ∧ (¬ 148 ≤ x2 → (vp_in x2 148 ∧ (∀ y2 : Int32, y2 = ((31 * x1) + (v_v x2.toNatClampNeg)) → (K5 y2 (x2 + 1)))))
def wp_X8_hash_5 (v_v : (Nat → Int32)) (post : Int32 → Prop) (x1 : Int32) (x2 : Int32) : Prop := ∃ (I : Nat → Int32 → Int32 → Prop) (n : Nat), I n x1 x2 ∧ ∀ (n : Nat) (x1 : Int32) (x2 : Int32), I n x1 x2 → bd_X8_hash_5 v_v post (fun (x1' : Int32) (x2' : Int32) => ∃ n', n' < n ∧ I n' x1' x2') x1 x2
def wp_X8_hash_0 (v_v : (Nat → Int32)) (post : Int32 → Prop) : Prop := wp_X8_hash_5 v_v post 17 0
abbrev wp_X8_hash (v_v : (Nat → Int32)) (post : Int32 → Prop) : Prop := wp_X8_hash_0 v_v post
def wp_X1_hasVertex_16 (g_vertices : Int32) (post : Int32 → Prop) : Prop := post 0
def wp_X1_hasVertex_0 (g_vertices : Int32) (post : Int32 → Prop) (x1 : Int32) : Prop := (x1 < 0 → (wp_X1_hasVertex_16 g_vertices post)) ∧ (¬ x1 < 0 → ((g_vertices ≤ x1 → (wp_X1_hasVertex_16 g_vertices post)) ∧ (¬ g_vertices ≤ x1 → (post 1))))
abbrev wp_X1_hasVertex (g_vertices : Int32) (x1 : Int32) (post : Int32 → Prop) : Prop := wp_X1_hasVertex_0 g_vertices post x1
def wp_X1_allArcs_0 (g_arcs : Int32) (post : Int32 → Prop) : Prop := post ((1 <<< (g_arcs &&& 31)) - 1)
abbrev wp_X1_allArcs (g_arcs : Int32) (post : Int32 → Prop) : Prop := wp_X1_allArcs_0 g_arcs post
def wp_X1_addVertex_0 (post : Int32 → Int32 → (Nat → Int32) → Prop) (x1 : Int32) (g_vertices : Int32) (g_begins : (Nat → Int32)) : Prop := (g_vertices < 5 → (vp_in g_vertices 5 ∧ (post ((g_vertices + 1) - 1) (g_vertices + 1) (upd g_begins g_vertices.toNatClampNeg x1)))) ∧ (¬ g_vertices < 5 → (post (-104) g_vertices g_begins))
abbrev wp_X1_addVertex (g_vertices : Int32) (g_begins : (Nat → Int32)) (x1 : Int32) (post : Int32 → Int32 → (Nat → Int32) → Prop) : Prop := wp_X1_addVertex_0 post x1 g_vertices g_begins
def wp_X1_addArc_0 (post : Int32 → Int32 → (Nat → Int32) → (Nat → Int32) → (Nat → Int32) → Prop) (x1 : Int32) (x2 : Int32) (x3 : Int32) (g_arcs : Int32) (g_arcFrom : (Nat → Int32)) (g_arcTo : (Nat → Int32)) (g_weights : (Nat → Int32)) : Prop := (g_arcs < 8 → (vp_in g_arcs 8 ∧ (vp_in g_arcs 8 ∧ (vp_in g_arcs 8 ∧ (post ((g_arcs + 1) - 1) (g_arcs + 1) (upd g_arcFrom g_arcs.toNatClampNeg x1) (upd g_arcTo g_arcs.toNatClampNeg x2) (upd g_weights g_arcs.toNatClampNeg x3)))))) ∧ (¬ g_arcs < 8 → (post (-104) g_arcs g_arcFrom g_arcTo g_weights))
abbrev wp_X1_addArc (g_arcs : Int32) (g_arcFrom : (Nat → Int32)) (g_arcTo : (Nat → Int32)) (g_weights : (Nat → Int32)) (x1 : Int32) (x2 : Int32) (x3 : Int32) (post : Int32 → Int32 → (Nat → Int32) → (Nat → Int32) → (Nat → Int32) → Prop) : Prop := wp_X1_addArc_0 post x1 x2 x3 g_arcs g_arcFrom g_arcTo g_weights
def wp_X1_addFirst_0 (post : Int32 → Int32 → (Nat → Int32) → (Nat → Int32) → Prop) (x1 : Int32) (x2 : Int32) (g_firsts : Int32) (g_firstTo : (Nat → Int32)) (g_firstValue : (Nat → Int32)) : Prop := (g_firsts < 4 → (vp_in g_firsts 4 ∧ (vp_in g_firsts 4 ∧ (post ((g_firsts + 1) - 1) (g_firsts + 1) (upd g_firstTo g_firsts.toNatClampNeg x1) (upd g_firstValue g_firsts.toNatClampNeg x2))))) ∧ (¬ g_firsts < 4 → (post (-104) g_firsts g_firstTo g_firstValue))
abbrev wp_X1_addFirst (g_firsts : Int32) (g_firstTo : (Nat → Int32)) (g_firstValue : (Nat → Int32)) (x1 : Int32) (x2 : Int32) (post : Int32 → Int32 → (Nat → Int32) → (Nat → Int32) → Prop) : Prop := wp_X1_addFirst_0 post x1 x2 g_firsts g_firstTo g_firstValue
def wp_X2_tell_0 (post : Int32 → (Nat → Int32) → Prop) (x1 : Int32) (x2 : Int32) (x3 : Int32) (r_told : (Nat → Int32)) : Prop := wp_X2_cell x1 x2 (fun (r1 : Int32) => vp_in r1 256 ∧ (∀ y3 : Int32, y3 = (r_told r1.toNatClampNeg) → (wp_X2_cell x1 x2 (fun (r4 : Int32) => vp_in r4 256 ∧ (post y3 (upd r_told r4.toNatClampNeg x3))))))
abbrev wp_X2_tell (r_told : (Nat → Int32)) (x1 : Int32) (x2 : Int32) (x3 : Int32) (post : Int32 → (Nat → Int32) → Prop) : Prop := wp_X2_tell_0 post x1 x2 x3 r_told
def wp_X2_folded_0 (r_settings : (Nat → Int32)) (r_told : (Nat → Int32)) (post : Int32 → Prop) (x1 : Int32) (x2 : Int32) : Prop := vp_in 0 6 ∧ (((r_settings (0 : Int32).toNatClampNeg) = 0 → (post ((x1 + x2) &&& 15))) ∧ (¬ (r_settings (0 : Int32).toNatClampNeg) = 0 → (((r_settings (0 : Int32).toNatClampNeg) = 1 → (post (if x2 < x1 then x2 else x1))) ∧ (¬ (r_settings (0 : Int32).toNatClampNeg) = 1 → (((r_settings (0 : Int32).toNatClampNeg) = 2 → (post (if x1 < x2 then x2 else x1))) ∧ (¬ (r_settings (0 : Int32).toNatClampNeg) = 2 → (((r_settings (0 : Int32).toNatClampNeg) = 3 → (post (x1 ^^^ x2))) ∧ (¬ (r_settings (0 : Int32).toNatClampNeg) = 3 → (((r_settings (0 : Int32).toNatClampNeg) = 4 → (post x2)) ∧ (¬ (r_settings (0 : Int32).toNatClampNeg) = 4 → (((r_settings (0 : Int32).toNatClampNeg) = 5 → (post x1)) ∧ (¬ (r_settings (0 : Int32).toNatClampNeg) = 5 → (((r_settings (0 : Int32).toNatClampNeg) = 6 → (post (((2 * x1) + x2) &&& 15))) ∧ (¬ (r_settings (0 : Int32).toNatClampNeg) = 6 → (((r_settings (0 : Int32).toNatClampNeg) = 7 → (post (x1 &&& x2))) ∧ (¬ (r_settings (0 : Int32).toNatClampNeg) = 7 → (((r_settings (0 : Int32).toNatClampNeg) = 8 → (post (x1 ||| x2))) ∧ (¬ (r_settings (0 : Int32).toNatClampNeg) = 8 → (wp_X2_cell x1 x2 (fun (r2 : Int32) => vp_in r2 256 ∧ (post (r_told r2.toNatClampNeg))))))))))))))))))))))
abbrev wp_X2_folded (r_settings : (Nat → Int32)) (r_told : (Nat → Int32)) (x1 : Int32) (x2 : Int32) (post : Int32 → Prop) : Prop := wp_X2_folded_0 r_settings r_told post x1 x2
def wp_X2_sentOut_0 (r_settings : (Nat → Int32)) (post : Int32 → Prop) (x1 : Int32) (x2 : Int32) : Prop := vp_in 1 6 ∧ (((r_settings (1 : Int32).toNatClampNeg) = 0 → (post x1)) ∧ (¬ (r_settings (1 : Int32).toNatClampNeg) = 0 → (((r_settings (1 : Int32).toNatClampNeg) = 1 → (post ((x1 + x2) &&& 15))) ∧ (¬ (r_settings (1 : Int32).toNatClampNeg) = 1 → (((r_settings (1 : Int32).toNatClampNeg) = 2 → (post (if x2 < x1 then x2 else x1))) ∧ (¬ (r_settings (1 : Int32).toNatClampNeg) = 2 → (((r_settings (1 : Int32).toNatClampNeg) = 3 → (post (if x1 < x2 then x2 else x1))) ∧ (¬ (r_settings (1 : Int32).toNatClampNeg) = 3 → (post ((x1 * x2) &&& 15))))))))))
abbrev wp_X2_sentOut (r_settings : (Nat → Int32)) (x1 : Int32) (x2 : Int32) (post : Int32 → Prop) : Prop := wp_X2_sentOut_0 r_settings post x1 x2
def wp_X2_lawHolds_191 (r_settings : (Nat → Int32)) (r_told : (Nat → Int32)) (post : Int32 → Prop) : Prop := post 1
def wp_X2_lawHolds_0 (r_settings : (Nat → Int32)) (r_told : (Nat → Int32)) (post : Int32 → Prop) (x1 : Int32) (x2 : Int32) (x3 : Int32) (x4 : Int32) : Prop := (x1 = 0 → (wp_X2_folded r_settings r_told x2 x3 (fun (r1 : Int32) => wp_X2_folded r_settings r_told r1 x4 (fun (r2 : Int32) => wp_X2_folded r_settings r_told x3 x4 (fun (r3 : Int32) => wp_X2_folded r_settings r_told x2 r3 (fun (r4 : Int32) => (¬ r2 = r4 → (post 0)) ∧ (r2 = r4 → (post 1)))))))) ∧ (¬ x1 = 0 → ((x1 = 1 → (wp_X2_folded r_settings r_told x2 x3 (fun (r5 : Int32) => wp_X2_folded r_settings r_told x3 x2 (fun (r6 : Int32) => (¬ r5 = r6 → (post 0)) ∧ (r5 = r6 → (post 1)))))) ∧ (¬ x1 = 1 → ((x1 = 2 → (wp_X2_folded r_settings r_told x2 x2 (fun (r7 : Int32) => (¬ r7 = x2 → (post 0)) ∧ (r7 = x2 → (post 1))))) ∧ (¬ x1 = 2 → ((x1 = 3 → (wp_X2_folded r_settings r_told x2 x3 (fun (r8 : Int32) => wp_X2_folded r_settings r_told r8 x4 (fun (r9 : Int32) => wp_X2_folded r_settings r_told x2 x4 (fun (r10 : Int32) => wp_X2_folded r_settings r_told r10 x3 (fun (r11 : Int32) => (¬ r9 = r11 → (post 0)) ∧ (r9 = r11 → (post 1)))))))) ∧ (¬ x1 = 3 → ((x1 = 4 → (wp_X2_folded r_settings r_told x2 x3 (fun (r12 : Int32) => wp_X2_folded r_settings r_told r12 x3 (fun (r13 : Int32) => wp_X2_folded r_settings r_told x2 x3 (fun (r14 : Int32) => (¬ r13 = r14 → (post 0)) ∧ (r13 = r14 → (post 1))))))) ∧ (¬ x1 = 4 → ((x1 = 5 → ((x3 < x2 → (wp_X2_lawHolds_191 r_settings r_told post)) ∧ (¬ x3 < x2 → (wp_X2_folded r_settings r_told x2 x4 (fun (r15 : Int32) => wp_X2_folded r_settings r_told x3 x4 (fun (r16 : Int32) => (r16 < r15 → (post 0)) ∧ (¬ r16 < r15 → (wp_X2_lawHolds_191 r_settings r_told post)))))))) ∧ (¬ x1 = 5 → (wp_X2_folded r_settings r_told x2 x3 (fun (r17 : Int32) => (x2 < r17 → (post 0)) ∧ (¬ x2 < r17 → (post 1)))))))))))))))
abbrev wp_X2_lawHolds (r_settings : (Nat → Int32)) (r_told : (Nat → Int32)) (x1 : Int32) (x2 : Int32) (x3 : Int32) (x4 : Int32) (post : Int32 → Prop) : Prop := wp_X2_lawHolds_0 r_settings r_told post x1 x2 x3 x4
def bd_X4_begin_11 (g_vertices : Int32) (g_begins : (Nat → Int32)) (post : Int64 → Int64 → (Nat → Int64) → Prop) (K11 : Int32 → Int64 → Prop) (x3 : Int32) (t_head : Int64) (t_lengths : Int64) (t_rows : (Nat → Int64)) : Prop := (g_vertices ≤ x3 → (wp_J7_fill_d0a16 8 t_rows 0 (fun (t_rows_1 : (Nat → Int64)) => post t_head (0 : Int64) t_rows_1))) ∧ (¬ g_vertices ≤ x3 → (vp_in x3 5 ∧ (K11 (x3 + 1) (t_head ||| ((g_begins x3.toNatClampNeg).toInt64 <<< ((4 * x3).toInt64 &&& 63))))))
def wp_X4_begin_11 (g_vertices : Int32) (g_begins : (Nat → Int32)) (post : Int64 → Int64 → (Nat → Int64) → Prop) (x3 : Int32) (t_head : Int64) (t_lengths : Int64) (t_rows : (Nat → Int64)) : Prop := ∃ (I : Nat → Int32 → Int64 → Prop) (n : Nat), I n x3 t_head ∧ ∀ (n : Nat) (x3 : Int32) (t_head : Int64), I n x3 t_head → bd_X4_begin_11 g_vertices g_begins post (fun (x3' : Int32) (t_head' : Int64) => ∃ n', n' < n ∧ I n' x3' t_head') x3 t_head t_lengths t_rows
def wp_X4_begin_0 (g_vertices : Int32) (g_begins : (Nat → Int32)) (post : Int64 → Int64 → (Nat → Int64) → Prop) (x2 : Int32) (t_head : Int64) (t_lengths : Int64) (t_rows : (Nat → Int64)) : Prop := wp_X4_begin_11 g_vertices g_begins post 0 (x2.toInt64 <<< ((49 : Int32).toInt64 &&& 63)) t_lengths t_rows
abbrev wp_X4_begin (t_head : Int64) (t_lengths : Int64) (t_rows : (Nat → Int64)) (g_vertices : Int32) (g_begins : (Nat → Int32)) (x2 : Int32) (post : Int64 → Int64 → (Nat → Int64) → Prop) : Prop := wp_X4_begin_0 g_vertices g_begins post x2 t_head t_lengths t_rows
def wp_X4_copy_0 (o_head : Int64) (o_lengths : Int64) (o_rows : (Nat → Int64)) (post : Int64 → Int64 → (Nat → Int64) → Prop) (t_head : Int64) (t_lengths : Int64) (t_rows : (Nat → Int64)) : Prop := ¬ (0 : Int32) < 0 ∧ ¬ (0 : Int32) < 0 ∧ ¬ (8 : Int32) < 0 ∧ (0 : Int32).toNatClampNeg + (8 : Int32).toNatClampNeg ≤ 8 ∧ (0 : Int32).toNatClampNeg + (8 : Int32).toNatClampNeg ≤ 8 ∧ (post o_head o_lengths (va_cpy o_rows t_rows (0 : Int32).toNatClampNeg (0 : Int32).toNatClampNeg (8 : Int32).toNatClampNeg))
abbrev wp_X4_copy (t_head : Int64) (t_lengths : Int64) (t_rows : (Nat → Int64)) (o_head : Int64) (o_lengths : Int64) (o_rows : (Nat → Int64)) (post : Int64 → Int64 → (Nat → Int64) → Prop) : Prop := wp_X4_copy_0 o_head o_lengths o_rows post t_head t_lengths t_rows
def wp_X4_allValues_0 (t_head : Int64) (post : Int32 → Prop) : Prop := post (t_head.toInt32 &&& 1048575)
abbrev wp_X4_allValues (t_head : Int64) (post : Int32 → Prop) : Prop := wp_X4_allValues_0 t_head post
def wp_X4_valueOf_0 (t_head : Int64) (post : Int32 → Prop) (x1 : Int32) : Prop := post (((t_head.toUInt64 >>> ((4 * x1).toInt64.toUInt64 &&& Int64.toUInt64 63)).toInt64).toInt32 &&& 15)
abbrev wp_X4_valueOf (t_head : Int64) (x1 : Int32) (post : Int32 → Prop) : Prop := wp_X4_valueOf_0 t_head post x1
def wp_X4_change_0 (post : Int64 → Prop) (x1 : Int32) (x2 : Int32) (t_head : Int64) : Prop := wp_X4_valueOf t_head x1 (fun (r1 : Int32) => post (t_head ^^^ ((r1 ^^^ x2).toInt64 <<< ((4 * x1).toInt64 &&& 63))))
abbrev wp_X4_change (t_head : Int64) (x1 : Int32) (x2 : Int32) (post : Int64 → Prop) : Prop := wp_X4_change_0 post x1 x2 t_head
def wp_X4_sentBy_0 (t_head : Int64) (post : Int32 → Prop) (x1 : Int32) : Prop := post (((t_head.toUInt64 >>> ((20 + (5 * x1)).toInt64.toUInt64 &&& Int64.toUInt64 63)).toInt64).toInt32 &&& 31)
abbrev wp_X4_sentBy (t_head : Int64) (x1 : Int32) (post : Int32 → Prop) : Prop := wp_X4_sentBy_0 t_head post x1
def wp_X4_countSend_0 (post : Int64 → Prop) (x1 : Int32) (t_head : Int64) : Prop := post (t_head + ((1 : Int64) <<< ((20 + (5 * x1)).toInt64 &&& 63)))
abbrev wp_X4_countSend (t_head : Int64) (x1 : Int32) (post : Int64 → Prop) : Prop := wp_X4_countSend_0 post x1 t_head
def wp_X4_hasCome_0 (t_head : Int64) (post : Int32 → Prop) (x1 : Int32) : Prop := ((lg_cmp (((t_head.toUInt64 >>> ((45 + x1).toInt64.toUInt64 &&& Int64.toUInt64 63)).toInt64) &&& 1) 0) = 0 → (post 0)) ∧ (¬ (lg_cmp (((t_head.toUInt64 >>> ((45 + x1).toInt64.toUInt64 &&& Int64.toUInt64 63)).toInt64) &&& 1) 0) = 0 → (post 1))
abbrev wp_X4_hasCome (t_head : Int64) (x1 : Int32) (post : Int32 → Prop) : Prop := wp_X4_hasCome_0 t_head post x1
def wp_X4_markCome_0 (post : Int64 → Prop) (x1 : Int32) (t_head : Int64) : Prop := post (t_head ||| ((1 : Int64) <<< ((45 + x1).toInt64 &&& 63)))
abbrev wp_X4_markCome (t_head : Int64) (x1 : Int32) (post : Int64 → Prop) : Prop := wp_X4_markCome_0 post x1 t_head
def wp_X4_doublesLeft_0 (t_head : Int64) (post : Int32 → Prop) : Prop := post (((t_head.toUInt64 >>> ((49 : Int32).toInt64.toUInt64 &&& Int64.toUInt64 63)).toInt64).toInt32 &&& 3)
abbrev wp_X4_doublesLeft (t_head : Int64) (post : Int32 → Prop) : Prop := wp_X4_doublesLeft_0 t_head post
def wp_X4_useDouble_0 (post : Int64 → Prop) (t_head : Int64) : Prop := post (t_head - 562949953421312)
abbrev wp_X4_useDouble (t_head : Int64) (post : Int64 → Prop) : Prop := wp_X4_useDouble_0 post t_head
def wp_X4_underWay_0 (t_lengths : Int64) (post : Int32 → Prop) (x1 : Int32) : Prop := post (((t_lengths.toUInt64 >>> ((5 * x1).toInt64.toUInt64 &&& Int64.toUInt64 63)).toInt64).toInt32 &&& 31)
abbrev wp_X4_underWay (t_lengths : Int64) (x1 : Int32) (post : Int32 → Prop) : Prop := wp_X4_underWay_0 t_lengths post x1
def wp_X4_messageAt_0 (t_rows : (Nat → Int64)) (post : Int32 → Prop) (x1 : Int32) (x2 : Int32) : Prop := vp_in x1 8 ∧ (post ((((t_rows x1.toNatClampNeg).toUInt64 >>> ((4 * x2).toInt64.toUInt64 &&& Int64.toUInt64 63)).toInt64).toInt32 &&& 15))
abbrev wp_X4_messageAt (t_rows : (Nat → Int64)) (x1 : Int32) (x2 : Int32) (post : Int32 → Prop) : Prop := wp_X4_messageAt_0 t_rows post x1 x2
def wp_X4_take_0 (post : Int64 → (Nat → Int64) → Prop) (x1 : Int32) (x2 : Int32) (t_lengths : Int64) (t_rows : (Nat → Int64)) : Prop := vp_in x1 8 ∧ (∀ y2 : Int64, y2 = (t_rows x1.toNatClampNeg) → (∀ y3 : Int64, y3 = (y2 &&& (((1 : Int64) <<< ((4 * x2).toInt64 &&& 63)) - 1)) → (∀ y4 : Int64, y4 = (((((y2.toUInt64 >>> ((4 * x2).toInt64.toUInt64 &&& Int64.toUInt64 63)).toInt64).toUInt64 >>> ((4 : Int32).toInt64.toUInt64 &&& Int64.toUInt64 63)).toInt64) <<< ((4 * x2).toInt64 &&& 63)) → (vp_in x1 8 ∧ (post (t_lengths - ((1 : Int64) <<< ((5 * x1).toInt64 &&& 63))) (vp_updL t_rows x1.toNatClampNeg (y3 ||| y4)))))))
abbrev wp_X4_take (t_lengths : Int64) (t_rows : (Nat → Int64)) (x1 : Int32) (x2 : Int32) (post : Int64 → (Nat → Int64) → Prop) : Prop := wp_X4_take_0 post x1 x2 t_lengths t_rows
def wp_X4_put_47 (post : Int64 → (Nat → Int64) → Prop) (x1 : Int32) (x2 : Int32) (x5 : Int32) (t_lengths : Int64) (t_rows : (Nat → Int64)) : Prop := vp_in x1 8 ∧ (∀ y4 : Int64, y4 = (t_rows x1.toNatClampNeg) → (∀ y5 : Int64, y5 = (y4 &&& (((1 : Int64) <<< ((4 * x5).toInt64 &&& 63)) - 1)) → (∀ y6 : Int64, y6 = ((((y4.toUInt64 >>> ((4 * x5).toInt64.toUInt64 &&& Int64.toUInt64 63)).toInt64) <<< ((4 * x5).toInt64 &&& 63)) <<< ((4 : Int32).toInt64 &&& 63)) → (vp_in x1 8 ∧ (post (t_lengths + ((1 : Int64) <<< ((5 * x1).toInt64 &&& 63))) (vp_updL t_rows x1.toNatClampNeg ((y5 ||| (x2.toInt64 <<< ((4 * x5).toInt64 &&& 63))) ||| y6)))))))
def bd_X4_put_23 (post : Int64 → (Nat → Int64) → Prop) (K23 : Int32 → Prop) (x1 : Int32) (x2 : Int32) (x5 : Int32) (t_lengths : Int64) (t_rows : (Nat → Int64)) : Prop := (x5 ≤ 0 → (wp_X4_put_47 post x1 x2 x5 t_lengths t_rows)) ∧ (¬ x5 ≤ 0 → (wp_X4_messageAt t_rows x1 (x5 - 1) (fun (r2 : Int32) => (r2 ≤ x2 → (wp_X4_put_47 post x1 x2 x5 t_lengths t_rows)) ∧ (¬ r2 ≤ x2 → (K23 (x5 + (-1)))))))
def wp_X4_put_23 (post : Int64 → (Nat → Int64) → Prop) (x1 : Int32) (x2 : Int32) (x5 : Int32) (t_lengths : Int64) (t_rows : (Nat → Int64)) : Prop := ∃ (I : Nat → Int32 → Prop) (n : Nat), I n x5 ∧ ∀ (n : Nat) (x5 : Int32), I n x5 → bd_X4_put_23 post (fun (x5' : Int32) => ∃ n', n' < n ∧ I n' x5') x1 x2 x5 t_lengths t_rows
def wp_X4_put_0 (post : Int64 → (Nat → Int64) → Prop) (x1 : Int32) (x2 : Int32) (x3 : Int32) (t_lengths : Int64) (t_rows : (Nat → Int64)) : Prop := wp_X4_underWay t_lengths x1 (fun (r1 : Int32) => (r1 < 16 → ((¬ x3 = 0 → (wp_X4_put_47 post x1 x2 r1 t_lengths t_rows)) ∧ (x3 = 0 → (wp_X4_put_23 post x1 x2 r1 t_lengths t_rows)))) ∧ (¬ r1 < 16 → (post t_lengths t_rows)))
abbrev wp_X4_put (t_lengths : Int64) (t_rows : (Nat → Int64)) (x1 : Int32) (x2 : Int32) (x3 : Int32) (post : Int64 → (Nat → Int64) → Prop) : Prop := wp_X4_put_0 post x1 x2 x3 t_lengths t_rows
def bd_X4_pending_19 (t_head : Int64) (t_lengths : Int64) (post : Int32 → Prop) (K19 : Int32 → Int32 → Prop) (x2 : Int32) (x3 : Int32) : Prop := (8 ≤ x3 → (post x2)) ∧ (¬ 8 ≤ x3 → (wp_X4_underWay t_lengths x3 (fun (r2 : Int32) => K19 (x2 + r2) (x3 + 1))))
def wp_X4_pending_19 (t_head : Int64) (t_lengths : Int64) (post : Int32 → Prop) (x2 : Int32) (x3 : Int32) : Prop := ∃ (I : Nat → Int32 → Int32 → Prop) (n : Nat), I n x2 x3 ∧ ∀ (n : Nat) (x2 : Int32) (x3 : Int32), I n x2 x3 → bd_X4_pending_19 t_head t_lengths post (fun (x2' : Int32) (x3' : Int32) => ∃ n', n' < n ∧ I n' x2' x3') x2 x3
def wp_X4_pending_0 (t_head : Int64) (t_lengths : Int64) (post : Int32 → Prop) (x1 : Int32) : Prop := wp_J13_bitCount_95d88 (((t_head.toUInt64 >>> ((45 : Int32).toInt64.toUInt64 &&& Int64.toUInt64 63)).toInt64) &&& 15) (fun (r1 : Int32) => wp_X4_pending_19 t_head t_lengths post (x1 - r1) 0)
abbrev wp_X4_pending (t_head : Int64) (t_lengths : Int64) (x1 : Int32) (post : Int32 → Prop) : Prop := wp_X4_pending_0 t_head t_lengths post x1
def bd_X4_hash_20 (t_head : Int64) (t_lengths : Int64) (t_rows : (Nat → Int64)) (post : Int32 → Prop) (K20 : Int64 → Int32 → Prop) (x1 : Int64) (x3 : Int32) : Prop := (8 ≤ x3 → (post (((x1.toUInt64 >>> ((33 : Int32).toInt64.toUInt64 &&& Int64.toUInt64 63)).toInt64).toInt32))) ∧ (¬ 8 ≤ x3 → (vp_in x3 8 ∧ (∀ y3 : Int64, y3 = (((x1 ^^^ ((x1.toUInt64 >>> ((29 : Int32).toInt64.toUInt64 &&& Int64.toUInt64 63)).toInt64)) ^^^ (t_rows x3.toNatClampNeg)) * (-7046029254386353131)) → (K20 y3 (x3 + 1)))))
def wp_X4_hash_20 (t_head : Int64) (t_lengths : Int64) (t_rows : (Nat → Int64)) (post : Int32 → Prop) (x1 : Int64) (x3 : Int32) : Prop := ∃ (I : Nat → Int64 → Int32 → Prop) (n : Nat), I n x1 x3 ∧ ∀ (n : Nat) (x1 : Int64) (x3 : Int32), I n x1 x3 → bd_X4_hash_20 t_head t_lengths t_rows post (fun (x1' : Int64) (x3' : Int32) => ∃ n', n' < n ∧ I n' x1' x3') x1 x3
def wp_X4_hash_0 (t_head : Int64) (t_lengths : Int64) (t_rows : (Nat → Int64)) (post : Int32 → Prop) : Prop := ∀ y1 : Int64, y1 = ((t_head ^^^ (t_lengths * (-7046029254386353131))) * (-7046029254386353131)) → (wp_X4_hash_20 t_head t_lengths t_rows post y1 0)
abbrev wp_X4_hash (t_head : Int64) (t_lengths : Int64) (t_rows : (Nat → Int64)) (post : Int32 → Prop) : Prop := wp_X4_hash_0 t_head t_lengths t_rows post
def wp_X5_clear_0 (post : Int32 → (Nat → Int32) → Prop) (f_count : Int32) (f_slots : (Nat → Int32)) : Prop := wp_J7_fill_53178 1024 f_slots 0 (fun (f_slots_1 : (Nat → Int32)) => post (0 : Int32) f_slots_1)
abbrev wp_X5_clear (f_count : Int32) (f_slots : (Nat → Int32)) (post : Int32 → (Nat → Int32) → Prop) : Prop := wp_X5_clear_0 post f_count f_slots
def bd_X5_isLike_32 (f_heads : (Nat → Int64)) (f_lengths : (Nat → Int64)) (f_rows : (Nat → Int64)) (t_head : Int64) (t_lengths : Int64) (t_rows : (Nat → Int64)) (post : Int32 → Prop) (K32 : Int32 → Prop) (x1 : Int32) (x3 : Int32) : Prop := (8 ≤ x3 → (post 1)) ∧ (¬ 8 ≤ x3 → (vp_in ((x1 * 8) + x3) 4800 ∧ (vp_in x3 8 ∧ (((lg_cmp (f_rows ((x1 * 8) + x3).toNatClampNeg) (t_rows x3.toNatClampNeg)) = 0 → (K32 (x3 + 1))) ∧ (¬ (lg_cmp (f_rows ((x1 * 8) + x3).toNatClampNeg) (t_rows x3.toNatClampNeg)) = 0 → (post 0))))))
def wp_X5_isLike_32 (f_heads : (Nat → Int64)) (f_lengths : (Nat → Int64)) (f_rows : (Nat → Int64)) (t_head : Int64) (t_lengths : Int64) (t_rows : (Nat → Int64)) (post : Int32 → Prop) (x1 : Int32) (x3 : Int32) : Prop := ∃ (I : Nat → Int32 → Prop) (n : Nat), I n x3 ∧ ∀ (n : Nat) (x3 : Int32), I n x3 → bd_X5_isLike_32 f_heads f_lengths f_rows t_head t_lengths t_rows post (fun (x3' : Int32) => ∃ n', n' < n ∧ I n' x3') x1 x3
def wp_X5_isLike_0 (f_heads : (Nat → Int64)) (f_lengths : (Nat → Int64)) (f_rows : (Nat → Int64)) (t_head : Int64) (t_lengths : Int64) (t_rows : (Nat → Int64)) (post : Int32 → Prop) (x1 : Int32) : Prop := vp_in x1 600 ∧ ((¬ (lg_cmp (f_heads x1.toNatClampNeg) t_head) = 0 → (post 0)) ∧ ((lg_cmp (f_heads x1.toNatClampNeg) t_head) = 0 → (vp_in x1 600 ∧ (((lg_cmp (f_lengths x1.toNatClampNeg) t_lengths) = 0 → (wp_X5_isLike_32 f_heads f_lengths f_rows t_head t_lengths t_rows post x1 0)) ∧ (¬ (lg_cmp (f_lengths x1.toNatClampNeg) t_lengths) = 0 → (post 0))))))
abbrev wp_X5_isLike (f_heads : (Nat → Int64)) (f_lengths : (Nat → Int64)) (f_rows : (Nat → Int64)) (t_head : Int64) (t_lengths : Int64) (t_rows : (Nat → Int64)) (x1 : Int32) (post : Int32 → Prop) : Prop := wp_X5_isLike_0 f_heads f_lengths f_rows t_head t_lengths t_rows post x1
def bd_X5_freeSlot_7 (f_heads : (Nat → Int64)) (f_lengths : (Nat → Int64)) (f_rows : (Nat → Int64)) (f_slots : (Nat → Int32)) (t_head : Int64) (t_lengths : Int64) (t_rows : (Nat → Int64)) (post : Int32 → Prop) (K7 : Int32 → Prop) (x2 : Int32) (x3 : Int32) : Prop := (1024 ≤ x3 → (post (-1))) ∧ (¬ 1024 ≤ x3 → (vp_in ((x2 + x3) &&& 1023) 1024 ∧ ((¬ (f_slots ((x2 + x3) &&& 1023).toNatClampNeg) = 0 → (vp_in ((x2 + x3) &&& 1023) 1024 ∧ (wp_X5_isLike f_heads f_lengths f_rows t_head t_lengths t_rows ((f_slots ((x2 + x3) &&& 1023).toNatClampNeg) - 1) (fun (r4 : Int32) => (r4 = 0 → (K7 (x3 + 1))) ∧ (¬ r4 = 0 → (post (-1))))))) ∧ ((f_slots ((x2 + x3) &&& 1023).toNatClampNeg) = 0 → (post ((x2 + x3) &&& 1023))))))
def wp_X5_freeSlot_7 (f_heads : (Nat → Int64)) (f_lengths : (Nat → Int64)) (f_rows : (Nat → Int64)) (f_slots : (Nat → Int32)) (t_head : Int64) (t_lengths : Int64) (t_rows : (Nat → Int64)) (post : Int32 → Prop) (x2 : Int32) (x3 : Int32) : Prop := ∃ (I : Nat → Int32 → Prop) (n : Nat), I n x3 ∧ ∀ (n : Nat) (x3 : Int32), I n x3 → bd_X5_freeSlot_7 f_heads f_lengths f_rows f_slots t_head t_lengths t_rows post (fun (x3' : Int32) => ∃ n', n' < n ∧ I n' x3') x2 x3
def wp_X5_freeSlot_0 (f_heads : (Nat → Int64)) (f_lengths : (Nat → Int64)) (f_rows : (Nat → Int64)) (f_slots : (Nat → Int32)) (t_head : Int64) (t_lengths : Int64) (t_rows : (Nat → Int64)) (post : Int32 → Prop) : Prop := wp_X4_hash t_head t_lengths t_rows (fun (r1 : Int32) => wp_X5_freeSlot_7 f_heads f_lengths f_rows f_slots t_head t_lengths t_rows post r1 0)
abbrev wp_X5_freeSlot (f_heads : (Nat → Int64)) (f_lengths : (Nat → Int64)) (f_rows : (Nat → Int64)) (f_slots : (Nat → Int32)) (t_head : Int64) (t_lengths : Int64) (t_rows : (Nat → Int64)) (post : Int32 → Prop) : Prop := wp_X5_freeSlot_0 f_heads f_lengths f_rows f_slots t_head t_lengths t_rows post
def wp_X5_add_0 (t_head : Int64) (t_lengths : Int64) (t_rows : (Nat → Int64)) (post : Int32 → (Nat → Int64) → (Nat → Int64) → (Nat → Int64) → (Nat → Int32) → Prop) (x2 : Int32) (f_count : Int32) (f_heads : (Nat → Int64)) (f_lengths : (Nat → Int64)) (f_rows : (Nat → Int64)) (f_slots : (Nat → Int32)) : Prop := (f_count < 600 → (vp_in f_count 600 ∧ (vp_in f_count 600 ∧ (¬ (0 : Int32) < 0 ∧ ¬ (f_count * 8) < 0 ∧ ¬ (8 : Int32) < 0 ∧ (0 : Int32).toNatClampNeg + (8 : Int32).toNatClampNeg ≤ 8 ∧ (f_count * 8).toNatClampNeg + (8 : Int32).toNatClampNeg ≤ 4800 ∧ (vp_in x2 1024 ∧ (post (f_count + 1) (vp_updL f_heads f_count.toNatClampNeg t_head) (vp_updL f_lengths f_count.toNatClampNeg t_lengths) (va_cpy t_rows f_rows (0 : Int32).toNatClampNeg (f_count * 8).toNatClampNeg (8 : Int32).toNatClampNeg) (upd f_slots x2.toNatClampNeg (f_count + 1)))))))) ∧ (¬ f_count < 600 → (post f_count f_heads f_lengths f_rows f_slots))
abbrev wp_X5_add (f_count : Int32) (f_heads : (Nat → Int64)) (f_lengths : (Nat → Int64)) (f_rows : (Nat → Int64)) (f_slots : (Nat → Int32)) (t_head : Int64) (t_lengths : Int64) (t_rows : (Nat → Int64)) (x2 : Int32) (post : Int32 → (Nat → Int64) → (Nat → Int64) → (Nat → Int64) → (Nat → Int32) → Prop) : Prop := wp_X5_add_0 t_head t_lengths t_rows post x2 f_count f_heads f_lengths f_rows f_slots
def wp_X5_load_0 (f_heads : (Nat → Int64)) (f_lengths : (Nat → Int64)) (f_rows : (Nat → Int64)) (post : Int64 → Int64 → (Nat → Int64) → Prop) (x1 : Int32) (t_head : Int64) (t_lengths : Int64) (t_rows : (Nat → Int64)) : Prop := vp_in x1 600 ∧ (vp_in x1 600 ∧ (¬ (x1 * 8) < 0 ∧ ¬ (0 : Int32) < 0 ∧ ¬ (8 : Int32) < 0 ∧ (x1 * 8).toNatClampNeg + (8 : Int32).toNatClampNeg ≤ 4800 ∧ (0 : Int32).toNatClampNeg + (8 : Int32).toNatClampNeg ≤ 8 ∧ (post (f_heads x1.toNatClampNeg) (f_lengths x1.toNatClampNeg) (va_cpy f_rows t_rows (x1 * 8).toNatClampNeg (0 : Int32).toNatClampNeg (8 : Int32).toNatClampNeg))))
abbrev wp_X5_load (f_heads : (Nat → Int64)) (f_lengths : (Nat → Int64)) (f_rows : (Nat → Int64)) (t_head : Int64) (t_lengths : Int64) (t_rows : (Nat → Int64)) (x1 : Int32) (post : Int64 → Int64 → (Nat → Int64) → Prop) : Prop := wp_X5_load_0 f_heads f_lengths f_rows post x1 t_head t_lengths t_rows
def wp_X0_clear_0 (post : Int32 → Int32 → Int32 → Int32 → Int32 → Int32 → Prop) (x1 : Int32) (fi_states : Int32) (fi_vertices : Int32) (fi_ends : Int32) (fi_stepless : Int32) (fi_mostPending : Int32) (fi_whole : Int32) : Prop := post (0 : Int32) x1 (0 : Int32) (0 : Int32) (0 : Int32) (0 : Int32)
abbrev wp_X0_clear (fi_states : Int32) (fi_vertices : Int32) (fi_ends : Int32) (fi_stepless : Int32) (fi_mostPending : Int32) (fi_whole : Int32) (x1 : Int32) (post : Int32 → Int32 → Int32 → Int32 → Int32 → Int32 → Prop) : Prop := wp_X0_clear_0 post x1 fi_states fi_vertices fi_ends fi_stepless fi_mostPending fi_whole
def bd_X0_noteEnd_2 (fi_states : Int32) (post : Int32 → (Nat → Int32) → (Nat → Int32) → Prop) (K2 : Int32 → Prop) (x1 : Int32) (x2 : Int32) (fi_ends : Int32) (fi_endValues : (Nat → Int32)) (fi_endStates : (Nat → Int32)) : Prop := (fi_ends ≤ x2 → ((600 ≤ fi_ends → (post fi_ends fi_endValues fi_endStates)) ∧ (¬ 600 ≤ fi_ends → (vp_in fi_ends 600 ∧ (vp_in fi_ends 600 ∧ (post (fi_ends + 1) (upd fi_endValues fi_ends.toNatClampNeg x1) (upd fi_endStates fi_ends.toNatClampNeg fi_states))))))) ∧ (¬ fi_ends ≤ x2 → (vp_in x2 600 ∧ ((¬ (fi_endValues x2.toNatClampNeg) = x1 → (K2 (x2 + 1))) ∧ ((fi_endValues x2.toNatClampNeg) = x1 → (post fi_ends fi_endValues fi_endStates)))))
def wp_X0_noteEnd_2 (fi_states : Int32) (post : Int32 → (Nat → Int32) → (Nat → Int32) → Prop) (x1 : Int32) (x2 : Int32) (fi_ends : Int32) (fi_endValues : (Nat → Int32)) (fi_endStates : (Nat → Int32)) : Prop := ∃ (I : Nat → Int32 → Prop) (n : Nat), I n x2 ∧ ∀ (n : Nat) (x2 : Int32), I n x2 → bd_X0_noteEnd_2 fi_states post (fun (x2' : Int32) => ∃ n', n' < n ∧ I n' x2') x1 x2 fi_ends fi_endValues fi_endStates
def wp_X0_noteEnd_0 (fi_states : Int32) (post : Int32 → (Nat → Int32) → (Nat → Int32) → Prop) (x1 : Int32) (fi_ends : Int32) (fi_endValues : (Nat → Int32)) (fi_endStates : (Nat → Int32)) : Prop := wp_X0_noteEnd_2 fi_states post x1 0 fi_ends fi_endValues fi_endStates
abbrev wp_X0_noteEnd (fi_states : Int32) (fi_ends : Int32) (fi_endValues : (Nat → Int32)) (fi_endStates : (Nat → Int32)) (x1 : Int32) (post : Int32 → (Nat → Int32) → (Nat → Int32) → Prop) : Prop := wp_X0_noteEnd_0 fi_states post x1 fi_ends fi_endValues fi_endStates
def wp_X0_note_63 (post : Int32 → Int32 → Int32 → Int32 → (Nat → Int32) → (Nat → Int32) → (Nat → Int32) → (Nat → Int32) → Prop) (fi_states : Int32) (fi_ends : Int32) (fi_stepless : Int32) (fi_mostPending : Int32) (fi_endValues : (Nat → Int32)) (fi_endStates : (Nat → Int32)) (fi_parents : (Nat → Int32)) (fi_steps : (Nat → Int32)) : Prop := post (fi_states + 1) fi_ends fi_stepless fi_mostPending fi_endValues fi_endStates fi_parents fi_steps
def wp_X0_note_0 (post : Int32 → Int32 → Int32 → Int32 → (Nat → Int32) → (Nat → Int32) → (Nat → Int32) → (Nat → Int32) → Prop) (x1 : Int32) (x2 : Int32) (x3 : Int32) (x4 : Int32) (fi_states : Int32) (fi_ends : Int32) (fi_stepless : Int32) (fi_mostPending : Int32) (fi_endValues : (Nat → Int32)) (fi_endStates : (Nat → Int32)) (fi_parents : (Nat → Int32)) (fi_steps : (Nat → Int32)) : Prop := (fi_states < 600 → (vp_in fi_states 600 ∧ (vp_in fi_states 600 ∧ ((¬ x3 = 0 → (wp_X0_note_63 post fi_states fi_ends fi_stepless (if fi_mostPending < x3 then x3 else fi_mostPending) fi_endValues fi_endStates (upd fi_parents fi_states.toNatClampNeg x1) (upd fi_steps fi_states.toNatClampNeg x2))) ∧ (x3 = 0 → (wp_X0_noteEnd fi_states fi_ends fi_endValues fi_endStates x4 (fun (fi_ends_3 : Int32) (fi_endValues_4 : (Nat → Int32)) (fi_endStates_5 : (Nat → Int32)) => wp_X0_note_63 post fi_states fi_ends_3 (fi_stepless + 1) (if fi_mostPending < x3 then x3 else fi_mostPending) fi_endValues_4 fi_endStates_5 (upd fi_parents fi_states.toNatClampNeg x1) (upd fi_steps fi_states.toNatClampNeg x2)))))))) ∧ (¬ fi_states < 600 → (post fi_states fi_ends fi_stepless fi_mostPending fi_endValues fi_endStates fi_parents fi_steps))
abbrev wp_X0_note (fi_states : Int32) (fi_ends : Int32) (fi_stepless : Int32) (fi_mostPending : Int32) (fi_endValues : (Nat → Int32)) (fi_endStates : (Nat → Int32)) (fi_parents : (Nat → Int32)) (fi_steps : (Nat → Int32)) (x1 : Int32) (x2 : Int32) (x3 : Int32) (x4 : Int32) (post : Int32 → Int32 → Int32 → Int32 → (Nat → Int32) → (Nat → Int32) → (Nat → Int32) → (Nat → Int32) → Prop) : Prop := wp_X0_note_0 post x1 x2 x3 x4 fi_states fi_ends fi_stepless fi_mostPending fi_endValues fi_endStates fi_parents fi_steps
def wp_X0_hasEnd_16 (fi_ends : Int32) (post : Int32 → Prop) : Prop := post 0
def wp_X0_hasEnd_0 (fi_ends : Int32) (post : Int32 → Prop) (x1 : Int32) : Prop := (x1 < 0 → (wp_X0_hasEnd_16 fi_ends post)) ∧ (¬ x1 < 0 → ((fi_ends ≤ x1 → (wp_X0_hasEnd_16 fi_ends post)) ∧ (¬ fi_ends ≤ x1 → (post 1))))
abbrev wp_X0_hasEnd (fi_ends : Int32) (x1 : Int32) (post : Int32 → Prop) : Prop := wp_X0_hasEnd_0 fi_ends post x1
def bd_X0_wayLength_9 (fi_endStates : (Nat → Int32)) (fi_parents : (Nat → Int32)) (post : Int32 → Prop) (K9 : Int32 → Int32 → Prop) (x2 : Int32) (x3 : Int32) : Prop := (x3 ≤ 0 → (post x2)) ∧ (¬ x3 ≤ 0 → ((600 ≤ x2 → (post x2)) ∧ (¬ 600 ≤ x2 → (vp_in x3 600 ∧ (∀ y4 : Int32, y4 = (fi_parents x3.toNatClampNeg) → (K9 (x2 + 1) y4))))))
def wp_X0_wayLength_9 (fi_endStates : (Nat → Int32)) (fi_parents : (Nat → Int32)) (post : Int32 → Prop) (x2 : Int32) (x3 : Int32) : Prop := ∃ (I : Nat → Int32 → Int32 → Prop) (n : Nat), I n x2 x3 ∧ ∀ (n : Nat) (x2 : Int32) (x3 : Int32), I n x2 x3 → bd_X0_wayLength_9 fi_endStates fi_parents post (fun (x2' : Int32) (x3' : Int32) => ∃ n', n' < n ∧ I n' x2' x3') x2 x3
def wp_X0_wayLength_0 (fi_endStates : (Nat → Int32)) (fi_parents : (Nat → Int32)) (post : Int32 → Prop) (x1 : Int32) : Prop := vp_in x1 600 ∧ (∀ y2 : Int32, y2 = (fi_endStates x1.toNatClampNeg) → (wp_X0_wayLength_9 fi_endStates fi_parents post 0 y2))
abbrev wp_X0_wayLength (fi_endStates : (Nat → Int32)) (fi_parents : (Nat → Int32)) (x1 : Int32) (post : Int32 → Prop) : Prop := wp_X0_wayLength_0 fi_endStates fi_parents post x1
def wp_X0_stepBefore_33 (fi_endStates : (Nat → Int32)) (fi_parents : (Nat → Int32)) (fi_steps : (Nat → Int32)) (post : Int32 → Prop) (x3 : Int32) : Prop := vp_in x3 600 ∧ (post (fi_steps x3.toNatClampNeg))
def bd_X0_stepBefore_10 (fi_endStates : (Nat → Int32)) (fi_parents : (Nat → Int32)) (fi_steps : (Nat → Int32)) (post : Int32 → Prop) (K10 : Int32 → Int32 → Prop) (x2 : Int32) (x3 : Int32) (x4 : Int32) : Prop := (x2 ≤ x4 → (wp_X0_stepBefore_33 fi_endStates fi_parents fi_steps post x3)) ∧ (¬ x2 ≤ x4 → ((x3 ≤ 0 → (wp_X0_stepBefore_33 fi_endStates fi_parents fi_steps post x3)) ∧ (¬ x3 ≤ 0 → (vp_in x3 600 ∧ (∀ y4 : Int32, y4 = (fi_parents x3.toNatClampNeg) → (K10 y4 (x4 + 1)))))))
def wp_X0_stepBefore_10 (fi_endStates : (Nat → Int32)) (fi_parents : (Nat → Int32)) (fi_steps : (Nat → Int32)) (post : Int32 → Prop) (x2 : Int32) (x3 : Int32) (x4 : Int32) : Prop := ∃ (I : Nat → Int32 → Int32 → Prop) (n : Nat), I n x3 x4 ∧ ∀ (n : Nat) (x3 : Int32) (x4 : Int32), I n x3 x4 → bd_X0_stepBefore_10 fi_endStates fi_parents fi_steps post (fun (x3' : Int32) (x4' : Int32) => ∃ n', n' < n ∧ I n' x3' x4') x2 x3 x4
def wp_X0_stepBefore_0 (fi_endStates : (Nat → Int32)) (fi_parents : (Nat → Int32)) (fi_steps : (Nat → Int32)) (post : Int32 → Prop) (x1 : Int32) (x2 : Int32) : Prop := vp_in x1 600 ∧ (∀ y2 : Int32, y2 = (fi_endStates x1.toNatClampNeg) → (wp_X0_stepBefore_10 fi_endStates fi_parents fi_steps post x2 y2 0))
abbrev wp_X0_stepBefore (fi_endStates : (Nat → Int32)) (fi_parents : (Nat → Int32)) (fi_steps : (Nat → Int32)) (x1 : Int32) (x2 : Int32) (post : Int32 → Prop) : Prop := wp_X0_stepBefore_0 fi_endStates fi_parents fi_steps post x1 x2
def wp_X3_isStep_45 (r_settings : (Nat → Int32)) (h_rows : (Nat → Int64)) (post : Int32 → Prop) : Prop := post 0
def wp_X3_isStep_0 (r_settings : (Nat → Int32)) (h_rows : (Nat → Int64)) (post : Int32 → Prop) (x1 : Int32) (x2 : Int32) : Prop := (¬ x2 = 0 → (vp_in 4 6 ∧ ((¬ (r_settings (4 : Int32).toNatClampNeg) = 0 → (wp_X3_isStep_45 r_settings h_rows post)) ∧ ((r_settings (4 : Int32).toNatClampNeg) = 0 → (wp_X4_messageAt h_rows x1 x2 (fun (r2 : Int32) => wp_X4_messageAt h_rows x1 (x2 - 1) (fun (r3 : Int32) => (r2 = r3 → (wp_X3_isStep_45 r_settings h_rows post)) ∧ (¬ r2 = r3 → (post 1))))))))) ∧ (x2 = 0 → (post 1))
abbrev wp_X3_isStep (r_settings : (Nat → Int32)) (h_rows : (Nat → Int64)) (x1 : Int32) (x2 : Int32) (post : Int32 → Prop) : Prop := wp_X3_isStep_0 r_settings h_rows post x1 x2
def wp_X3_deliver_178 (se_staying : Int32) (g_arcs : Int32) (g_arcFrom : (Nat → Int32)) (g_weights : (Nat → Int32)) (r_settings : (Nat → Int32)) (r_told : (Nat → Int32)) (post : Int64 → Int64 → (Nat → Int64) → Prop) (K93 : Int32 → Int64 → (Nat → Int64) → Prop) (x1 : Int32) (x4 : Int32) (x6 : Int32) (n_head : Int64) (n_lengths : Int64) (n_rows : (Nat → Int64)) : Prop := K93 (x6 + 1) n_lengths n_rows
def wp_X3_deliver_175 (se_staying : Int32) (g_arcs : Int32) (g_arcFrom : (Nat → Int32)) (g_weights : (Nat → Int32)) (r_settings : (Nat → Int32)) (r_told : (Nat → Int32)) (post : Int64 → Int64 → (Nat → Int64) → Prop) (K93 : Int32 → Int64 → (Nat → Int64) → Prop) (x1 : Int32) (x4 : Int32) (x6 : Int32) (t0 : Int32) (t1 : Int32) (t2 : Int32) (n_head : Int64) (n_lengths : Int64) (n_rows : (Nat → Int64)) : Prop := wp_X4_put n_lengths n_rows t2 t1 t0 (fun (n_lengths_12 : Int64) (n_rows_13 : (Nat → Int64)) => wp_X3_deliver_178 se_staying g_arcs g_arcFrom g_weights r_settings r_told post K93 x1 x4 x6 n_head n_lengths_12 n_rows_13)
def bd_X3_deliver_93 (se_staying : Int32) (g_arcs : Int32) (g_arcFrom : (Nat → Int32)) (g_weights : (Nat → Int32)) (r_settings : (Nat → Int32)) (r_told : (Nat → Int32)) (post : Int64 → Int64 → (Nat → Int64) → Prop) (K93 : Int32 → Int64 → (Nat → Int64) → Prop) (x1 : Int32) (x4 : Int32) (x6 : Int32) (n_head : Int64) (n_lengths : Int64) (n_rows : (Nat → Int64)) : Prop := (g_arcs ≤ x6 → (post n_head n_lengths n_rows)) ∧ (¬ g_arcs ≤ x6 → (vp_in x6 8 ∧ ((¬ (g_arcFrom x6.toNatClampNeg) = x1 → (wp_X3_deliver_178 se_staying g_arcs g_arcFrom g_weights r_settings r_told post K93 x1 x4 x6 n_head n_lengths n_rows)) ∧ ((g_arcFrom x6.toNatClampNeg) = x1 → ((¬ (((se_staying.toUInt32 >>> (x6.toUInt32 &&& Int32.toUInt32 31)).toInt32) &&& 1) = 1 → (wp_X3_deliver_178 se_staying g_arcs g_arcFrom g_weights r_settings r_told post K93 x1 x4 x6 n_head n_lengths n_rows)) ∧ ((((se_staying.toUInt32 >>> (x6.toUInt32 &&& Int32.toUInt32 31)).toInt32) &&& 1) = 1 → (vp_in x6 8 ∧ (wp_X2_sentOut r_settings x4 (g_weights x6.toNatClampNeg) (fun (r10 : Int32) => vp_in 4 6 ∧ ((¬ (r_settings (4 : Int32).toNatClampNeg) = 1 → (wp_X3_deliver_175 se_staying g_arcs g_arcFrom g_weights r_settings r_told post K93 x1 x4 x6 0 r10 x6 n_head n_lengths n_rows)) ∧ ((r_settings (4 : Int32).toNatClampNeg) = 1 → (wp_X3_deliver_175 se_staying g_arcs g_arcFrom g_weights r_settings r_told post K93 x1 x4 x6 1 r10 x6 n_head n_lengths n_rows))))))))))))
def wp_X3_deliver_93 (se_staying : Int32) (g_arcs : Int32) (g_arcFrom : (Nat → Int32)) (g_weights : (Nat → Int32)) (r_settings : (Nat → Int32)) (r_told : (Nat → Int32)) (post : Int64 → Int64 → (Nat → Int64) → Prop) (x1 : Int32) (x4 : Int32) (x6 : Int32) (n_head : Int64) (n_lengths : Int64) (n_rows : (Nat → Int64)) : Prop := ∃ (I : Nat → Int32 → Int64 → (Nat → Int64) → Prop) (n : Nat), I n x6 n_lengths n_rows ∧ ∀ (n : Nat) (x6 : Int32) (n_lengths : Int64) (n_rows : (Nat → Int64)), I n x6 n_lengths n_rows → bd_X3_deliver_93 se_staying g_arcs g_arcFrom g_weights r_settings r_told post (fun (x6' : Int32) (n_lengths' : Int64) (n_rows' : (Nat → Int64)) => ∃ n', n' < n ∧ I n' x6' n_lengths' n_rows') x1 x4 x6 n_head n_lengths n_rows
def wp_X3_deliver_54 (se_staying : Int32) (g_arcs : Int32) (g_arcFrom : (Nat → Int32)) (g_weights : (Nat → Int32)) (r_settings : (Nat → Int32)) (r_told : (Nat → Int32)) (post : Int64 → Int64 → (Nat → Int64) → Prop) (x1 : Int32) (x4 : Int32) (t0 : Int32) (n_head : Int64) (n_lengths : Int64) (n_rows : (Nat → Int64)) : Prop := (t0 = 0 → (post n_head n_lengths n_rows)) ∧ (¬ t0 = 0 → (wp_X4_sentBy n_head x1 (fun (r5 : Int32) => vp_in 3 6 ∧ ((r5 < (r_settings (3 : Int32).toNatClampNeg) → (wp_X4_countSend n_head x1 (fun (n_head_7 : Int64) => wp_X3_deliver_93 se_staying g_arcs g_arcFrom g_weights r_settings r_told post x1 x4 0 n_head_7 n_lengths n_rows))) ∧ (¬ r5 < (r_settings (3 : Int32).toNatClampNeg) → (post n_head n_lengths n_rows))))))
def wp_X3_deliver_49 (se_staying : Int32) (g_arcs : Int32) (g_arcFrom : (Nat → Int32)) (g_weights : (Nat → Int32)) (r_settings : (Nat → Int32)) (r_told : (Nat → Int32)) (post : Int64 → Int64 → (Nat → Int64) → Prop) (x1 : Int32) (x4 : Int32) (n_head : Int64) (n_lengths : Int64) (n_rows : (Nat → Int64)) : Prop := wp_X3_deliver_54 se_staying g_arcs g_arcFrom g_weights r_settings r_told post x1 x4 1 n_head n_lengths n_rows
def wp_X3_deliver_0 (se_staying : Int32) (g_arcs : Int32) (g_arcFrom : (Nat → Int32)) (g_weights : (Nat → Int32)) (r_settings : (Nat → Int32)) (r_told : (Nat → Int32)) (post : Int64 → Int64 → (Nat → Int64) → Prop) (x1 : Int32) (x2 : Int32) (n_head : Int64) (n_lengths : Int64) (n_rows : (Nat → Int64)) : Prop := wp_X4_valueOf n_head x1 (fun (r1 : Int32) => wp_X2_folded r_settings r_told r1 x2 (fun (r2 : Int32) => wp_X4_change n_head x1 r2 (fun (n_head_3 : Int64) => (¬ r2 = r1 → (wp_X3_deliver_49 se_staying g_arcs g_arcFrom g_weights r_settings r_told post x1 r2 n_head_3 n_lengths n_rows)) ∧ (r2 = r1 → (vp_in 2 6 ∧ ((¬ (r_settings (2 : Int32).toNatClampNeg) = 1 → (wp_X3_deliver_54 se_staying g_arcs g_arcFrom g_weights r_settings r_told post x1 r2 0 n_head_3 n_lengths n_rows)) ∧ ((r_settings (2 : Int32).toNatClampNeg) = 1 → (wp_X3_deliver_49 se_staying g_arcs g_arcFrom g_weights r_settings r_told post x1 r2 n_head_3 n_lengths n_rows))))))))
abbrev wp_X3_deliver (se_staying : Int32) (g_arcs : Int32) (g_arcFrom : (Nat → Int32)) (g_weights : (Nat → Int32)) (r_settings : (Nat → Int32)) (r_told : (Nat → Int32)) (n_head : Int64) (n_lengths : Int64) (n_rows : (Nat → Int64)) (x1 : Int32) (x2 : Int32) (post : Int64 → Int64 → (Nat → Int64) → Prop) : Prop := wp_X3_deliver_0 se_staying g_arcs g_arcFrom g_weights r_settings r_told post x1 x2 n_head n_lengths n_rows
def wp_X3_keepNext_0 (se_limit : Int32) (g_firsts : Int32) (n_head : Int64) (n_lengths : Int64) (n_rows : (Nat → Int64)) (post : Int32 → Int32 → (Nat → Int64) → (Nat → Int64) → (Nat → Int64) → (Nat → Int32) → Int32 → Int32 → Int32 → Int32 → (Nat → Int32) → (Nat → Int32) → (Nat → Int32) → (Nat → Int32) → Prop) (x1 : Int32) (x2 : Int32) (se_isFull : Int32) (f_count : Int32) (f_heads : (Nat → Int64)) (f_lengths : (Nat → Int64)) (f_rows : (Nat → Int64)) (f_slots : (Nat → Int32)) (fi_states : Int32) (fi_ends : Int32) (fi_stepless : Int32) (fi_mostPending : Int32) (fi_endValues : (Nat → Int32)) (fi_endStates : (Nat → Int32)) (fi_parents : (Nat → Int32)) (fi_steps : (Nat → Int32)) : Prop := wp_X5_freeSlot f_heads f_lengths f_rows f_slots n_head n_lengths n_rows (fun (r1 : Int32) => (¬ r1 = (-1) → ((f_count < se_limit → (wp_X5_add f_count f_heads f_lengths f_rows f_slots n_head n_lengths n_rows r1 (fun (f_count_2 : Int32) (f_heads_3 : (Nat → Int64)) (f_lengths_4 : (Nat → Int64)) (f_rows_5 : (Nat → Int64)) (f_slots_6 : (Nat → Int32)) => wp_X4_pending n_head n_lengths g_firsts (fun (r7 : Int32) => wp_X4_allValues n_head (fun (r8 : Int32) => wp_X0_note fi_states fi_ends fi_stepless fi_mostPending fi_endValues fi_endStates fi_parents fi_steps x1 x2 r7 r8 (fun (fi_states_9 : Int32) (fi_ends_10 : Int32) (fi_stepless_11 : Int32) (fi_mostPending_12 : Int32) (fi_endValues_13 : (Nat → Int32)) (fi_endStates_14 : (Nat → Int32)) (fi_parents_15 : (Nat → Int32)) (fi_steps_16 : (Nat → Int32)) => post se_isFull f_count_2 f_heads_3 f_lengths_4 f_rows_5 f_slots_6 fi_states_9 fi_ends_10 fi_stepless_11 fi_mostPending_12 fi_endValues_13 fi_endStates_14 fi_parents_15 fi_steps_16)))))) ∧ (¬ f_count < se_limit → (post (1 : Int32) f_count f_heads f_lengths f_rows f_slots fi_states fi_ends fi_stepless fi_mostPending fi_endValues fi_endStates fi_parents fi_steps)))) ∧ (r1 = (-1) → (post se_isFull f_count f_heads f_lengths f_rows f_slots fi_states fi_ends fi_stepless fi_mostPending fi_endValues fi_endStates fi_parents fi_steps)))
abbrev wp_X3_keepNext (se_limit : Int32) (se_isFull : Int32) (g_firsts : Int32) (f_count : Int32) (f_heads : (Nat → Int64)) (f_lengths : (Nat → Int64)) (f_rows : (Nat → Int64)) (f_slots : (Nat → Int32)) (n_head : Int64) (n_lengths : Int64) (n_rows : (Nat → Int64)) (fi_states : Int32) (fi_ends : Int32) (fi_stepless : Int32) (fi_mostPending : Int32) (fi_endValues : (Nat → Int32)) (fi_endStates : (Nat → Int32)) (fi_parents : (Nat → Int32)) (fi_steps : (Nat → Int32)) (x1 : Int32) (x2 : Int32) (post : Int32 → Int32 → (Nat → Int64) → (Nat → Int64) → (Nat → Int64) → (Nat → Int32) → Int32 → Int32 → Int32 → Int32 → (Nat → Int32) → (Nat → Int32) → (Nat → Int32) → (Nat → Int32) → Prop) : Prop := wp_X3_keepNext_0 se_limit g_firsts n_head n_lengths n_rows post x1 x2 se_isFull f_count f_heads f_lengths f_rows f_slots fi_states fi_ends fi_stepless fi_mostPending fi_endValues fi_endStates fi_parents fi_steps
def wp_X3_take_136 (se_limit : Int32) (se_staying : Int32) (g_arcs : Int32) (g_firsts : Int32) (g_arcFrom : (Nat → Int32)) (g_arcTo : (Nat → Int32)) (g_weights : (Nat → Int32)) (g_firstTo : (Nat → Int32)) (g_firstValue : (Nat → Int32)) (r_settings : (Nat → Int32)) (r_told : (Nat → Int32)) (h_head : Int64) (h_lengths : Int64) (h_rows : (Nat → Int64)) (post : Int32 → Int32 → (Nat → Int64) → (Nat → Int64) → (Nat → Int64) → (Nat → Int32) → Int64 → Int64 → (Nat → Int64) → Int32 → Int32 → Int32 → Int32 → (Nat → Int32) → (Nat → Int32) → (Nat → Int32) → (Nat → Int32) → Prop) (x1 : Int32) (x2 : Int32) (x4 : Int32) (x7 : Int32) (t0 : Int32) (se_isFull : Int32) (f_count : Int32) (f_heads : (Nat → Int64)) (f_lengths : (Nat → Int64)) (f_rows : (Nat → Int64)) (f_slots : (Nat → Int32)) (n_head : Int64) (n_lengths : Int64) (n_rows : (Nat → Int64)) (fi_states : Int32) (fi_ends : Int32) (fi_stepless : Int32) (fi_mostPending : Int32) (fi_endValues : (Nat → Int32)) (fi_endStates : (Nat → Int32)) (fi_parents : (Nat → Int32)) (fi_steps : (Nat → Int32)) : Prop := wp_X3_deliver se_staying g_arcs g_arcFrom g_weights r_settings r_told n_head n_lengths n_rows t0 x7 (fun (n_head_12 : Int64) (n_lengths_13 : Int64) (n_rows_14 : (Nat → Int64)) => wp_X6_of x2 x7 x4 (fun (r15 : Int32) => wp_X3_keepNext se_limit se_isFull g_firsts f_count f_heads f_lengths f_rows f_slots n_head_12 n_lengths_13 n_rows_14 fi_states fi_ends fi_stepless fi_mostPending fi_endValues fi_endStates fi_parents fi_steps x1 r15 (fun (se_isFull_16 : Int32) (f_count_17 : Int32) (f_heads_18 : (Nat → Int64)) (f_lengths_19 : (Nat → Int64)) (f_rows_20 : (Nat → Int64)) (f_slots_21 : (Nat → Int32)) (fi_states_22 : Int32) (fi_ends_23 : Int32) (fi_stepless_24 : Int32) (fi_mostPending_25 : Int32) (fi_endValues_26 : (Nat → Int32)) (fi_endStates_27 : (Nat → Int32)) (fi_parents_28 : (Nat → Int32)) (fi_steps_29 : (Nat → Int32)) => post se_isFull_16 f_count_17 f_heads_18 f_lengths_19 f_rows_20 f_slots_21 n_head_12 n_lengths_13 n_rows_14 fi_states_22 fi_ends_23 fi_stepless_24 fi_mostPending_25 fi_endValues_26 fi_endStates_27 fi_parents_28 fi_steps_29)))
def wp_X3_take_106 (se_limit : Int32) (se_staying : Int32) (g_arcs : Int32) (g_firsts : Int32) (g_arcFrom : (Nat → Int32)) (g_arcTo : (Nat → Int32)) (g_weights : (Nat → Int32)) (g_firstTo : (Nat → Int32)) (g_firstValue : (Nat → Int32)) (r_settings : (Nat → Int32)) (r_told : (Nat → Int32)) (h_head : Int64) (h_lengths : Int64) (h_rows : (Nat → Int64)) (post : Int32 → Int32 → (Nat → Int64) → (Nat → Int64) → (Nat → Int64) → (Nat → Int32) → Int64 → Int64 → (Nat → Int64) → Int32 → Int32 → Int32 → Int32 → (Nat → Int32) → (Nat → Int32) → (Nat → Int32) → (Nat → Int32) → Prop) (x1 : Int32) (x2 : Int32) (x4 : Int32) (x5 : Int32) (x6 : Int32) (t0 : Int32) (se_isFull : Int32) (f_count : Int32) (f_heads : (Nat → Int64)) (f_lengths : (Nat → Int64)) (f_rows : (Nat → Int64)) (f_slots : (Nat → Int32)) (n_head : Int64) (n_lengths : Int64) (n_rows : (Nat → Int64)) (fi_states : Int32) (fi_ends : Int32) (fi_stepless : Int32) (fi_mostPending : Int32) (fi_endValues : (Nat → Int32)) (fi_endStates : (Nat → Int32)) (fi_parents : (Nat → Int32)) (fi_steps : (Nat → Int32)) : Prop := (x6 = 0 → (vp_in x2 8 ∧ (wp_X3_take_136 se_limit se_staying g_arcs g_firsts g_arcFrom g_arcTo g_weights g_firstTo g_firstValue r_settings r_told h_head h_lengths h_rows post x1 x2 x4 t0 (g_arcTo x2.toNatClampNeg) se_isFull f_count f_heads f_lengths f_rows f_slots n_head n_lengths n_rows fi_states fi_ends fi_stepless fi_mostPending fi_endValues fi_endStates fi_parents fi_steps))) ∧ (¬ x6 = 0 → (vp_in x5 4 ∧ (wp_X3_take_136 se_limit se_staying g_arcs g_firsts g_arcFrom g_arcTo g_weights g_firstTo g_firstValue r_settings r_told h_head h_lengths h_rows post x1 x2 x4 t0 (g_firstTo x5.toNatClampNeg) se_isFull f_count f_heads f_lengths f_rows f_slots n_head n_lengths n_rows fi_states fi_ends fi_stepless fi_mostPending fi_endValues fi_endStates fi_parents fi_steps)))
def wp_X3_take_79 (se_limit : Int32) (se_staying : Int32) (g_arcs : Int32) (g_firsts : Int32) (g_arcFrom : (Nat → Int32)) (g_arcTo : (Nat → Int32)) (g_weights : (Nat → Int32)) (g_firstTo : (Nat → Int32)) (g_firstValue : (Nat → Int32)) (r_settings : (Nat → Int32)) (r_told : (Nat → Int32)) (h_head : Int64) (h_lengths : Int64) (h_rows : (Nat → Int64)) (post : Int32 → Int32 → (Nat → Int64) → (Nat → Int64) → (Nat → Int64) → (Nat → Int32) → Int64 → Int64 → (Nat → Int64) → Int32 → Int32 → Int32 → Int32 → (Nat → Int32) → (Nat → Int32) → (Nat → Int32) → (Nat → Int32) → Prop) (x1 : Int32) (x2 : Int32) (x3 : Int32) (x4 : Int32) (x5 : Int32) (x6 : Int32) (se_isFull : Int32) (f_count : Int32) (f_heads : (Nat → Int64)) (f_lengths : (Nat → Int64)) (f_rows : (Nat → Int64)) (f_slots : (Nat → Int32)) (n_head : Int64) (n_lengths : Int64) (n_rows : (Nat → Int64)) (fi_states : Int32) (fi_ends : Int32) (fi_stepless : Int32) (fi_mostPending : Int32) (fi_endValues : (Nat → Int32)) (fi_endStates : (Nat → Int32)) (fi_parents : (Nat → Int32)) (fi_steps : (Nat → Int32)) : Prop := (x6 = 0 → (wp_X4_messageAt h_rows x2 x3 (fun (r8 : Int32) => wp_X3_take_106 se_limit se_staying g_arcs g_firsts g_arcFrom g_arcTo g_weights g_firstTo g_firstValue r_settings r_told h_head h_lengths h_rows post x1 x2 x4 x5 x6 r8 se_isFull f_count f_heads f_lengths f_rows f_slots n_head n_lengths n_rows fi_states fi_ends fi_stepless fi_mostPending fi_endValues fi_endStates fi_parents fi_steps))) ∧ (¬ x6 = 0 → (vp_in x5 4 ∧ (wp_X3_take_106 se_limit se_staying g_arcs g_firsts g_arcFrom g_arcTo g_weights g_firstTo g_firstValue r_settings r_told h_head h_lengths h_rows post x1 x2 x4 x5 x6 (g_firstValue x5.toNatClampNeg) se_isFull f_count f_heads f_lengths f_rows f_slots n_head n_lengths n_rows fi_states fi_ends fi_stepless fi_mostPending fi_endValues fi_endStates fi_parents fi_steps)))
def wp_X3_take_35 (se_limit : Int32) (se_staying : Int32) (g_arcs : Int32) (g_firsts : Int32) (g_arcFrom : (Nat → Int32)) (g_arcTo : (Nat → Int32)) (g_weights : (Nat → Int32)) (g_firstTo : (Nat → Int32)) (g_firstValue : (Nat → Int32)) (r_settings : (Nat → Int32)) (r_told : (Nat → Int32)) (h_head : Int64) (h_lengths : Int64) (h_rows : (Nat → Int64)) (post : Int32 → Int32 → (Nat → Int64) → (Nat → Int64) → (Nat → Int64) → (Nat → Int32) → Int64 → Int64 → (Nat → Int64) → Int32 → Int32 → Int32 → Int32 → (Nat → Int32) → (Nat → Int32) → (Nat → Int32) → (Nat → Int32) → Prop) (x1 : Int32) (x2 : Int32) (x3 : Int32) (x4 : Int32) (x5 : Int32) (t0 : Int32) (se_isFull : Int32) (f_count : Int32) (f_heads : (Nat → Int64)) (f_lengths : (Nat → Int64)) (f_rows : (Nat → Int64)) (f_slots : (Nat → Int32)) (n_head : Int64) (n_lengths : Int64) (n_rows : (Nat → Int64)) (fi_states : Int32) (fi_ends : Int32) (fi_stepless : Int32) (fi_mostPending : Int32) (fi_endValues : (Nat → Int32)) (fi_endStates : (Nat → Int32)) (fi_parents : (Nat → Int32)) (fi_steps : (Nat → Int32)) : Prop := (¬ x4 = 1 → ((t0 = 0 → (wp_X4_take n_lengths n_rows x2 x3 (fun (n_lengths_4 : Int64) (n_rows_5 : (Nat → Int64)) => wp_X3_take_79 se_limit se_staying g_arcs g_firsts g_arcFrom g_arcTo g_weights g_firstTo g_firstValue r_settings r_told h_head h_lengths h_rows post x1 x2 x3 x4 x5 t0 se_isFull f_count f_heads f_lengths f_rows f_slots n_head n_lengths_4 n_rows_5 fi_states fi_ends fi_stepless fi_mostPending fi_endValues fi_endStates fi_parents fi_steps))) ∧ (¬ t0 = 0 → (wp_X4_markCome n_head x5 (fun (n_head_6 : Int64) => wp_X3_take_79 se_limit se_staying g_arcs g_firsts g_arcFrom g_arcTo g_weights g_firstTo g_firstValue r_settings r_told h_head h_lengths h_rows post x1 x2 x3 x4 x5 t0 se_isFull f_count f_heads f_lengths f_rows f_slots n_head_6 n_lengths n_rows fi_states fi_ends fi_stepless fi_mostPending fi_endValues fi_endStates fi_parents fi_steps))))) ∧ (x4 = 1 → (wp_X4_useDouble n_head (fun (n_head_7 : Int64) => wp_X3_take_79 se_limit se_staying g_arcs g_firsts g_arcFrom g_arcTo g_weights g_firstTo g_firstValue r_settings r_told h_head h_lengths h_rows post x1 x2 x3 x4 x5 t0 se_isFull f_count f_heads f_lengths f_rows f_slots n_head_7 n_lengths n_rows fi_states fi_ends fi_stepless fi_mostPending fi_endValues fi_endStates fi_parents fi_steps)))
def wp_X3_take_0 (se_limit : Int32) (se_staying : Int32) (g_arcs : Int32) (g_firsts : Int32) (g_arcFrom : (Nat → Int32)) (g_arcTo : (Nat → Int32)) (g_weights : (Nat → Int32)) (g_firstTo : (Nat → Int32)) (g_firstValue : (Nat → Int32)) (r_settings : (Nat → Int32)) (r_told : (Nat → Int32)) (h_head : Int64) (h_lengths : Int64) (h_rows : (Nat → Int64)) (post : Int32 → Int32 → (Nat → Int64) → (Nat → Int64) → (Nat → Int64) → (Nat → Int32) → Int64 → Int64 → (Nat → Int64) → Int32 → Int32 → Int32 → Int32 → (Nat → Int32) → (Nat → Int32) → (Nat → Int32) → (Nat → Int32) → Prop) (x1 : Int32) (x2 : Int32) (x3 : Int32) (x4 : Int32) (se_isFull : Int32) (f_count : Int32) (f_heads : (Nat → Int64)) (f_lengths : (Nat → Int64)) (f_rows : (Nat → Int64)) (f_slots : (Nat → Int32)) (n_head : Int64) (n_lengths : Int64) (n_rows : (Nat → Int64)) (fi_states : Int32) (fi_ends : Int32) (fi_stepless : Int32) (fi_mostPending : Int32) (fi_endValues : (Nat → Int32)) (fi_endStates : (Nat → Int32)) (fi_parents : (Nat → Int32)) (fi_steps : (Nat → Int32)) : Prop := (se_isFull = 0 → (wp_X4_copy n_head n_lengths n_rows h_head h_lengths h_rows (fun (n_head_1 : Int64) (n_lengths_2 : Int64) (n_rows_3 : (Nat → Int64)) => ((x2 - 100) < 0 → (wp_X3_take_35 se_limit se_staying g_arcs g_firsts g_arcFrom g_arcTo g_weights g_firstTo g_firstValue r_settings r_told h_head h_lengths h_rows post x1 x2 x3 x4 (x2 - 100) 0 se_isFull f_count f_heads f_lengths f_rows f_slots n_head_1 n_lengths_2 n_rows_3 fi_states fi_ends fi_stepless fi_mostPending fi_endValues fi_endStates fi_parents fi_steps)) ∧ (¬ (x2 - 100) < 0 → (wp_X3_take_35 se_limit se_staying g_arcs g_firsts g_arcFrom g_arcTo g_weights g_firstTo g_firstValue r_settings r_told h_head h_lengths h_rows post x1 x2 x3 x4 (x2 - 100) 1 se_isFull f_count f_heads f_lengths f_rows f_slots n_head_1 n_lengths_2 n_rows_3 fi_states fi_ends fi_stepless fi_mostPending fi_endValues fi_endStates fi_parents fi_steps))))) ∧ (¬ se_isFull = 0 → (post se_isFull f_count f_heads f_lengths f_rows f_slots n_head n_lengths n_rows fi_states fi_ends fi_stepless fi_mostPending fi_endValues fi_endStates fi_parents fi_steps))
abbrev wp_X3_take (se_limit : Int32) (se_staying : Int32) (se_isFull : Int32) (g_arcs : Int32) (g_firsts : Int32) (g_arcFrom : (Nat → Int32)) (g_arcTo : (Nat → Int32)) (g_weights : (Nat → Int32)) (g_firstTo : (Nat → Int32)) (g_firstValue : (Nat → Int32)) (r_settings : (Nat → Int32)) (r_told : (Nat → Int32)) (f_count : Int32) (f_heads : (Nat → Int64)) (f_lengths : (Nat → Int64)) (f_rows : (Nat → Int64)) (f_slots : (Nat → Int32)) (h_head : Int64) (h_lengths : Int64) (h_rows : (Nat → Int64)) (n_head : Int64) (n_lengths : Int64) (n_rows : (Nat → Int64)) (fi_states : Int32) (fi_ends : Int32) (fi_stepless : Int32) (fi_mostPending : Int32) (fi_endValues : (Nat → Int32)) (fi_endStates : (Nat → Int32)) (fi_parents : (Nat → Int32)) (fi_steps : (Nat → Int32)) (x1 : Int32) (x2 : Int32) (x3 : Int32) (x4 : Int32) (post : Int32 → Int32 → (Nat → Int64) → (Nat → Int64) → (Nat → Int64) → (Nat → Int32) → Int64 → Int64 → (Nat → Int64) → Int32 → Int32 → Int32 → Int32 → (Nat → Int32) → (Nat → Int32) → (Nat → Int32) → (Nat → Int32) → Prop) : Prop := wp_X3_take_0 se_limit se_staying g_arcs g_firsts g_arcFrom g_arcTo g_weights g_firstTo g_firstValue r_settings r_told h_head h_lengths h_rows post x1 x2 x3 x4 se_isFull f_count f_heads f_lengths f_rows f_slots n_head n_lengths n_rows fi_states fi_ends fi_stepless fi_mostPending fi_endValues fi_endStates fi_parents fi_steps
def wp_X3_goThrough_79 (se_limit : Int32) (se_staying : Int32) (g_arcs : Int32) (g_firsts : Int32) (g_arcFrom : (Nat → Int32)) (g_arcTo : (Nat → Int32)) (g_weights : (Nat → Int32)) (g_firstTo : (Nat → Int32)) (g_firstValue : (Nat → Int32)) (r_settings : (Nat → Int32)) (r_told : (Nat → Int32)) (post : Int32 → Int32 → (Nat → Int64) → (Nat → Int64) → (Nat → Int64) → (Nat → Int32) → Int64 → Int64 → (Nat → Int64) → Int64 → Int64 → (Nat → Int64) → Int32 → Int32 → Int32 → Int32 → (Nat → Int32) → (Nat → Int32) → (Nat → Int32) → (Nat → Int32) → Prop) (K30 : Int32 → Int32 → Int32 → (Nat → Int64) → (Nat → Int64) → (Nat → Int64) → (Nat → Int32) → Int64 → Int64 → (Nat → Int64) → Int32 → Int32 → Int32 → Int32 → (Nat → Int32) → (Nat → Int32) → (Nat → Int32) → (Nat → Int32) → Prop) (x1 : Int32) (x2 : Int32) (x3 : Int32) (se_isFull : Int32) (f_count : Int32) (f_heads : (Nat → Int64)) (f_lengths : (Nat → Int64)) (f_rows : (Nat → Int64)) (f_slots : (Nat → Int32)) (h_head : Int64) (h_lengths : Int64) (h_rows : (Nat → Int64)) (n_head : Int64) (n_lengths : Int64) (n_rows : (Nat → Int64)) (fi_states : Int32) (fi_ends : Int32) (fi_stepless : Int32) (fi_mostPending : Int32) (fi_endValues : (Nat → Int32)) (fi_endStates : (Nat → Int32)) (fi_parents : (Nat → Int32)) (fi_steps : (Nat → Int32)) : Prop := K30 (x3 + 1) se_isFull f_count f_heads f_lengths f_rows f_slots n_head n_lengths n_rows fi_states fi_ends fi_stepless fi_mostPending fi_endValues fi_endStates fi_parents fi_steps
def bd_X3_goThrough_44 (se_limit : Int32) (se_staying : Int32) (g_arcs : Int32) (g_firsts : Int32) (g_arcFrom : (Nat → Int32)) (g_arcTo : (Nat → Int32)) (g_weights : (Nat → Int32)) (g_firstTo : (Nat → Int32)) (g_firstValue : (Nat → Int32)) (r_settings : (Nat → Int32)) (r_told : (Nat → Int32)) (post : Int32 → Int32 → (Nat → Int64) → (Nat → Int64) → (Nat → Int64) → (Nat → Int32) → Int64 → Int64 → (Nat → Int64) → Int64 → Int64 → (Nat → Int64) → Int32 → Int32 → Int32 → Int32 → (Nat → Int32) → (Nat → Int32) → (Nat → Int32) → (Nat → Int32) → Prop) (K30 : Int32 → Int32 → Int32 → (Nat → Int64) → (Nat → Int64) → (Nat → Int64) → (Nat → Int32) → Int64 → Int64 → (Nat → Int64) → Int32 → Int32 → Int32 → Int32 → (Nat → Int32) → (Nat → Int32) → (Nat → Int32) → (Nat → Int32) → Prop) (K44 : Int32 → Int32 → Int32 → (Nat → Int64) → (Nat → Int64) → (Nat → Int64) → (Nat → Int32) → Int64 → Int64 → (Nat → Int64) → Int32 → Int32 → Int32 → Int32 → (Nat → Int32) → (Nat → Int32) → (Nat → Int32) → (Nat → Int32) → Prop) (x1 : Int32) (x2 : Int32) (x3 : Int32) (x4 : Int32) (se_isFull : Int32) (f_count : Int32) (f_heads : (Nat → Int64)) (f_lengths : (Nat → Int64)) (f_rows : (Nat → Int64)) (f_slots : (Nat → Int32)) (h_head : Int64) (h_lengths : Int64) (h_rows : (Nat → Int64)) (n_head : Int64) (n_lengths : Int64) (n_rows : (Nat → Int64)) (fi_states : Int32) (fi_ends : Int32) (fi_stepless : Int32) (fi_mostPending : Int32) (fi_endValues : (Nat → Int32)) (fi_endStates : (Nat → Int32)) (fi_parents : (Nat → Int32)) (fi_steps : (Nat → Int32)) : Prop := (x2 ≤ x4 → (wp_X3_goThrough_79 se_limit se_staying g_arcs g_firsts g_arcFrom g_arcTo g_weights g_firstTo g_firstValue r_settings r_told post K30 x1 x2 x3 se_isFull f_count f_heads f_lengths f_rows f_slots h_head h_lengths h_rows n_head n_lengths n_rows fi_states fi_ends fi_stepless fi_mostPending fi_endValues fi_endStates fi_parents fi_steps)) ∧ (¬ x2 ≤ x4 → (wp_X4_hasCome h_head x3 (fun (r24 : Int32) => (¬ r24 = 0 → (wp_X3_goThrough_79 se_limit se_staying g_arcs g_firsts g_arcFrom g_arcTo g_weights g_firstTo g_firstValue r_settings r_told post K30 x1 x2 x3 se_isFull f_count f_heads f_lengths f_rows f_slots h_head h_lengths h_rows n_head n_lengths n_rows fi_states fi_ends fi_stepless fi_mostPending fi_endValues fi_endStates fi_parents fi_steps)) ∧ (r24 = 0 → (wp_X3_take se_limit se_staying se_isFull g_arcs g_firsts g_arcFrom g_arcTo g_weights g_firstTo g_firstValue r_settings r_told f_count f_heads f_lengths f_rows f_slots h_head h_lengths h_rows n_head n_lengths n_rows fi_states fi_ends fi_stepless fi_mostPending fi_endValues fi_endStates fi_parents fi_steps x1 (100 + x3) 0 x4 (fun (se_isFull_25 : Int32) (f_count_26 : Int32) (f_heads_27 : (Nat → Int64)) (f_lengths_28 : (Nat → Int64)) (f_rows_29 : (Nat → Int64)) (f_slots_30 : (Nat → Int32)) (n_head_31 : Int64) (n_lengths_32 : Int64) (n_rows_33 : (Nat → Int64)) (fi_states_34 : Int32) (fi_ends_35 : Int32) (fi_stepless_36 : Int32) (fi_mostPending_37 : Int32) (fi_endValues_38 : (Nat → Int32)) (fi_endStates_39 : (Nat → Int32)) (fi_parents_40 : (Nat → Int32)) (fi_steps_41 : (Nat → Int32)) => K44 (x4 + 1) se_isFull_25 f_count_26 f_heads_27 f_lengths_28 f_rows_29 f_slots_30 n_head_31 n_lengths_32 n_rows_33 fi_states_34 fi_ends_35 fi_stepless_36 fi_mostPending_37 fi_endValues_38 fi_endStates_39 fi_parents_40 fi_steps_41))))))
def wp_X3_goThrough_44 (se_limit : Int32) (se_staying : Int32) (g_arcs : Int32) (g_firsts : Int32) (g_arcFrom : (Nat → Int32)) (g_arcTo : (Nat → Int32)) (g_weights : (Nat → Int32)) (g_firstTo : (Nat → Int32)) (g_firstValue : (Nat → Int32)) (r_settings : (Nat → Int32)) (r_told : (Nat → Int32)) (post : Int32 → Int32 → (Nat → Int64) → (Nat → Int64) → (Nat → Int64) → (Nat → Int32) → Int64 → Int64 → (Nat → Int64) → Int64 → Int64 → (Nat → Int64) → Int32 → Int32 → Int32 → Int32 → (Nat → Int32) → (Nat → Int32) → (Nat → Int32) → (Nat → Int32) → Prop) (K30 : Int32 → Int32 → Int32 → (Nat → Int64) → (Nat → Int64) → (Nat → Int64) → (Nat → Int32) → Int64 → Int64 → (Nat → Int64) → Int32 → Int32 → Int32 → Int32 → (Nat → Int32) → (Nat → Int32) → (Nat → Int32) → (Nat → Int32) → Prop) (x1 : Int32) (x2 : Int32) (x3 : Int32) (x4 : Int32) (se_isFull : Int32) (f_count : Int32) (f_heads : (Nat → Int64)) (f_lengths : (Nat → Int64)) (f_rows : (Nat → Int64)) (f_slots : (Nat → Int32)) (h_head : Int64) (h_lengths : Int64) (h_rows : (Nat → Int64)) (n_head : Int64) (n_lengths : Int64) (n_rows : (Nat → Int64)) (fi_states : Int32) (fi_ends : Int32) (fi_stepless : Int32) (fi_mostPending : Int32) (fi_endValues : (Nat → Int32)) (fi_endStates : (Nat → Int32)) (fi_parents : (Nat → Int32)) (fi_steps : (Nat → Int32)) : Prop := ∃ (I : Nat → Int32 → Int32 → Int32 → (Nat → Int64) → (Nat → Int64) → (Nat → Int64) → (Nat → Int32) → Int64 → Int64 → (Nat → Int64) → Int32 → Int32 → Int32 → Int32 → (Nat → Int32) → (Nat → Int32) → (Nat → Int32) → (Nat → Int32) → Prop) (n : Nat), I n x4 se_isFull f_count f_heads f_lengths f_rows f_slots n_head n_lengths n_rows fi_states fi_ends fi_stepless fi_mostPending fi_endValues fi_endStates fi_parents fi_steps ∧ ∀ (n : Nat) (x4 : Int32) (se_isFull : Int32) (f_count : Int32) (f_heads : (Nat → Int64)) (f_lengths : (Nat → Int64)) (f_rows : (Nat → Int64)) (f_slots : (Nat → Int32)) (n_head : Int64) (n_lengths : Int64) (n_rows : (Nat → Int64)) (fi_states : Int32) (fi_ends : Int32) (fi_stepless : Int32) (fi_mostPending : Int32) (fi_endValues : (Nat → Int32)) (fi_endStates : (Nat → Int32)) (fi_parents : (Nat → Int32)) (fi_steps : (Nat → Int32)), I n x4 se_isFull f_count f_heads f_lengths f_rows f_slots n_head n_lengths n_rows fi_states fi_ends fi_stepless fi_mostPending fi_endValues fi_endStates fi_parents fi_steps → bd_X3_goThrough_44 se_limit se_staying g_arcs g_firsts g_arcFrom g_arcTo g_weights g_firstTo g_firstValue r_settings r_told post K30 (fun (x4' : Int32) (se_isFull' : Int32) (f_count' : Int32) (f_heads' : (Nat → Int64)) (f_lengths' : (Nat → Int64)) (f_rows' : (Nat → Int64)) (f_slots' : (Nat → Int32)) (n_head' : Int64) (n_lengths' : Int64) (n_rows' : (Nat → Int64)) (fi_states' : Int32) (fi_ends' : Int32) (fi_stepless' : Int32) (fi_mostPending' : Int32) (fi_endValues' : (Nat → Int32)) (fi_endStates' : (Nat → Int32)) (fi_parents' : (Nat → Int32)) (fi_steps' : (Nat → Int32)) => ∃ n', n' < n ∧ I n' x4' se_isFull' f_count' f_heads' f_lengths' f_rows' f_slots' n_head' n_lengths' n_rows' fi_states' fi_ends' fi_stepless' fi_mostPending' fi_endValues' fi_endStates' fi_parents' fi_steps') x1 x2 x3 x4 se_isFull f_count f_heads f_lengths f_rows f_slots h_head h_lengths h_rows n_head n_lengths n_rows fi_states fi_ends fi_stepless fi_mostPending fi_endValues fi_endStates fi_parents fi_steps
def wp_X3_goThrough_153 (se_limit : Int32) (se_staying : Int32) (g_arcs : Int32) (g_firsts : Int32) (g_arcFrom : (Nat → Int32)) (g_arcTo : (Nat → Int32)) (g_weights : (Nat → Int32)) (g_firstTo : (Nat → Int32)) (g_firstValue : (Nat → Int32)) (r_settings : (Nat → Int32)) (r_told : (Nat → Int32)) (post : Int32 → Int32 → (Nat → Int64) → (Nat → Int64) → (Nat → Int64) → (Nat → Int32) → Int64 → Int64 → (Nat → Int64) → Int64 → Int64 → (Nat → Int64) → Int32 → Int32 → Int32 → Int32 → (Nat → Int32) → (Nat → Int32) → (Nat → Int32) → (Nat → Int32) → Prop) (K87 : Int32 → Int32 → Int32 → (Nat → Int64) → (Nat → Int64) → (Nat → Int64) → (Nat → Int32) → Int64 → Int64 → (Nat → Int64) → Int32 → Int32 → Int32 → Int32 → (Nat → Int32) → (Nat → Int32) → (Nat → Int32) → (Nat → Int32) → Prop) (K111 : Int32 → Int32 → Int32 → (Nat → Int64) → (Nat → Int64) → (Nat → Int64) → (Nat → Int32) → Int64 → Int64 → (Nat → Int64) → Int32 → Int32 → Int32 → Int32 → (Nat → Int32) → (Nat → Int32) → (Nat → Int32) → (Nat → Int32) → Prop) (x1 : Int32) (x2 : Int32) (x3 : Int32) (x4 : Int32) (x5 : Int32) (se_isFull : Int32) (f_count : Int32) (f_heads : (Nat → Int64)) (f_lengths : (Nat → Int64)) (f_rows : (Nat → Int64)) (f_slots : (Nat → Int32)) (h_head : Int64) (h_lengths : Int64) (h_rows : (Nat → Int64)) (n_head : Int64) (n_lengths : Int64) (n_rows : (Nat → Int64)) (fi_states : Int32) (fi_ends : Int32) (fi_stepless : Int32) (fi_mostPending : Int32) (fi_endValues : (Nat → Int32)) (fi_endStates : (Nat → Int32)) (fi_parents : (Nat → Int32)) (fi_steps : (Nat → Int32)) : Prop := K111 (x5 + 1) se_isFull f_count f_heads f_lengths f_rows f_slots n_head n_lengths n_rows fi_states fi_ends fi_stepless fi_mostPending fi_endValues fi_endStates fi_parents fi_steps
def bd_X3_goThrough_121 (se_limit : Int32) (se_staying : Int32) (g_arcs : Int32) (g_firsts : Int32) (g_arcFrom : (Nat → Int32)) (g_arcTo : (Nat → Int32)) (g_weights : (Nat → Int32)) (g_firstTo : (Nat → Int32)) (g_firstValue : (Nat → Int32)) (r_settings : (Nat → Int32)) (r_told : (Nat → Int32)) (post : Int32 → Int32 → (Nat → Int64) → (Nat → Int64) → (Nat → Int64) → (Nat → Int32) → Int64 → Int64 → (Nat → Int64) → Int64 → Int64 → (Nat → Int64) → Int32 → Int32 → Int32 → Int32 → (Nat → Int32) → (Nat → Int32) → (Nat → Int32) → (Nat → Int32) → Prop) (K87 : Int32 → Int32 → Int32 → (Nat → Int64) → (Nat → Int64) → (Nat → Int64) → (Nat → Int32) → Int64 → Int64 → (Nat → Int64) → Int32 → Int32 → Int32 → Int32 → (Nat → Int32) → (Nat → Int32) → (Nat → Int32) → (Nat → Int32) → Prop) (K111 : Int32 → Int32 → Int32 → (Nat → Int64) → (Nat → Int64) → (Nat → Int64) → (Nat → Int32) → Int64 → Int64 → (Nat → Int64) → Int32 → Int32 → Int32 → Int32 → (Nat → Int32) → (Nat → Int32) → (Nat → Int32) → (Nat → Int32) → Prop) (K121 : Int32 → Int32 → Int32 → (Nat → Int64) → (Nat → Int64) → (Nat → Int64) → (Nat → Int32) → Int64 → Int64 → (Nat → Int64) → Int32 → Int32 → Int32 → Int32 → (Nat → Int32) → (Nat → Int32) → (Nat → Int32) → (Nat → Int32) → Prop) (x1 : Int32) (x2 : Int32) (x3 : Int32) (x4 : Int32) (x5 : Int32) (x6 : Int32) (se_isFull : Int32) (f_count : Int32) (f_heads : (Nat → Int64)) (f_lengths : (Nat → Int64)) (f_rows : (Nat → Int64)) (f_slots : (Nat → Int32)) (h_head : Int64) (h_lengths : Int64) (h_rows : (Nat → Int64)) (n_head : Int64) (n_lengths : Int64) (n_rows : (Nat → Int64)) (fi_states : Int32) (fi_ends : Int32) (fi_stepless : Int32) (fi_mostPending : Int32) (fi_endValues : (Nat → Int32)) (fi_endStates : (Nat → Int32)) (fi_parents : (Nat → Int32)) (fi_steps : (Nat → Int32)) : Prop := (x2 ≤ x6 → (wp_X3_goThrough_153 se_limit se_staying g_arcs g_firsts g_arcFrom g_arcTo g_weights g_firstTo g_firstValue r_settings r_told post K87 K111 x1 x2 x3 x4 x5 se_isFull f_count f_heads f_lengths f_rows f_slots h_head h_lengths h_rows n_head n_lengths n_rows fi_states fi_ends fi_stepless fi_mostPending fi_endValues fi_endStates fi_parents fi_steps)) ∧ (¬ x2 ≤ x6 → (wp_X3_isStep r_settings h_rows x3 x5 (fun (r6 : Int32) => (r6 = 0 → (wp_X3_goThrough_153 se_limit se_staying g_arcs g_firsts g_arcFrom g_arcTo g_weights g_firstTo g_firstValue r_settings r_told post K87 K111 x1 x2 x3 x4 x5 se_isFull f_count f_heads f_lengths f_rows f_slots h_head h_lengths h_rows n_head n_lengths n_rows fi_states fi_ends fi_stepless fi_mostPending fi_endValues fi_endStates fi_parents fi_steps)) ∧ (¬ r6 = 0 → (wp_X3_take se_limit se_staying se_isFull g_arcs g_firsts g_arcFrom g_arcTo g_weights g_firstTo g_firstValue r_settings r_told f_count f_heads f_lengths f_rows f_slots h_head h_lengths h_rows n_head n_lengths n_rows fi_states fi_ends fi_stepless fi_mostPending fi_endValues fi_endStates fi_parents fi_steps x1 x3 x5 x6 (fun (se_isFull_7 : Int32) (f_count_8 : Int32) (f_heads_9 : (Nat → Int64)) (f_lengths_10 : (Nat → Int64)) (f_rows_11 : (Nat → Int64)) (f_slots_12 : (Nat → Int32)) (n_head_13 : Int64) (n_lengths_14 : Int64) (n_rows_15 : (Nat → Int64)) (fi_states_16 : Int32) (fi_ends_17 : Int32) (fi_stepless_18 : Int32) (fi_mostPending_19 : Int32) (fi_endValues_20 : (Nat → Int32)) (fi_endStates_21 : (Nat → Int32)) (fi_parents_22 : (Nat → Int32)) (fi_steps_23 : (Nat → Int32)) => K121 (x6 + 1) se_isFull_7 f_count_8 f_heads_9 f_lengths_10 f_rows_11 f_slots_12 n_head_13 n_lengths_14 n_rows_15 fi_states_16 fi_ends_17 fi_stepless_18 fi_mostPending_19 fi_endValues_20 fi_endStates_21 fi_parents_22 fi_steps_23))))))
def wp_X3_goThrough_121 (se_limit : Int32) (se_staying : Int32) (g_arcs : Int32) (g_firsts : Int32) (g_arcFrom : (Nat → Int32)) (g_arcTo : (Nat → Int32)) (g_weights : (Nat → Int32)) (g_firstTo : (Nat → Int32)) (g_firstValue : (Nat → Int32)) (r_settings : (Nat → Int32)) (r_told : (Nat → Int32)) (post : Int32 → Int32 → (Nat → Int64) → (Nat → Int64) → (Nat → Int64) → (Nat → Int32) → Int64 → Int64 → (Nat → Int64) → Int64 → Int64 → (Nat → Int64) → Int32 → Int32 → Int32 → Int32 → (Nat → Int32) → (Nat → Int32) → (Nat → Int32) → (Nat → Int32) → Prop) (K87 : Int32 → Int32 → Int32 → (Nat → Int64) → (Nat → Int64) → (Nat → Int64) → (Nat → Int32) → Int64 → Int64 → (Nat → Int64) → Int32 → Int32 → Int32 → Int32 → (Nat → Int32) → (Nat → Int32) → (Nat → Int32) → (Nat → Int32) → Prop) (K111 : Int32 → Int32 → Int32 → (Nat → Int64) → (Nat → Int64) → (Nat → Int64) → (Nat → Int32) → Int64 → Int64 → (Nat → Int64) → Int32 → Int32 → Int32 → Int32 → (Nat → Int32) → (Nat → Int32) → (Nat → Int32) → (Nat → Int32) → Prop) (x1 : Int32) (x2 : Int32) (x3 : Int32) (x4 : Int32) (x5 : Int32) (x6 : Int32) (se_isFull : Int32) (f_count : Int32) (f_heads : (Nat → Int64)) (f_lengths : (Nat → Int64)) (f_rows : (Nat → Int64)) (f_slots : (Nat → Int32)) (h_head : Int64) (h_lengths : Int64) (h_rows : (Nat → Int64)) (n_head : Int64) (n_lengths : Int64) (n_rows : (Nat → Int64)) (fi_states : Int32) (fi_ends : Int32) (fi_stepless : Int32) (fi_mostPending : Int32) (fi_endValues : (Nat → Int32)) (fi_endStates : (Nat → Int32)) (fi_parents : (Nat → Int32)) (fi_steps : (Nat → Int32)) : Prop := ∃ (I : Nat → Int32 → Int32 → Int32 → (Nat → Int64) → (Nat → Int64) → (Nat → Int64) → (Nat → Int32) → Int64 → Int64 → (Nat → Int64) → Int32 → Int32 → Int32 → Int32 → (Nat → Int32) → (Nat → Int32) → (Nat → Int32) → (Nat → Int32) → Prop) (n : Nat), I n x6 se_isFull f_count f_heads f_lengths f_rows f_slots n_head n_lengths n_rows fi_states fi_ends fi_stepless fi_mostPending fi_endValues fi_endStates fi_parents fi_steps ∧ ∀ (n : Nat) (x6 : Int32) (se_isFull : Int32) (f_count : Int32) (f_heads : (Nat → Int64)) (f_lengths : (Nat → Int64)) (f_rows : (Nat → Int64)) (f_slots : (Nat → Int32)) (n_head : Int64) (n_lengths : Int64) (n_rows : (Nat → Int64)) (fi_states : Int32) (fi_ends : Int32) (fi_stepless : Int32) (fi_mostPending : Int32) (fi_endValues : (Nat → Int32)) (fi_endStates : (Nat → Int32)) (fi_parents : (Nat → Int32)) (fi_steps : (Nat → Int32)), I n x6 se_isFull f_count f_heads f_lengths f_rows f_slots n_head n_lengths n_rows fi_states fi_ends fi_stepless fi_mostPending fi_endValues fi_endStates fi_parents fi_steps → bd_X3_goThrough_121 se_limit se_staying g_arcs g_firsts g_arcFrom g_arcTo g_weights g_firstTo g_firstValue r_settings r_told post K87 K111 (fun (x6' : Int32) (se_isFull' : Int32) (f_count' : Int32) (f_heads' : (Nat → Int64)) (f_lengths' : (Nat → Int64)) (f_rows' : (Nat → Int64)) (f_slots' : (Nat → Int32)) (n_head' : Int64) (n_lengths' : Int64) (n_rows' : (Nat → Int64)) (fi_states' : Int32) (fi_ends' : Int32) (fi_stepless' : Int32) (fi_mostPending' : Int32) (fi_endValues' : (Nat → Int32)) (fi_endStates' : (Nat → Int32)) (fi_parents' : (Nat → Int32)) (fi_steps' : (Nat → Int32)) => ∃ n', n' < n ∧ I n' x6' se_isFull' f_count' f_heads' f_lengths' f_rows' f_slots' n_head' n_lengths' n_rows' fi_states' fi_ends' fi_stepless' fi_mostPending' fi_endValues' fi_endStates' fi_parents' fi_steps') x1 x2 x3 x4 x5 x6 se_isFull f_count f_heads f_lengths f_rows f_slots h_head h_lengths h_rows n_head n_lengths n_rows fi_states fi_ends fi_stepless fi_mostPending fi_endValues fi_endStates fi_parents fi_steps
def bd_X3_goThrough_111 (se_limit : Int32) (se_staying : Int32) (g_arcs : Int32) (g_firsts : Int32) (g_arcFrom : (Nat → Int32)) (g_arcTo : (Nat → Int32)) (g_weights : (Nat → Int32)) (g_firstTo : (Nat → Int32)) (g_firstValue : (Nat → Int32)) (r_settings : (Nat → Int32)) (r_told : (Nat → Int32)) (post : Int32 → Int32 → (Nat → Int64) → (Nat → Int64) → (Nat → Int64) → (Nat → Int32) → Int64 → Int64 → (Nat → Int64) → Int64 → Int64 → (Nat → Int64) → Int32 → Int32 → Int32 → Int32 → (Nat → Int32) → (Nat → Int32) → (Nat → Int32) → (Nat → Int32) → Prop) (K87 : Int32 → Int32 → Int32 → (Nat → Int64) → (Nat → Int64) → (Nat → Int64) → (Nat → Int32) → Int64 → Int64 → (Nat → Int64) → Int32 → Int32 → Int32 → Int32 → (Nat → Int32) → (Nat → Int32) → (Nat → Int32) → (Nat → Int32) → Prop) (K111 : Int32 → Int32 → Int32 → (Nat → Int64) → (Nat → Int64) → (Nat → Int64) → (Nat → Int32) → Int64 → Int64 → (Nat → Int64) → Int32 → Int32 → Int32 → Int32 → (Nat → Int32) → (Nat → Int32) → (Nat → Int32) → (Nat → Int32) → Prop) (x1 : Int32) (x2 : Int32) (x3 : Int32) (x4 : Int32) (x5 : Int32) (se_isFull : Int32) (f_count : Int32) (f_heads : (Nat → Int64)) (f_lengths : (Nat → Int64)) (f_rows : (Nat → Int64)) (f_slots : (Nat → Int32)) (h_head : Int64) (h_lengths : Int64) (h_rows : (Nat → Int64)) (n_head : Int64) (n_lengths : Int64) (n_rows : (Nat → Int64)) (fi_states : Int32) (fi_ends : Int32) (fi_stepless : Int32) (fi_mostPending : Int32) (fi_endValues : (Nat → Int32)) (fi_endStates : (Nat → Int32)) (fi_parents : (Nat → Int32)) (fi_steps : (Nat → Int32)) : Prop := (x4 ≤ x5 → (K87 (x3 + 1) se_isFull f_count f_heads f_lengths f_rows f_slots n_head n_lengths n_rows fi_states fi_ends fi_stepless fi_mostPending fi_endValues fi_endStates fi_parents fi_steps)) ∧ (¬ x4 ≤ x5 → (wp_X3_goThrough_121 se_limit se_staying g_arcs g_firsts g_arcFrom g_arcTo g_weights g_firstTo g_firstValue r_settings r_told post K87 K111 x1 x2 x3 x4 x5 0 se_isFull f_count f_heads f_lengths f_rows f_slots h_head h_lengths h_rows n_head n_lengths n_rows fi_states fi_ends fi_stepless fi_mostPending fi_endValues fi_endStates fi_parents fi_steps))
def wp_X3_goThrough_111 (se_limit : Int32) (se_staying : Int32) (g_arcs : Int32) (g_firsts : Int32) (g_arcFrom : (Nat → Int32)) (g_arcTo : (Nat → Int32)) (g_weights : (Nat → Int32)) (g_firstTo : (Nat → Int32)) (g_firstValue : (Nat → Int32)) (r_settings : (Nat → Int32)) (r_told : (Nat → Int32)) (post : Int32 → Int32 → (Nat → Int64) → (Nat → Int64) → (Nat → Int64) → (Nat → Int32) → Int64 → Int64 → (Nat → Int64) → Int64 → Int64 → (Nat → Int64) → Int32 → Int32 → Int32 → Int32 → (Nat → Int32) → (Nat → Int32) → (Nat → Int32) → (Nat → Int32) → Prop) (K87 : Int32 → Int32 → Int32 → (Nat → Int64) → (Nat → Int64) → (Nat → Int64) → (Nat → Int32) → Int64 → Int64 → (Nat → Int64) → Int32 → Int32 → Int32 → Int32 → (Nat → Int32) → (Nat → Int32) → (Nat → Int32) → (Nat → Int32) → Prop) (x1 : Int32) (x2 : Int32) (x3 : Int32) (x4 : Int32) (x5 : Int32) (se_isFull : Int32) (f_count : Int32) (f_heads : (Nat → Int64)) (f_lengths : (Nat → Int64)) (f_rows : (Nat → Int64)) (f_slots : (Nat → Int32)) (h_head : Int64) (h_lengths : Int64) (h_rows : (Nat → Int64)) (n_head : Int64) (n_lengths : Int64) (n_rows : (Nat → Int64)) (fi_states : Int32) (fi_ends : Int32) (fi_stepless : Int32) (fi_mostPending : Int32) (fi_endValues : (Nat → Int32)) (fi_endStates : (Nat → Int32)) (fi_parents : (Nat → Int32)) (fi_steps : (Nat → Int32)) : Prop := ∃ (I : Nat → Int32 → Int32 → Int32 → (Nat → Int64) → (Nat → Int64) → (Nat → Int64) → (Nat → Int32) → Int64 → Int64 → (Nat → Int64) → Int32 → Int32 → Int32 → Int32 → (Nat → Int32) → (Nat → Int32) → (Nat → Int32) → (Nat → Int32) → Prop) (n : Nat), I n x5 se_isFull f_count f_heads f_lengths f_rows f_slots n_head n_lengths n_rows fi_states fi_ends fi_stepless fi_mostPending fi_endValues fi_endStates fi_parents fi_steps ∧ ∀ (n : Nat) (x5 : Int32) (se_isFull : Int32) (f_count : Int32) (f_heads : (Nat → Int64)) (f_lengths : (Nat → Int64)) (f_rows : (Nat → Int64)) (f_slots : (Nat → Int32)) (n_head : Int64) (n_lengths : Int64) (n_rows : (Nat → Int64)) (fi_states : Int32) (fi_ends : Int32) (fi_stepless : Int32) (fi_mostPending : Int32) (fi_endValues : (Nat → Int32)) (fi_endStates : (Nat → Int32)) (fi_parents : (Nat → Int32)) (fi_steps : (Nat → Int32)), I n x5 se_isFull f_count f_heads f_lengths f_rows f_slots n_head n_lengths n_rows fi_states fi_ends fi_stepless fi_mostPending fi_endValues fi_endStates fi_parents fi_steps → bd_X3_goThrough_111 se_limit se_staying g_arcs g_firsts g_arcFrom g_arcTo g_weights g_firstTo g_firstValue r_settings r_told post K87 (fun (x5' : Int32) (se_isFull' : Int32) (f_count' : Int32) (f_heads' : (Nat → Int64)) (f_lengths' : (Nat → Int64)) (f_rows' : (Nat → Int64)) (f_slots' : (Nat → Int32)) (n_head' : Int64) (n_lengths' : Int64) (n_rows' : (Nat → Int64)) (fi_states' : Int32) (fi_ends' : Int32) (fi_stepless' : Int32) (fi_mostPending' : Int32) (fi_endValues' : (Nat → Int32)) (fi_endStates' : (Nat → Int32)) (fi_parents' : (Nat → Int32)) (fi_steps' : (Nat → Int32)) => ∃ n', n' < n ∧ I n' x5' se_isFull' f_count' f_heads' f_lengths' f_rows' f_slots' n_head' n_lengths' n_rows' fi_states' fi_ends' fi_stepless' fi_mostPending' fi_endValues' fi_endStates' fi_parents' fi_steps') x1 x2 x3 x4 x5 se_isFull f_count f_heads f_lengths f_rows f_slots h_head h_lengths h_rows n_head n_lengths n_rows fi_states fi_ends fi_stepless fi_mostPending fi_endValues fi_endStates fi_parents fi_steps
def bd_X3_goThrough_87 (se_limit : Int32) (se_staying : Int32) (g_arcs : Int32) (g_firsts : Int32) (g_arcFrom : (Nat → Int32)) (g_arcTo : (Nat → Int32)) (g_weights : (Nat → Int32)) (g_firstTo : (Nat → Int32)) (g_firstValue : (Nat → Int32)) (r_settings : (Nat → Int32)) (r_told : (Nat → Int32)) (post : Int32 → Int32 → (Nat → Int64) → (Nat → Int64) → (Nat → Int64) → (Nat → Int32) → Int64 → Int64 → (Nat → Int64) → Int64 → Int64 → (Nat → Int64) → Int32 → Int32 → Int32 → Int32 → (Nat → Int32) → (Nat → Int32) → (Nat → Int32) → (Nat → Int32) → Prop) (K87 : Int32 → Int32 → Int32 → (Nat → Int64) → (Nat → Int64) → (Nat → Int64) → (Nat → Int32) → Int64 → Int64 → (Nat → Int64) → Int32 → Int32 → Int32 → Int32 → (Nat → Int32) → (Nat → Int32) → (Nat → Int32) → (Nat → Int32) → Prop) (x1 : Int32) (x2 : Int32) (x3 : Int32) (se_isFull : Int32) (f_count : Int32) (f_heads : (Nat → Int64)) (f_lengths : (Nat → Int64)) (f_rows : (Nat → Int64)) (f_slots : (Nat → Int32)) (h_head : Int64) (h_lengths : Int64) (h_rows : (Nat → Int64)) (n_head : Int64) (n_lengths : Int64) (n_rows : (Nat → Int64)) (fi_states : Int32) (fi_ends : Int32) (fi_stepless : Int32) (fi_mostPending : Int32) (fi_endValues : (Nat → Int32)) (fi_endStates : (Nat → Int32)) (fi_parents : (Nat → Int32)) (fi_steps : (Nat → Int32)) : Prop := (g_arcs ≤ x3 → (post se_isFull f_count f_heads f_lengths f_rows f_slots h_head h_lengths h_rows n_head n_lengths n_rows fi_states fi_ends fi_stepless fi_mostPending fi_endValues fi_endStates fi_parents fi_steps)) ∧ (¬ g_arcs ≤ x3 → (wp_X4_underWay h_lengths x3 (fun (r5 : Int32) => wp_X3_goThrough_111 se_limit se_staying g_arcs g_firsts g_arcFrom g_arcTo g_weights g_firstTo g_firstValue r_settings r_told post K87 x1 x2 x3 r5 0 se_isFull f_count f_heads f_lengths f_rows f_slots h_head h_lengths h_rows n_head n_lengths n_rows fi_states fi_ends fi_stepless fi_mostPending fi_endValues fi_endStates fi_parents fi_steps)))
def wp_X3_goThrough_87 (se_limit : Int32) (se_staying : Int32) (g_arcs : Int32) (g_firsts : Int32) (g_arcFrom : (Nat → Int32)) (g_arcTo : (Nat → Int32)) (g_weights : (Nat → Int32)) (g_firstTo : (Nat → Int32)) (g_firstValue : (Nat → Int32)) (r_settings : (Nat → Int32)) (r_told : (Nat → Int32)) (post : Int32 → Int32 → (Nat → Int64) → (Nat → Int64) → (Nat → Int64) → (Nat → Int32) → Int64 → Int64 → (Nat → Int64) → Int64 → Int64 → (Nat → Int64) → Int32 → Int32 → Int32 → Int32 → (Nat → Int32) → (Nat → Int32) → (Nat → Int32) → (Nat → Int32) → Prop) (x1 : Int32) (x2 : Int32) (x3 : Int32) (se_isFull : Int32) (f_count : Int32) (f_heads : (Nat → Int64)) (f_lengths : (Nat → Int64)) (f_rows : (Nat → Int64)) (f_slots : (Nat → Int32)) (h_head : Int64) (h_lengths : Int64) (h_rows : (Nat → Int64)) (n_head : Int64) (n_lengths : Int64) (n_rows : (Nat → Int64)) (fi_states : Int32) (fi_ends : Int32) (fi_stepless : Int32) (fi_mostPending : Int32) (fi_endValues : (Nat → Int32)) (fi_endStates : (Nat → Int32)) (fi_parents : (Nat → Int32)) (fi_steps : (Nat → Int32)) : Prop := ∃ (I : Nat → Int32 → Int32 → Int32 → (Nat → Int64) → (Nat → Int64) → (Nat → Int64) → (Nat → Int32) → Int64 → Int64 → (Nat → Int64) → Int32 → Int32 → Int32 → Int32 → (Nat → Int32) → (Nat → Int32) → (Nat → Int32) → (Nat → Int32) → Prop) (n : Nat), I n x3 se_isFull f_count f_heads f_lengths f_rows f_slots n_head n_lengths n_rows fi_states fi_ends fi_stepless fi_mostPending fi_endValues fi_endStates fi_parents fi_steps ∧ ∀ (n : Nat) (x3 : Int32) (se_isFull : Int32) (f_count : Int32) (f_heads : (Nat → Int64)) (f_lengths : (Nat → Int64)) (f_rows : (Nat → Int64)) (f_slots : (Nat → Int32)) (n_head : Int64) (n_lengths : Int64) (n_rows : (Nat → Int64)) (fi_states : Int32) (fi_ends : Int32) (fi_stepless : Int32) (fi_mostPending : Int32) (fi_endValues : (Nat → Int32)) (fi_endStates : (Nat → Int32)) (fi_parents : (Nat → Int32)) (fi_steps : (Nat → Int32)), I n x3 se_isFull f_count f_heads f_lengths f_rows f_slots n_head n_lengths n_rows fi_states fi_ends fi_stepless fi_mostPending fi_endValues fi_endStates fi_parents fi_steps → bd_X3_goThrough_87 se_limit se_staying g_arcs g_firsts g_arcFrom g_arcTo g_weights g_firstTo g_firstValue r_settings r_told post (fun (x3' : Int32) (se_isFull' : Int32) (f_count' : Int32) (f_heads' : (Nat → Int64)) (f_lengths' : (Nat → Int64)) (f_rows' : (Nat → Int64)) (f_slots' : (Nat → Int32)) (n_head' : Int64) (n_lengths' : Int64) (n_rows' : (Nat → Int64)) (fi_states' : Int32) (fi_ends' : Int32) (fi_stepless' : Int32) (fi_mostPending' : Int32) (fi_endValues' : (Nat → Int32)) (fi_endStates' : (Nat → Int32)) (fi_parents' : (Nat → Int32)) (fi_steps' : (Nat → Int32)) => ∃ n', n' < n ∧ I n' x3' se_isFull' f_count' f_heads' f_lengths' f_rows' f_slots' n_head' n_lengths' n_rows' fi_states' fi_ends' fi_stepless' fi_mostPending' fi_endValues' fi_endStates' fi_parents' fi_steps') x1 x2 x3 se_isFull f_count f_heads f_lengths f_rows f_slots h_head h_lengths h_rows n_head n_lengths n_rows fi_states fi_ends fi_stepless fi_mostPending fi_endValues fi_endStates fi_parents fi_steps
def bd_X3_goThrough_30 (se_limit : Int32) (se_staying : Int32) (g_arcs : Int32) (g_firsts : Int32) (g_arcFrom : (Nat → Int32)) (g_arcTo : (Nat → Int32)) (g_weights : (Nat → Int32)) (g_firstTo : (Nat → Int32)) (g_firstValue : (Nat → Int32)) (r_settings : (Nat → Int32)) (r_told : (Nat → Int32)) (post : Int32 → Int32 → (Nat → Int64) → (Nat → Int64) → (Nat → Int64) → (Nat → Int32) → Int64 → Int64 → (Nat → Int64) → Int64 → Int64 → (Nat → Int64) → Int32 → Int32 → Int32 → Int32 → (Nat → Int32) → (Nat → Int32) → (Nat → Int32) → (Nat → Int32) → Prop) (K30 : Int32 → Int32 → Int32 → (Nat → Int64) → (Nat → Int64) → (Nat → Int64) → (Nat → Int32) → Int64 → Int64 → (Nat → Int64) → Int32 → Int32 → Int32 → Int32 → (Nat → Int32) → (Nat → Int32) → (Nat → Int32) → (Nat → Int32) → Prop) (x1 : Int32) (x2 : Int32) (x3 : Int32) (se_isFull : Int32) (f_count : Int32) (f_heads : (Nat → Int64)) (f_lengths : (Nat → Int64)) (f_rows : (Nat → Int64)) (f_slots : (Nat → Int32)) (h_head : Int64) (h_lengths : Int64) (h_rows : (Nat → Int64)) (n_head : Int64) (n_lengths : Int64) (n_rows : (Nat → Int64)) (fi_states : Int32) (fi_ends : Int32) (fi_stepless : Int32) (fi_mostPending : Int32) (fi_endValues : (Nat → Int32)) (fi_endStates : (Nat → Int32)) (fi_parents : (Nat → Int32)) (fi_steps : (Nat → Int32)) : Prop := (g_firsts ≤ x3 → (wp_X3_goThrough_87 se_limit se_staying g_arcs g_firsts g_arcFrom g_arcTo g_weights g_firstTo g_firstValue r_settings r_told post x1 x2 0 se_isFull f_count f_heads f_lengths f_rows f_slots h_head h_lengths h_rows n_head n_lengths n_rows fi_states fi_ends fi_stepless fi_mostPending fi_endValues fi_endStates fi_parents fi_steps)) ∧ (¬ g_firsts ≤ x3 → (wp_X3_goThrough_44 se_limit se_staying g_arcs g_firsts g_arcFrom g_arcTo g_weights g_firstTo g_firstValue r_settings r_told post K30 x1 x2 x3 0 se_isFull f_count f_heads f_lengths f_rows f_slots h_head h_lengths h_rows n_head n_lengths n_rows fi_states fi_ends fi_stepless fi_mostPending fi_endValues fi_endStates fi_parents fi_steps))
def wp_X3_goThrough_30 (se_limit : Int32) (se_staying : Int32) (g_arcs : Int32) (g_firsts : Int32) (g_arcFrom : (Nat → Int32)) (g_arcTo : (Nat → Int32)) (g_weights : (Nat → Int32)) (g_firstTo : (Nat → Int32)) (g_firstValue : (Nat → Int32)) (r_settings : (Nat → Int32)) (r_told : (Nat → Int32)) (post : Int32 → Int32 → (Nat → Int64) → (Nat → Int64) → (Nat → Int64) → (Nat → Int32) → Int64 → Int64 → (Nat → Int64) → Int64 → Int64 → (Nat → Int64) → Int32 → Int32 → Int32 → Int32 → (Nat → Int32) → (Nat → Int32) → (Nat → Int32) → (Nat → Int32) → Prop) (x1 : Int32) (x2 : Int32) (x3 : Int32) (se_isFull : Int32) (f_count : Int32) (f_heads : (Nat → Int64)) (f_lengths : (Nat → Int64)) (f_rows : (Nat → Int64)) (f_slots : (Nat → Int32)) (h_head : Int64) (h_lengths : Int64) (h_rows : (Nat → Int64)) (n_head : Int64) (n_lengths : Int64) (n_rows : (Nat → Int64)) (fi_states : Int32) (fi_ends : Int32) (fi_stepless : Int32) (fi_mostPending : Int32) (fi_endValues : (Nat → Int32)) (fi_endStates : (Nat → Int32)) (fi_parents : (Nat → Int32)) (fi_steps : (Nat → Int32)) : Prop := ∃ (I : Nat → Int32 → Int32 → Int32 → (Nat → Int64) → (Nat → Int64) → (Nat → Int64) → (Nat → Int32) → Int64 → Int64 → (Nat → Int64) → Int32 → Int32 → Int32 → Int32 → (Nat → Int32) → (Nat → Int32) → (Nat → Int32) → (Nat → Int32) → Prop) (n : Nat), I n x3 se_isFull f_count f_heads f_lengths f_rows f_slots n_head n_lengths n_rows fi_states fi_ends fi_stepless fi_mostPending fi_endValues fi_endStates fi_parents fi_steps ∧ ∀ (n : Nat) (x3 : Int32) (se_isFull : Int32) (f_count : Int32) (f_heads : (Nat → Int64)) (f_lengths : (Nat → Int64)) (f_rows : (Nat → Int64)) (f_slots : (Nat → Int32)) (n_head : Int64) (n_lengths : Int64) (n_rows : (Nat → Int64)) (fi_states : Int32) (fi_ends : Int32) (fi_stepless : Int32) (fi_mostPending : Int32) (fi_endValues : (Nat → Int32)) (fi_endStates : (Nat → Int32)) (fi_parents : (Nat → Int32)) (fi_steps : (Nat → Int32)), I n x3 se_isFull f_count f_heads f_lengths f_rows f_slots n_head n_lengths n_rows fi_states fi_ends fi_stepless fi_mostPending fi_endValues fi_endStates fi_parents fi_steps → bd_X3_goThrough_30 se_limit se_staying g_arcs g_firsts g_arcFrom g_arcTo g_weights g_firstTo g_firstValue r_settings r_told post (fun (x3' : Int32) (se_isFull' : Int32) (f_count' : Int32) (f_heads' : (Nat → Int64)) (f_lengths' : (Nat → Int64)) (f_rows' : (Nat → Int64)) (f_slots' : (Nat → Int32)) (n_head' : Int64) (n_lengths' : Int64) (n_rows' : (Nat → Int64)) (fi_states' : Int32) (fi_ends' : Int32) (fi_stepless' : Int32) (fi_mostPending' : Int32) (fi_endValues' : (Nat → Int32)) (fi_endStates' : (Nat → Int32)) (fi_parents' : (Nat → Int32)) (fi_steps' : (Nat → Int32)) => ∃ n', n' < n ∧ I n' x3' se_isFull' f_count' f_heads' f_lengths' f_rows' f_slots' n_head' n_lengths' n_rows' fi_states' fi_ends' fi_stepless' fi_mostPending' fi_endValues' fi_endStates' fi_parents' fi_steps') x1 x2 x3 se_isFull f_count f_heads f_lengths f_rows f_slots h_head h_lengths h_rows n_head n_lengths n_rows fi_states fi_ends fi_stepless fi_mostPending fi_endValues fi_endStates fi_parents fi_steps
def wp_X3_goThrough_27 (se_limit : Int32) (se_staying : Int32) (g_arcs : Int32) (g_firsts : Int32) (g_arcFrom : (Nat → Int32)) (g_arcTo : (Nat → Int32)) (g_weights : (Nat → Int32)) (g_firstTo : (Nat → Int32)) (g_firstValue : (Nat → Int32)) (r_settings : (Nat → Int32)) (r_told : (Nat → Int32)) (post : Int32 → Int32 → (Nat → Int64) → (Nat → Int64) → (Nat → Int64) → (Nat → Int32) → Int64 → Int64 → (Nat → Int64) → Int64 → Int64 → (Nat → Int64) → Int32 → Int32 → Int32 → Int32 → (Nat → Int32) → (Nat → Int32) → (Nat → Int32) → (Nat → Int32) → Prop) (x1 : Int32) (t0 : Int32) (se_isFull : Int32) (f_count : Int32) (f_heads : (Nat → Int64)) (f_lengths : (Nat → Int64)) (f_rows : (Nat → Int64)) (f_slots : (Nat → Int32)) (h_head : Int64) (h_lengths : Int64) (h_rows : (Nat → Int64)) (n_head : Int64) (n_lengths : Int64) (n_rows : (Nat → Int64)) (fi_states : Int32) (fi_ends : Int32) (fi_stepless : Int32) (fi_mostPending : Int32) (fi_endValues : (Nat → Int32)) (fi_endStates : (Nat → Int32)) (fi_parents : (Nat → Int32)) (fi_steps : (Nat → Int32)) : Prop := wp_X3_goThrough_30 se_limit se_staying g_arcs g_firsts g_arcFrom g_arcTo g_weights g_firstTo g_firstValue r_settings r_told post x1 t0 0 se_isFull f_count f_heads f_lengths f_rows f_slots h_head h_lengths h_rows n_head n_lengths n_rows fi_states fi_ends fi_stepless fi_mostPending fi_endValues fi_endStates fi_parents fi_steps
def wp_X3_goThrough_0 (se_limit : Int32) (se_staying : Int32) (g_arcs : Int32) (g_firsts : Int32) (g_arcFrom : (Nat → Int32)) (g_arcTo : (Nat → Int32)) (g_weights : (Nat → Int32)) (g_firstTo : (Nat → Int32)) (g_firstValue : (Nat → Int32)) (r_settings : (Nat → Int32)) (r_told : (Nat → Int32)) (post : Int32 → Int32 → (Nat → Int64) → (Nat → Int64) → (Nat → Int64) → (Nat → Int32) → Int64 → Int64 → (Nat → Int64) → Int64 → Int64 → (Nat → Int64) → Int32 → Int32 → Int32 → Int32 → (Nat → Int32) → (Nat → Int32) → (Nat → Int32) → (Nat → Int32) → Prop) (x1 : Int32) (se_isFull : Int32) (f_count : Int32) (f_heads : (Nat → Int64)) (f_lengths : (Nat → Int64)) (f_rows : (Nat → Int64)) (f_slots : (Nat → Int32)) (h_head : Int64) (h_lengths : Int64) (h_rows : (Nat → Int64)) (n_head : Int64) (n_lengths : Int64) (n_rows : (Nat → Int64)) (fi_states : Int32) (fi_ends : Int32) (fi_stepless : Int32) (fi_mostPending : Int32) (fi_endValues : (Nat → Int32)) (fi_endStates : (Nat → Int32)) (fi_parents : (Nat → Int32)) (fi_steps : (Nat → Int32)) : Prop := wp_X5_load f_heads f_lengths f_rows h_head h_lengths h_rows x1 (fun (h_head_1 : Int64) (h_lengths_2 : Int64) (h_rows_3 : (Nat → Int64)) => wp_X4_doublesLeft h_head_1 (fun (r4 : Int32) => (r4 ≤ 0 → (wp_X3_goThrough_27 se_limit se_staying g_arcs g_firsts g_arcFrom g_arcTo g_weights g_firstTo g_firstValue r_settings r_told post x1 1 se_isFull f_count f_heads f_lengths f_rows f_slots h_head_1 h_lengths_2 h_rows_3 n_head n_lengths n_rows fi_states fi_ends fi_stepless fi_mostPending fi_endValues fi_endStates fi_parents fi_steps)) ∧ (¬ r4 ≤ 0 → (wp_X3_goThrough_27 se_limit se_staying g_arcs g_firsts g_arcFrom g_arcTo g_weights g_firstTo g_firstValue r_settings r_told post x1 2 se_isFull f_count f_heads f_lengths f_rows f_slots h_head_1 h_lengths_2 h_rows_3 n_head n_lengths n_rows fi_states fi_ends fi_stepless fi_mostPending fi_endValues fi_endStates fi_parents fi_steps))))
abbrev wp_X3_goThrough (se_limit : Int32) (se_staying : Int32) (se_isFull : Int32) (g_arcs : Int32) (g_firsts : Int32) (g_arcFrom : (Nat → Int32)) (g_arcTo : (Nat → Int32)) (g_weights : (Nat → Int32)) (g_firstTo : (Nat → Int32)) (g_firstValue : (Nat → Int32)) (r_settings : (Nat → Int32)) (r_told : (Nat → Int32)) (f_count : Int32) (f_heads : (Nat → Int64)) (f_lengths : (Nat → Int64)) (f_rows : (Nat → Int64)) (f_slots : (Nat → Int32)) (h_head : Int64) (h_lengths : Int64) (h_rows : (Nat → Int64)) (n_head : Int64) (n_lengths : Int64) (n_rows : (Nat → Int64)) (fi_states : Int32) (fi_ends : Int32) (fi_stepless : Int32) (fi_mostPending : Int32) (fi_endValues : (Nat → Int32)) (fi_endStates : (Nat → Int32)) (fi_parents : (Nat → Int32)) (fi_steps : (Nat → Int32)) (x1 : Int32) (post : Int32 → Int32 → (Nat → Int64) → (Nat → Int64) → (Nat → Int64) → (Nat → Int32) → Int64 → Int64 → (Nat → Int64) → Int64 → Int64 → (Nat → Int64) → Int32 → Int32 → Int32 → Int32 → (Nat → Int32) → (Nat → Int32) → (Nat → Int32) → (Nat → Int32) → Prop) : Prop := wp_X3_goThrough_0 se_limit se_staying g_arcs g_firsts g_arcFrom g_arcTo g_weights g_firstTo g_firstValue r_settings r_told post x1 se_isFull f_count f_heads f_lengths f_rows f_slots h_head h_lengths h_rows n_head n_lengths n_rows fi_states fi_ends fi_stepless fi_mostPending fi_endValues fi_endStates fi_parents fi_steps
def wp_X3_run_106 (g_vertices : Int32) (g_arcs : Int32) (g_firsts : Int32) (g_begins : (Nat → Int32)) (g_arcFrom : (Nat → Int32)) (g_arcTo : (Nat → Int32)) (g_weights : (Nat → Int32)) (g_firstTo : (Nat → Int32)) (g_firstValue : (Nat → Int32)) (r_settings : (Nat → Int32)) (r_told : (Nat → Int32)) (post : Int32 → Int32 → Int32 → Int32 → (Nat → Int64) → (Nat → Int64) → (Nat → Int64) → (Nat → Int32) → Int64 → Int64 → (Nat → Int64) → Int64 → Int64 → (Nat → Int64) → Int32 → Int32 → Int32 → Int32 → Int32 → Int32 → (Nat → Int32) → (Nat → Int32) → (Nat → Int32) → (Nat → Int32) → Prop) (se_limit : Int32) (se_staying : Int32) (se_isFull : Int32) (f_count : Int32) (f_heads : (Nat → Int64)) (f_lengths : (Nat → Int64)) (f_rows : (Nat → Int64)) (f_slots : (Nat → Int32)) (h_head : Int64) (h_lengths : Int64) (h_rows : (Nat → Int64)) (n_head : Int64) (n_lengths : Int64) (n_rows : (Nat → Int64)) (fi_states : Int32) (fi_vertices : Int32) (fi_ends : Int32) (fi_stepless : Int32) (fi_mostPending : Int32) (fi_whole : Int32) (fi_endValues : (Nat → Int32)) (fi_endStates : (Nat → Int32)) (fi_parents : (Nat → Int32)) (fi_steps : (Nat → Int32)) : Prop := (¬ se_isFull = 0 → (post se_limit se_staying se_isFull f_count f_heads f_lengths f_rows f_slots h_head h_lengths h_rows n_head n_lengths n_rows fi_states fi_vertices fi_ends fi_stepless fi_mostPending (0 : Int32) fi_endValues fi_endStates fi_parents fi_steps)) ∧ (se_isFull = 0 → (post se_limit se_staying se_isFull f_count f_heads f_lengths f_rows f_slots h_head h_lengths h_rows n_head n_lengths n_rows fi_states fi_vertices fi_ends fi_stepless fi_mostPending (1 : Int32) fi_endValues fi_endStates fi_parents fi_steps))
def bd_X3_run_67 (g_vertices : Int32) (g_arcs : Int32) (g_firsts : Int32) (g_begins : (Nat → Int32)) (g_arcFrom : (Nat → Int32)) (g_arcTo : (Nat → Int32)) (g_weights : (Nat → Int32)) (g_firstTo : (Nat → Int32)) (g_firstValue : (Nat → Int32)) (r_settings : (Nat → Int32)) (r_told : (Nat → Int32)) (post : Int32 → Int32 → Int32 → Int32 → (Nat → Int64) → (Nat → Int64) → (Nat → Int64) → (Nat → Int32) → Int64 → Int64 → (Nat → Int64) → Int64 → Int64 → (Nat → Int64) → Int32 → Int32 → Int32 → Int32 → Int32 → Int32 → (Nat → Int32) → (Nat → Int32) → (Nat → Int32) → (Nat → Int32) → Prop) (K67 : Int32 → Int32 → Int32 → (Nat → Int64) → (Nat → Int64) → (Nat → Int64) → (Nat → Int32) → Int64 → Int64 → (Nat → Int64) → Int64 → Int64 → (Nat → Int64) → Int32 → Int32 → Int32 → Int32 → (Nat → Int32) → (Nat → Int32) → (Nat → Int32) → (Nat → Int32) → Prop) (x4 : Int32) (se_limit : Int32) (se_staying : Int32) (se_isFull : Int32) (f_count : Int32) (f_heads : (Nat → Int64)) (f_lengths : (Nat → Int64)) (f_rows : (Nat → Int64)) (f_slots : (Nat → Int32)) (h_head : Int64) (h_lengths : Int64) (h_rows : (Nat → Int64)) (n_head : Int64) (n_lengths : Int64) (n_rows : (Nat → Int64)) (fi_states : Int32) (fi_vertices : Int32) (fi_ends : Int32) (fi_stepless : Int32) (fi_mostPending : Int32) (fi_whole : Int32) (fi_endValues : (Nat → Int32)) (fi_endStates : (Nat → Int32)) (fi_parents : (Nat → Int32)) (fi_steps : (Nat → Int32)) : Prop := (f_count ≤ x4 → (wp_X3_run_106 g_vertices g_arcs g_firsts g_begins g_arcFrom g_arcTo g_weights g_firstTo g_firstValue r_settings r_told post se_limit se_staying se_isFull f_count f_heads f_lengths f_rows f_slots h_head h_lengths h_rows n_head n_lengths n_rows fi_states fi_vertices fi_ends fi_stepless fi_mostPending fi_whole fi_endValues fi_endStates fi_parents fi_steps)) ∧ (¬ f_count ≤ x4 → ((600 ≤ x4 → (wp_X3_run_106 g_vertices g_arcs g_firsts g_begins g_arcFrom g_arcTo g_weights g_firstTo g_firstValue r_settings r_told post se_limit se_staying se_isFull f_count f_heads f_lengths f_rows f_slots h_head h_lengths h_rows n_head n_lengths n_rows fi_states fi_vertices fi_ends fi_stepless fi_mostPending fi_whole fi_endValues fi_endStates fi_parents fi_steps)) ∧ (¬ 600 ≤ x4 → ((¬ se_isFull = 0 → (wp_X3_run_106 g_vertices g_arcs g_firsts g_begins g_arcFrom g_arcTo g_weights g_firstTo g_firstValue r_settings r_told post se_limit se_staying se_isFull f_count f_heads f_lengths f_rows f_slots h_head h_lengths h_rows n_head n_lengths n_rows fi_states fi_vertices fi_ends fi_stepless fi_mostPending fi_whole fi_endValues fi_endStates fi_parents fi_steps)) ∧ (se_isFull = 0 → (wp_X3_goThrough se_limit se_staying se_isFull g_arcs g_firsts g_arcFrom g_arcTo g_weights g_firstTo g_firstValue r_settings r_told f_count f_heads f_lengths f_rows f_slots h_head h_lengths h_rows n_head n_lengths n_rows fi_states fi_ends fi_stepless fi_mostPending fi_endValues fi_endStates fi_parents fi_steps x4 (fun (se_isFull_27 : Int32) (f_count_28 : Int32) (f_heads_29 : (Nat → Int64)) (f_lengths_30 : (Nat → Int64)) (f_rows_31 : (Nat → Int64)) (f_slots_32 : (Nat → Int32)) (h_head_33 : Int64) (h_lengths_34 : Int64) (h_rows_35 : (Nat → Int64)) (n_head_36 : Int64) (n_lengths_37 : Int64) (n_rows_38 : (Nat → Int64)) (fi_states_39 : Int32) (fi_ends_40 : Int32) (fi_stepless_41 : Int32) (fi_mostPending_42 : Int32) (fi_endValues_43 : (Nat → Int32)) (fi_endStates_44 : (Nat → Int32)) (fi_parents_45 : (Nat → Int32)) (fi_steps_46 : (Nat → Int32)) => K67 (x4 + 1) se_isFull_27 f_count_28 f_heads_29 f_lengths_30 f_rows_31 f_slots_32 h_head_33 h_lengths_34 h_rows_35 n_head_36 n_lengths_37 n_rows_38 fi_states_39 fi_ends_40 fi_stepless_41 fi_mostPending_42 fi_endValues_43 fi_endStates_44 fi_parents_45 fi_steps_46)))))))
def wp_X3_run_67 (g_vertices : Int32) (g_arcs : Int32) (g_firsts : Int32) (g_begins : (Nat → Int32)) (g_arcFrom : (Nat → Int32)) (g_arcTo : (Nat → Int32)) (g_weights : (Nat → Int32)) (g_firstTo : (Nat → Int32)) (g_firstValue : (Nat → Int32)) (r_settings : (Nat → Int32)) (r_told : (Nat → Int32)) (post : Int32 → Int32 → Int32 → Int32 → (Nat → Int64) → (Nat → Int64) → (Nat → Int64) → (Nat → Int32) → Int64 → Int64 → (Nat → Int64) → Int64 → Int64 → (Nat → Int64) → Int32 → Int32 → Int32 → Int32 → Int32 → Int32 → (Nat → Int32) → (Nat → Int32) → (Nat → Int32) → (Nat → Int32) → Prop) (x4 : Int32) (se_limit : Int32) (se_staying : Int32) (se_isFull : Int32) (f_count : Int32) (f_heads : (Nat → Int64)) (f_lengths : (Nat → Int64)) (f_rows : (Nat → Int64)) (f_slots : (Nat → Int32)) (h_head : Int64) (h_lengths : Int64) (h_rows : (Nat → Int64)) (n_head : Int64) (n_lengths : Int64) (n_rows : (Nat → Int64)) (fi_states : Int32) (fi_vertices : Int32) (fi_ends : Int32) (fi_stepless : Int32) (fi_mostPending : Int32) (fi_whole : Int32) (fi_endValues : (Nat → Int32)) (fi_endStates : (Nat → Int32)) (fi_parents : (Nat → Int32)) (fi_steps : (Nat → Int32)) : Prop := ∃ (I : Nat → Int32 → Int32 → Int32 → (Nat → Int64) → (Nat → Int64) → (Nat → Int64) → (Nat → Int32) → Int64 → Int64 → (Nat → Int64) → Int64 → Int64 → (Nat → Int64) → Int32 → Int32 → Int32 → Int32 → (Nat → Int32) → (Nat → Int32) → (Nat → Int32) → (Nat → Int32) → Prop) (n : Nat), I n x4 se_isFull f_count f_heads f_lengths f_rows f_slots h_head h_lengths h_rows n_head n_lengths n_rows fi_states fi_ends fi_stepless fi_mostPending fi_endValues fi_endStates fi_parents fi_steps ∧ ∀ (n : Nat) (x4 : Int32) (se_isFull : Int32) (f_count : Int32) (f_heads : (Nat → Int64)) (f_lengths : (Nat → Int64)) (f_rows : (Nat → Int64)) (f_slots : (Nat → Int32)) (h_head : Int64) (h_lengths : Int64) (h_rows : (Nat → Int64)) (n_head : Int64) (n_lengths : Int64) (n_rows : (Nat → Int64)) (fi_states : Int32) (fi_ends : Int32) (fi_stepless : Int32) (fi_mostPending : Int32) (fi_endValues : (Nat → Int32)) (fi_endStates : (Nat → Int32)) (fi_parents : (Nat → Int32)) (fi_steps : (Nat → Int32)), I n x4 se_isFull f_count f_heads f_lengths f_rows f_slots h_head h_lengths h_rows n_head n_lengths n_rows fi_states fi_ends fi_stepless fi_mostPending fi_endValues fi_endStates fi_parents fi_steps → bd_X3_run_67 g_vertices g_arcs g_firsts g_begins g_arcFrom g_arcTo g_weights g_firstTo g_firstValue r_settings r_told post (fun (x4' : Int32) (se_isFull' : Int32) (f_count' : Int32) (f_heads' : (Nat → Int64)) (f_lengths' : (Nat → Int64)) (f_rows' : (Nat → Int64)) (f_slots' : (Nat → Int32)) (h_head' : Int64) (h_lengths' : Int64) (h_rows' : (Nat → Int64)) (n_head' : Int64) (n_lengths' : Int64) (n_rows' : (Nat → Int64)) (fi_states' : Int32) (fi_ends' : Int32) (fi_stepless' : Int32) (fi_mostPending' : Int32) (fi_endValues' : (Nat → Int32)) (fi_endStates' : (Nat → Int32)) (fi_parents' : (Nat → Int32)) (fi_steps' : (Nat → Int32)) => ∃ n', n' < n ∧ I n' x4' se_isFull' f_count' f_heads' f_lengths' f_rows' f_slots' h_head' h_lengths' h_rows' n_head' n_lengths' n_rows' fi_states' fi_ends' fi_stepless' fi_mostPending' fi_endValues' fi_endStates' fi_parents' fi_steps') x4 se_limit se_staying se_isFull f_count f_heads f_lengths f_rows f_slots h_head h_lengths h_rows n_head n_lengths n_rows fi_states fi_vertices fi_ends fi_stepless fi_mostPending fi_whole fi_endValues fi_endStates fi_parents fi_steps
def wp_X3_run_0 (g_vertices : Int32) (g_arcs : Int32) (g_firsts : Int32) (g_begins : (Nat → Int32)) (g_arcFrom : (Nat → Int32)) (g_arcTo : (Nat → Int32)) (g_weights : (Nat → Int32)) (g_firstTo : (Nat → Int32)) (g_firstValue : (Nat → Int32)) (r_settings : (Nat → Int32)) (r_told : (Nat → Int32)) (post : Int32 → Int32 → Int32 → Int32 → (Nat → Int64) → (Nat → Int64) → (Nat → Int64) → (Nat → Int32) → Int64 → Int64 → (Nat → Int64) → Int64 → Int64 → (Nat → Int64) → Int32 → Int32 → Int32 → Int32 → Int32 → Int32 → (Nat → Int32) → (Nat → Int32) → (Nat → Int32) → (Nat → Int32) → Prop) (x1 : Int32) (x2 : Int32) (se_limit : Int32) (se_staying : Int32) (se_isFull : Int32) (f_count : Int32) (f_heads : (Nat → Int64)) (f_lengths : (Nat → Int64)) (f_rows : (Nat → Int64)) (f_slots : (Nat → Int32)) (h_head : Int64) (h_lengths : Int64) (h_rows : (Nat → Int64)) (n_head : Int64) (n_lengths : Int64) (n_rows : (Nat → Int64)) (fi_states : Int32) (fi_vertices : Int32) (fi_ends : Int32) (fi_stepless : Int32) (fi_mostPending : Int32) (fi_whole : Int32) (fi_endValues : (Nat → Int32)) (fi_endStates : (Nat → Int32)) (fi_parents : (Nat → Int32)) (fi_steps : (Nat → Int32)) : Prop := wp_X5_clear f_count f_slots (fun (f_count_1 : Int32) (f_slots_2 : (Nat → Int32)) => wp_X0_clear fi_states fi_vertices fi_ends fi_stepless fi_mostPending fi_whole g_vertices (fun (fi_states_3 : Int32) (fi_vertices_4 : Int32) (fi_ends_5 : Int32) (fi_stepless_6 : Int32) (fi_mostPending_7 : Int32) (fi_whole_8 : Int32) => vp_in 5 6 ∧ (wp_X4_begin n_head n_lengths n_rows g_vertices g_begins (r_settings (5 : Int32).toNatClampNeg) (fun (n_head_10 : Int64) (n_lengths_11 : Int64) (n_rows_12 : (Nat → Int64)) => wp_X3_keepNext x1 (0 : Int32) g_firsts f_count_1 f_heads f_lengths f_rows f_slots_2 n_head_10 n_lengths_11 n_rows_12 fi_states_3 fi_ends_5 fi_stepless_6 fi_mostPending_7 fi_endValues fi_endStates fi_parents fi_steps 0 0 (fun (se_isFull_13 : Int32) (f_count_14 : Int32) (f_heads_15 : (Nat → Int64)) (f_lengths_16 : (Nat → Int64)) (f_rows_17 : (Nat → Int64)) (f_slots_18 : (Nat → Int32)) (fi_states_19 : Int32) (fi_ends_20 : Int32) (fi_stepless_21 : Int32) (fi_mostPending_22 : Int32) (fi_endValues_23 : (Nat → Int32)) (fi_endStates_24 : (Nat → Int32)) (fi_parents_25 : (Nat → Int32)) (fi_steps_26 : (Nat → Int32)) => wp_X3_run_67 g_vertices g_arcs g_firsts g_begins g_arcFrom g_arcTo g_weights g_firstTo g_firstValue r_settings r_told post 0 x1 x2 se_isFull_13 f_count_14 f_heads_15 f_lengths_16 f_rows_17 f_slots_18 h_head h_lengths h_rows n_head_10 n_lengths_11 n_rows_12 fi_states_19 fi_vertices_4 fi_ends_20 fi_stepless_21 fi_mostPending_22 fi_whole_8 fi_endValues_23 fi_endStates_24 fi_parents_25 fi_steps_26)))))
abbrev wp_X3_run (se_limit : Int32) (se_staying : Int32) (se_isFull : Int32) (g_vertices : Int32) (g_arcs : Int32) (g_firsts : Int32) (g_begins : (Nat → Int32)) (g_arcFrom : (Nat → Int32)) (g_arcTo : (Nat → Int32)) (g_weights : (Nat → Int32)) (g_firstTo : (Nat → Int32)) (g_firstValue : (Nat → Int32)) (r_settings : (Nat → Int32)) (r_told : (Nat → Int32)) (f_count : Int32) (f_heads : (Nat → Int64)) (f_lengths : (Nat → Int64)) (f_rows : (Nat → Int64)) (f_slots : (Nat → Int32)) (h_head : Int64) (h_lengths : Int64) (h_rows : (Nat → Int64)) (n_head : Int64) (n_lengths : Int64) (n_rows : (Nat → Int64)) (fi_states : Int32) (fi_vertices : Int32) (fi_ends : Int32) (fi_stepless : Int32) (fi_mostPending : Int32) (fi_whole : Int32) (fi_endValues : (Nat → Int32)) (fi_endStates : (Nat → Int32)) (fi_parents : (Nat → Int32)) (fi_steps : (Nat → Int32)) (x1 : Int32) (x2 : Int32) (post : Int32 → Int32 → Int32 → Int32 → (Nat → Int64) → (Nat → Int64) → (Nat → Int64) → (Nat → Int32) → Int64 → Int64 → (Nat → Int64) → Int64 → Int64 → (Nat → Int64) → Int32 → Int32 → Int32 → Int32 → Int32 → Int32 → (Nat → Int32) → (Nat → Int32) → (Nat → Int32) → (Nat → Int32) → Prop) : Prop := wp_X3_run_0 g_vertices g_arcs g_firsts g_begins g_arcFrom g_arcTo g_weights g_firstTo g_firstValue r_settings r_told post x1 x2 se_limit se_staying se_isFull f_count f_heads f_lengths f_rows f_slots h_head h_lengths h_rows n_head n_lengths n_rows fi_states fi_vertices fi_ends fi_stepless fi_mostPending fi_whole fi_endValues fi_endStates fi_parents fi_steps
def wp_X7_vertex_0 (post : Int32 → Int32 → (Nat → Int32) → Prop) (x1 : Int32) (g_vertices : Int32) (g_begins : (Nat → Int32)) : Prop := wp_X7_isValue x1 (fun (r1 : Int32) => (¬ r1 = 0 → (wp_X1_addVertex g_vertices g_begins x1 (fun (r2 : Int32) (g_vertices_3 : Int32) (g_begins_4 : (Nat → Int32)) => post r2 g_vertices_3 g_begins_4))) ∧ (r1 = 0 → (post (-102) g_vertices g_begins)))
abbrev wp_X7_vertex (g_vertices : Int32) (g_begins : (Nat → Int32)) (x1 : Int32) (post : Int32 → Int32 → (Nat → Int32) → Prop) : Prop := wp_X7_vertex_0 post x1 g_vertices g_begins
def wp_X7_arc_0 (g_vertices : Int32) (post : Int32 → Int32 → (Nat → Int32) → (Nat → Int32) → (Nat → Int32) → Prop) (x1 : Int32) (x2 : Int32) (x3 : Int32) (g_arcs : Int32) (g_arcFrom : (Nat → Int32)) (g_arcTo : (Nat → Int32)) (g_weights : (Nat → Int32)) : Prop := wp_X1_hasVertex g_vertices x1 (fun (r1 : Int32) => (r1 = 0 → (post (-101) g_arcs g_arcFrom g_arcTo g_weights)) ∧ (¬ r1 = 0 → (wp_X1_hasVertex g_vertices x2 (fun (r2 : Int32) => (¬ r2 = 0 → (wp_X7_isValue x3 (fun (r3 : Int32) => (¬ r3 = 0 → (wp_X1_addArc g_arcs g_arcFrom g_arcTo g_weights x1 x2 x3 (fun (r4 : Int32) (g_arcs_5 : Int32) (g_arcFrom_6 : (Nat → Int32)) (g_arcTo_7 : (Nat → Int32)) (g_weights_8 : (Nat → Int32)) => post r4 g_arcs_5 g_arcFrom_6 g_arcTo_7 g_weights_8))) ∧ (r3 = 0 → (post (-102) g_arcs g_arcFrom g_arcTo g_weights))))) ∧ (r2 = 0 → (post (-101) g_arcs g_arcFrom g_arcTo g_weights))))))
abbrev wp_X7_arc (g_vertices : Int32) (g_arcs : Int32) (g_arcFrom : (Nat → Int32)) (g_arcTo : (Nat → Int32)) (g_weights : (Nat → Int32)) (x1 : Int32) (x2 : Int32) (x3 : Int32) (post : Int32 → Int32 → (Nat → Int32) → (Nat → Int32) → (Nat → Int32) → Prop) : Prop := wp_X7_arc_0 g_vertices post x1 x2 x3 g_arcs g_arcFrom g_arcTo g_weights
def wp_X7_first_0 (g_vertices : Int32) (post : Int32 → Int32 → (Nat → Int32) → (Nat → Int32) → Prop) (x1 : Int32) (x2 : Int32) (g_firsts : Int32) (g_firstTo : (Nat → Int32)) (g_firstValue : (Nat → Int32)) : Prop := wp_X1_hasVertex g_vertices x1 (fun (r1 : Int32) => (¬ r1 = 0 → (wp_X7_isValue x2 (fun (r2 : Int32) => (¬ r2 = 0 → (wp_X1_addFirst g_firsts g_firstTo g_firstValue x1 x2 (fun (r3 : Int32) (g_firsts_4 : Int32) (g_firstTo_5 : (Nat → Int32)) (g_firstValue_6 : (Nat → Int32)) => post r3 g_firsts_4 g_firstTo_5 g_firstValue_6))) ∧ (r2 = 0 → (post (-102) g_firsts g_firstTo g_firstValue))))) ∧ (r1 = 0 → (post (-101) g_firsts g_firstTo g_firstValue)))
abbrev wp_X7_first (g_vertices : Int32) (g_firsts : Int32) (g_firstTo : (Nat → Int32)) (g_firstValue : (Nat → Int32)) (x1 : Int32) (x2 : Int32) (post : Int32 → Int32 → (Nat → Int32) → (Nat → Int32) → Prop) : Prop := wp_X7_first_0 g_vertices post x1 x2 g_firsts g_firstTo g_firstValue
def wp_X7_set_0 (post : Int32 → (Nat → Int32) → Prop) (x1 : Int32) (x2 : Int32) (r_settings : (Nat → Int32)) : Prop := wp_X7_isWithin x1 0 5 (fun (r1 : Int32) => (¬ r1 = 0 → (vp_in x1 6 ∧ (vp_in x1 6 ∧ (wp_X7_isWithin x2 (tb_LEAST_SETTING x1.toNatClampNeg) (tb_GREATEST_SETTING x1.toNatClampNeg) (fun (r4 : Int32) => (¬ r4 = 0 → (vp_in x1 6 ∧ (∀ y6 : Int32, y6 = (r_settings x1.toNatClampNeg) → (vp_in x1 6 ∧ (post y6 (upd r_settings x1.toNatClampNeg x2)))))) ∧ (r4 = 0 → (post (-102) r_settings))))))) ∧ (r1 = 0 → (post (-102) r_settings)))
abbrev wp_X7_set (r_settings : (Nat → Int32)) (x1 : Int32) (x2 : Int32) (post : Int32 → (Nat → Int32) → Prop) : Prop := wp_X7_set_0 post x1 x2 r_settings
def bd_X7_law_67 (r_settings : (Nat → Int32)) (r_told : (Nat → Int32)) (post : Int32 → Prop) (K48 : Int32 → Prop) (K58 : Int32 → Prop) (K67 : Int32 → Prop) (x1 : Int32) (x2 : Int32) (x3 : Int32) (x4 : Int32) (x5 : Int32) (x6 : Int32) : Prop := (x3 < x6 → (K58 (x5 + 1))) ∧ (¬ x3 < x6 → (wp_X2_lawHolds r_settings r_told x1 x4 x5 x6 (fun (r4 : Int32) => (¬ r4 = 0 → (K67 (x6 + 1))) ∧ (r4 = 0 → (post (((256 * x4) + (16 * x5)) + x6))))))
def wp_X7_law_67 (r_settings : (Nat → Int32)) (r_told : (Nat → Int32)) (post : Int32 → Prop) (K48 : Int32 → Prop) (K58 : Int32 → Prop) (x1 : Int32) (x2 : Int32) (x3 : Int32) (x4 : Int32) (x5 : Int32) (x6 : Int32) : Prop := ∃ (I : Nat → Int32 → Prop) (n : Nat), I n x6 ∧ ∀ (n : Nat) (x6 : Int32), I n x6 → bd_X7_law_67 r_settings r_told post K48 K58 (fun (x6' : Int32) => ∃ n', n' < n ∧ I n' x6') x1 x2 x3 x4 x5 x6
def bd_X7_law_58 (r_settings : (Nat → Int32)) (r_told : (Nat → Int32)) (post : Int32 → Prop) (K48 : Int32 → Prop) (K58 : Int32 → Prop) (x1 : Int32) (x2 : Int32) (x3 : Int32) (x4 : Int32) (x5 : Int32) : Prop := (x2 < x5 → (K48 (x4 + 1))) ∧ (¬ x2 < x5 → (wp_X7_law_67 r_settings r_told post K48 K58 x1 x2 x3 x4 x5 0))
def wp_X7_law_58 (r_settings : (Nat → Int32)) (r_told : (Nat → Int32)) (post : Int32 → Prop) (K48 : Int32 → Prop) (x1 : Int32) (x2 : Int32) (x3 : Int32) (x4 : Int32) (x5 : Int32) : Prop := ∃ (I : Nat → Int32 → Prop) (n : Nat), I n x5 ∧ ∀ (n : Nat) (x5 : Int32), I n x5 → bd_X7_law_58 r_settings r_told post K48 (fun (x5' : Int32) => ∃ n', n' < n ∧ I n' x5') x1 x2 x3 x4 x5
def bd_X7_law_48 (r_settings : (Nat → Int32)) (r_told : (Nat → Int32)) (post : Int32 → Prop) (K48 : Int32 → Prop) (x1 : Int32) (x2 : Int32) (x3 : Int32) (x4 : Int32) : Prop := (15 < x4 → (post (-1))) ∧ (¬ 15 < x4 → (wp_X7_law_58 r_settings r_told post K48 x1 x2 x3 x4 0))
def wp_X7_law_48 (r_settings : (Nat → Int32)) (r_told : (Nat → Int32)) (post : Int32 → Prop) (x1 : Int32) (x2 : Int32) (x3 : Int32) (x4 : Int32) : Prop := ∃ (I : Nat → Int32 → Prop) (n : Nat), I n x4 ∧ ∀ (n : Nat) (x4 : Int32), I n x4 → bd_X7_law_48 r_settings r_told post (fun (x4' : Int32) => ∃ n', n' < n ∧ I n' x4') x1 x2 x3 x4
def wp_X7_law_44 (r_settings : (Nat → Int32)) (r_told : (Nat → Int32)) (post : Int32 → Prop) (x1 : Int32) (x2 : Int32) (t0 : Int32) : Prop := wp_X7_law_48 r_settings r_told post x1 x2 t0 0
def wp_X7_law_28 (r_settings : (Nat → Int32)) (r_told : (Nat → Int32)) (post : Int32 → Prop) (x1 : Int32) (t0 : Int32) : Prop := vp_in x1 7 ∧ (((tb_LAW_VALUES x1.toNatClampNeg) ≤ 2 → (wp_X7_law_44 r_settings r_told post x1 t0 0)) ∧ (¬ (tb_LAW_VALUES x1.toNatClampNeg) ≤ 2 → (wp_X7_law_44 r_settings r_told post x1 t0 15)))
def wp_X7_law_0 (r_settings : (Nat → Int32)) (r_told : (Nat → Int32)) (post : Int32 → Prop) (x1 : Int32) : Prop := wp_X7_isWithin x1 0 6 (fun (r1 : Int32) => (¬ r1 = 0 → (vp_in x1 7 ∧ (((tb_LAW_VALUES x1.toNatClampNeg) ≤ 1 → (wp_X7_law_28 r_settings r_told post x1 0)) ∧ (¬ (tb_LAW_VALUES x1.toNatClampNeg) ≤ 1 → (wp_X7_law_28 r_settings r_told post x1 15))))) ∧ (r1 = 0 → (post (-102))))
abbrev wp_X7_law (r_settings : (Nat → Int32)) (r_told : (Nat → Int32)) (x1 : Int32) (post : Int32 → Prop) : Prop := wp_X7_law_0 r_settings r_told post x1
def wp_X7_table_0 (post : Int32 → (Nat → Int32) → Prop) (x1 : Int32) (x2 : Int32) (x3 : Int32) (r_told : (Nat → Int32)) : Prop := wp_X7_isValue x1 (fun (r1 : Int32) => (r1 = 0 → (post (-102) r_told)) ∧ (¬ r1 = 0 → (wp_X7_isValue x2 (fun (r2 : Int32) => (r2 = 0 → (post (-102) r_told)) ∧ (¬ r2 = 0 → (wp_X7_isValue x3 (fun (r3 : Int32) => (¬ r3 = 0 → (wp_X2_tell r_told x1 x2 x3 (fun (r4 : Int32) (r_told_5 : (Nat → Int32)) => post r4 r_told_5))) ∧ (r3 = 0 → (post (-102) r_told)))))))))
abbrev wp_X7_table (r_told : (Nat → Int32)) (x1 : Int32) (x2 : Int32) (x3 : Int32) (post : Int32 → (Nat → Int32) → Prop) : Prop := wp_X7_table_0 post x1 x2 x3 r_told
def wp_X7_value_0 (g_vertices : Int32) (post : Int32 → (Nat → Int32) → Prop) (x1 : Int32) (x2 : Int32) (g_begins : (Nat → Int32)) : Prop := wp_X1_hasVertex g_vertices x1 (fun (r1 : Int32) => (¬ r1 = 0 → (wp_X7_isValue x2 (fun (r2 : Int32) => (¬ r2 = 0 → (vp_in x1 5 ∧ (∀ y4 : Int32, y4 = (g_begins x1.toNatClampNeg) → (vp_in x1 5 ∧ (post y4 (upd g_begins x1.toNatClampNeg x2)))))) ∧ (r2 = 0 → (post (-102) g_begins))))) ∧ (r1 = 0 → (post (-101) g_begins)))
abbrev wp_X7_value (g_vertices : Int32) (g_begins : (Nat → Int32)) (x1 : Int32) (x2 : Int32) (post : Int32 → (Nat → Int32) → Prop) : Prop := wp_X7_value_0 g_vertices post x1 x2 g_begins
def wp_X7_fold_0 (r_settings : (Nat → Int32)) (r_told : (Nat → Int32)) (post : Int32 → Prop) (x1 : Int32) (x2 : Int32) : Prop := wp_X7_isValue x1 (fun (r1 : Int32) => (r1 = 0 → (post (-102))) ∧ (¬ r1 = 0 → (wp_X7_isValue x2 (fun (r2 : Int32) => (¬ r2 = 0 → (wp_X2_folded r_settings r_told x1 x2 (fun (r3 : Int32) => post r3))) ∧ (r2 = 0 → (post (-102)))))))
abbrev wp_X7_fold (r_settings : (Nat → Int32)) (r_told : (Nat → Int32)) (x1 : Int32) (x2 : Int32) (post : Int32 → Prop) : Prop := wp_X7_fold_0 r_settings r_told post x1 x2
def wp_X7_out_0 (r_settings : (Nat → Int32)) (post : Int32 → Prop) (x1 : Int32) (x2 : Int32) : Prop := wp_X7_isValue x1 (fun (r1 : Int32) => (r1 = 0 → (post (-102))) ∧ (¬ r1 = 0 → (wp_X7_isValue x2 (fun (r2 : Int32) => (¬ r2 = 0 → (wp_X2_sentOut r_settings x1 x2 (fun (r3 : Int32) => post r3))) ∧ (r2 = 0 → (post (-102)))))))
abbrev wp_X7_out (r_settings : (Nat → Int32)) (x1 : Int32) (x2 : Int32) (post : Int32 → Prop) : Prop := wp_X7_out_0 r_settings post x1 x2
def wp_X7_about_0 (g_vertices : Int32) (g_arcs : Int32) (g_firsts : Int32) (r_settings : (Nat → Int32)) (post : Int32 → Prop) (x1 : Int32) : Prop := (x1 = 0 → (post g_vertices)) ∧ (¬ x1 = 0 → ((x1 = 1 → (post g_arcs)) ∧ (¬ x1 = 1 → ((x1 = 2 → (post g_firsts)) ∧ (¬ x1 = 2 → (wp_X7_isWithin x1 3 8 (fun (r1 : Int32) => (r1 = 0 → (post (-102))) ∧ (¬ r1 = 0 → (vp_in (x1 - 3) 6 ∧ (post (r_settings (x1 - 3).toNatClampNeg)))))))))))
abbrev wp_X7_about (g_vertices : Int32) (g_arcs : Int32) (g_firsts : Int32) (r_settings : (Nat → Int32)) (x1 : Int32) (post : Int32 → Prop) : Prop := wp_X7_about_0 g_vertices g_arcs g_firsts r_settings post x1
def wp_X7_looked_0 (l_states : Int32) (l_ends : Int32) (l_stepless : Int32) (l_mostPending : Int32) (l_whole : Int32) (post : Int32 → Prop) (x1 : Int32) : Prop := wp_X7_isWithin x1 0 3 (fun (r1 : Int32) => (¬ r1 = 0 → ((¬ l_states = 0 → ((x1 = 0 → ((l_whole = 0 → (post 0)) ∧ (¬ l_whole = 0 → (post 1)))) ∧ (¬ x1 = 0 → ((x1 = 1 → (post l_ends)) ∧ (¬ x1 = 1 → ((x1 = 2 → (post l_stepless)) ∧ (¬ x1 = 2 → (post l_mostPending)))))))) ∧ (l_states = 0 → (post (-1))))) ∧ (r1 = 0 → (post (-102))))
abbrev wp_X7_looked (l_states : Int32) (l_ends : Int32) (l_stepless : Int32) (l_mostPending : Int32) (l_whole : Int32) (x1 : Int32) (post : Int32 → Prop) : Prop := wp_X7_looked_0 l_states l_ends l_stepless l_mostPending l_whole post x1
def wp_X7_end_0 (l_vertices : Int32) (l_ends : Int32) (l_endValues : (Nat → Int32)) (post : Int32 → Prop) (x1 : Int32) (x2 : Int32) : Prop := wp_X0_hasEnd l_ends x1 (fun (r1 : Int32) => (r1 = 0 → (post (-101))) ∧ (¬ r1 = 0 → (wp_X7_isWithin x2 0 (l_vertices - 1) (fun (r2 : Int32) => (¬ r2 = 0 → (vp_in x1 600 ∧ (post ((((l_endValues x1.toNatClampNeg).toUInt32 >>> ((4 * x2).toUInt32 &&& Int32.toUInt32 31)).toInt32) &&& 15)))) ∧ (r2 = 0 → (post (-101)))))))
abbrev wp_X7_end (l_vertices : Int32) (l_ends : Int32) (l_endValues : (Nat → Int32)) (x1 : Int32) (x2 : Int32) (post : Int32 → Prop) : Prop := wp_X7_end_0 l_vertices l_ends l_endValues post x1 x2
def wp_X7_way_0 (l_ends : Int32) (l_endStates : (Nat → Int32)) (l_parents : (Nat → Int32)) (l_steps : (Nat → Int32)) (post : Int32 → Prop) (x1 : Int32) (x2 : Int32) (x3 : Int32) : Prop := wp_X0_hasEnd l_ends x1 (fun (r1 : Int32) => (¬ r1 = 0 → (wp_X0_wayLength l_endStates l_parents x1 (fun (r2 : Int32) => (¬ x2 = (-1) → (wp_X7_isWithin x2 0 (r2 - 1) (fun (r3 : Int32) => (¬ r3 = 0 → (wp_X0_stepBefore l_endStates l_parents l_steps x1 ((r2 - 1) - x2) (fun (r4 : Int32) => (x3 = 0 → (wp_X6_source r4 (fun (r5 : Int32) => post r5))) ∧ (¬ x3 = 0 → ((x3 = 1 → (wp_X6_message r4 (fun (r6 : Int32) => post r6))) ∧ (¬ x3 = 1 → ((x3 = 2 → (wp_X6_doubled r4 (fun (r7 : Int32) => post r7))) ∧ (¬ x3 = 2 → (post (-102)))))))))) ∧ (r3 = 0 → (post (-101)))))) ∧ (x2 = (-1) → (post r2))))) ∧ (r1 = 0 → (post (-101))))
abbrev wp_X7_way (l_ends : Int32) (l_endStates : (Nat → Int32)) (l_parents : (Nat → Int32)) (l_steps : (Nat → Int32)) (x1 : Int32) (x2 : Int32) (x3 : Int32) (post : Int32 → Prop) : Prop := wp_X7_way_0 l_ends l_endStates l_parents l_steps post x1 x2 x3
def wp_X7_look_0 (a_l : Nat → Nat) (g_vertices : Int32) (g_arcs : Int32) (g_firsts : Int32) (g_begins : (Nat → Int32)) (g_arcFrom : (Nat → Int32)) (g_arcTo : (Nat → Int32)) (g_weights : (Nat → Int32)) (g_firstTo : (Nat → Int32)) (g_firstValue : (Nat → Int32)) (r_settings : (Nat → Int32)) (r_told : (Nat → Int32)) (post : Int32 → Int32 → Int32 → Int32 → Nat → Int32 → (Nat → Int64) → (Nat → Int64) → (Nat → Int64) → (Nat → Int32) → Int64 → Int64 → (Nat → Int64) → Int64 → Int64 → (Nat → Int64) → Int32 → Int32 → Int32 → Int32 → Int32 → Int32 → (Nat → Int32) → (Nat → Int32) → (Nat → Int32) → (Nat → Int32) → Prop) (x1 : Int32) (se_limit : Int32) (se_staying : Int32) (se_isFull : Int32) (se_fi : Nat) (f_count : Int32) (f_heads : (Nat → Int64)) (f_lengths : (Nat → Int64)) (f_rows : (Nat → Int64)) (f_slots : (Nat → Int32)) (h_head : Int64) (h_lengths : Int64) (h_rows : (Nat → Int64)) (n_head : Int64) (n_lengths : Int64) (n_rows : (Nat → Int64)) (l_states : Int32) (l_vertices : Int32) (l_ends : Int32) (l_stepless : Int32) (l_mostPending : Int32) (l_whole : Int32) (l_endValues : (Nat → Int32)) (l_endStates : (Nat → Int32)) (l_parents : (Nat → Int32)) (l_steps : (Nat → Int32)) : Prop := wp_X7_isWithin x1 1 600 (fun (r1 : Int32) => (¬ r1 = 0 → (wp_X1_allArcs g_arcs (fun (r2 : Int32) => wp_X3_run se_limit se_staying se_isFull g_vertices g_arcs g_firsts g_begins g_arcFrom g_arcTo g_weights g_firstTo g_firstValue r_settings r_told f_count f_heads f_lengths f_rows f_slots h_head h_lengths h_rows n_head n_lengths n_rows l_states l_vertices l_ends l_stepless l_mostPending l_whole l_endValues l_endStates l_parents l_steps x1 r2 (fun (se_limit_3 : Int32) (se_staying_4 : Int32) (se_isFull_5 : Int32) (f_count_6 : Int32) (f_heads_7 : (Nat → Int64)) (f_lengths_8 : (Nat → Int64)) (f_rows_9 : (Nat → Int64)) (f_slots_10 : (Nat → Int32)) (h_head_11 : Int64) (h_lengths_12 : Int64) (h_rows_13 : (Nat → Int64)) (n_head_14 : Int64) (n_lengths_15 : Int64) (n_rows_16 : (Nat → Int64)) (l_states_17 : Int32) (l_vertices_18 : Int32) (l_ends_19 : Int32) (l_stepless_20 : Int32) (l_mostPending_21 : Int32) (l_whole_22 : Int32) (l_endValues_23 : (Nat → Int32)) (l_endStates_24 : (Nat → Int32)) (l_parents_25 : (Nat → Int32)) (l_steps_26 : (Nat → Int32)) => post l_states_17 se_limit_3 se_staying_4 se_isFull_5 (a_l 0) f_count_6 f_heads_7 f_lengths_8 f_rows_9 f_slots_10 h_head_11 h_lengths_12 h_rows_13 n_head_14 n_lengths_15 n_rows_16 l_states_17 l_vertices_18 l_ends_19 l_stepless_20 l_mostPending_21 l_whole_22 l_endValues_23 l_endStates_24 l_parents_25 l_steps_26)))) ∧ (r1 = 0 → (post (-102) se_limit se_staying se_isFull se_fi f_count f_heads f_lengths f_rows f_slots h_head h_lengths h_rows n_head n_lengths n_rows l_states l_vertices l_ends l_stepless l_mostPending l_whole l_endValues l_endStates l_parents l_steps)))
abbrev wp_X7_look (a_l : Nat → Nat) (se_limit : Int32) (se_staying : Int32) (se_isFull : Int32) (se_fi : Nat) (g_vertices : Int32) (g_arcs : Int32) (g_firsts : Int32) (g_begins : (Nat → Int32)) (g_arcFrom : (Nat → Int32)) (g_arcTo : (Nat → Int32)) (g_weights : (Nat → Int32)) (g_firstTo : (Nat → Int32)) (g_firstValue : (Nat → Int32)) (r_settings : (Nat → Int32)) (r_told : (Nat → Int32)) (f_count : Int32) (f_heads : (Nat → Int64)) (f_lengths : (Nat → Int64)) (f_rows : (Nat → Int64)) (f_slots : (Nat → Int32)) (h_head : Int64) (h_lengths : Int64) (h_rows : (Nat → Int64)) (n_head : Int64) (n_lengths : Int64) (n_rows : (Nat → Int64)) (l_states : Int32) (l_vertices : Int32) (l_ends : Int32) (l_stepless : Int32) (l_mostPending : Int32) (l_whole : Int32) (l_endValues : (Nat → Int32)) (l_endStates : (Nat → Int32)) (l_parents : (Nat → Int32)) (l_steps : (Nat → Int32)) (x1 : Int32) (post : Int32 → Int32 → Int32 → Int32 → Nat → Int32 → (Nat → Int64) → (Nat → Int64) → (Nat → Int64) → (Nat → Int32) → Int64 → Int64 → (Nat → Int64) → Int64 → Int64 → (Nat → Int64) → Int32 → Int32 → Int32 → Int32 → Int32 → Int32 → (Nat → Int32) → (Nat → Int32) → (Nat → Int32) → (Nat → Int32) → Prop) : Prop := wp_X7_look_0 a_l g_vertices g_arcs g_firsts g_begins g_arcFrom g_arcTo g_weights g_firstTo g_firstValue r_settings r_told post x1 se_limit se_staying se_isFull se_fi f_count f_heads f_lengths f_rows f_slots h_head h_lengths h_rows n_head n_lengths n_rows l_states l_vertices l_ends l_stepless l_mostPending l_whole l_endValues l_endStates l_parents l_steps
def wp_X7_shrink_98 (a_t : Nat → Nat) (g_vertices : Int32) (g_arcs : Int32) (g_firsts : Int32) (g_begins : (Nat → Int32)) (g_arcFrom : (Nat → Int32)) (g_arcTo : (Nat → Int32)) (g_weights : (Nat → Int32)) (g_firstTo : (Nat → Int32)) (g_firstValue : (Nat → Int32)) (r_settings : (Nat → Int32)) (r_told : (Nat → Int32)) (post : Int32 → Int32 → Int32 → Int32 → Nat → Int32 → (Nat → Int64) → (Nat → Int64) → (Nat → Int64) → (Nat → Int32) → Int64 → Int64 → (Nat → Int64) → Int64 → Int64 → (Nat → Int64) → Int32 → Int32 → Int32 → Int32 → Int32 → Int32 → (Nat → Int32) → (Nat → Int32) → (Nat → Int32) → (Nat → Int32) → Prop) (K50 : Int32 → Int32 → Int32 → Int32 → Int32 → Nat → Int32 → (Nat → Int64) → (Nat → Int64) → (Nat → Int64) → (Nat → Int32) → Int64 → Int64 → (Nat → Int64) → Int64 → Int64 → (Nat → Int64) → Int32 → Int32 → Int32 → Int32 → Int32 → Int32 → (Nat → Int32) → (Nat → Int32) → (Nat → Int32) → (Nat → Int32) → Prop) (x1 : Int32) (x2 : Int32) (x3 : Int32) (se_limit : Int32) (se_staying : Int32) (se_isFull : Int32) (se_fi : Nat) (f_count : Int32) (f_heads : (Nat → Int64)) (f_lengths : (Nat → Int64)) (f_rows : (Nat → Int64)) (f_slots : (Nat → Int32)) (h_head : Int64) (h_lengths : Int64) (h_rows : (Nat → Int64)) (n_head : Int64) (n_lengths : Int64) (n_rows : (Nat → Int64)) (t_states : Int32) (t_vertices : Int32) (t_ends : Int32) (t_stepless : Int32) (t_mostPending : Int32) (t_whole : Int32) (t_endValues : (Nat → Int32)) (t_endStates : (Nat → Int32)) (t_parents : (Nat → Int32)) (t_steps : (Nat → Int32)) : Prop := K50 x2 (x3 + 1) se_limit se_staying se_isFull se_fi f_count f_heads f_lengths f_rows f_slots h_head h_lengths h_rows n_head n_lengths n_rows t_states t_vertices t_ends t_stepless t_mostPending t_whole t_endValues t_endStates t_parents t_steps
def bd_X7_shrink_50 (a_t : Nat → Nat) (g_vertices : Int32) (g_arcs : Int32) (g_firsts : Int32) (g_begins : (Nat → Int32)) (g_arcFrom : (Nat → Int32)) (g_arcTo : (Nat → Int32)) (g_weights : (Nat → Int32)) (g_firstTo : (Nat → Int32)) (g_firstValue : (Nat → Int32)) (r_settings : (Nat → Int32)) (r_told : (Nat → Int32)) (post : Int32 → Int32 → Int32 → Int32 → Nat → Int32 → (Nat → Int64) → (Nat → Int64) → (Nat → Int64) → (Nat → Int32) → Int64 → Int64 → (Nat → Int64) → Int64 → Int64 → (Nat → Int64) → Int32 → Int32 → Int32 → Int32 → Int32 → Int32 → (Nat → Int32) → (Nat → Int32) → (Nat → Int32) → (Nat → Int32) → Prop) (K50 : Int32 → Int32 → Int32 → Int32 → Int32 → Nat → Int32 → (Nat → Int64) → (Nat → Int64) → (Nat → Int64) → (Nat → Int32) → Int64 → Int64 → (Nat → Int64) → Int64 → Int64 → (Nat → Int64) → Int32 → Int32 → Int32 → Int32 → Int32 → Int32 → (Nat → Int32) → (Nat → Int32) → (Nat → Int32) → (Nat → Int32) → Prop) (x1 : Int32) (x2 : Int32) (x3 : Int32) (se_limit : Int32) (se_staying : Int32) (se_isFull : Int32) (se_fi : Nat) (f_count : Int32) (f_heads : (Nat → Int64)) (f_lengths : (Nat → Int64)) (f_rows : (Nat → Int64)) (f_slots : (Nat → Int32)) (h_head : Int64) (h_lengths : Int64) (h_rows : (Nat → Int64)) (n_head : Int64) (n_lengths : Int64) (n_rows : (Nat → Int64)) (t_states : Int32) (t_vertices : Int32) (t_ends : Int32) (t_stepless : Int32) (t_mostPending : Int32) (t_whole : Int32) (t_endValues : (Nat → Int32)) (t_endStates : (Nat → Int32)) (t_parents : (Nat → Int32)) (t_steps : (Nat → Int32)) : Prop := (g_arcs ≤ x3 → (post x2 se_limit se_staying se_isFull se_fi f_count f_heads f_lengths f_rows f_slots h_head h_lengths h_rows n_head n_lengths n_rows t_states t_vertices t_ends t_stepless t_mostPending t_whole t_endValues t_endStates t_parents t_steps)) ∧ (¬ g_arcs ≤ x3 → (∀ y27 : Int32, y27 = (x2 &&& ((1 <<< (x3 &&& 31)) ^^^ (-1))) → (wp_X3_run se_limit se_staying se_isFull g_vertices g_arcs g_firsts g_begins g_arcFrom g_arcTo g_weights g_firstTo g_firstValue r_settings r_told f_count f_heads f_lengths f_rows f_slots h_head h_lengths h_rows n_head n_lengths n_rows t_states t_vertices t_ends t_stepless t_mostPending t_whole t_endValues t_endStates t_parents t_steps x1 y27 (fun (se_limit_28 : Int32) (se_staying_29 : Int32) (se_isFull_30 : Int32) (f_count_31 : Int32) (f_heads_32 : (Nat → Int64)) (f_lengths_33 : (Nat → Int64)) (f_rows_34 : (Nat → Int64)) (f_slots_35 : (Nat → Int32)) (h_head_36 : Int64) (h_lengths_37 : Int64) (h_rows_38 : (Nat → Int64)) (n_head_39 : Int64) (n_lengths_40 : Int64) (n_rows_41 : (Nat → Int64)) (t_states_42 : Int32) (t_vertices_43 : Int32) (t_ends_44 : Int32) (t_stepless_45 : Int32) (t_mostPending_46 : Int32) (t_whole_47 : Int32) (t_endValues_48 : (Nat → Int32)) (t_endStates_49 : (Nat → Int32)) (t_parents_50 : (Nat → Int32)) (t_steps_51 : (Nat → Int32)) => (t_ends_44 < 2 → (wp_X7_shrink_98 a_t g_vertices g_arcs g_firsts g_begins g_arcFrom g_arcTo g_weights g_firstTo g_firstValue r_settings r_told post K50 x1 x2 x3 se_limit_28 se_staying_29 se_isFull_30 (a_t 0) f_count_31 f_heads_32 f_lengths_33 f_rows_34 f_slots_35 h_head_36 h_lengths_37 h_rows_38 n_head_39 n_lengths_40 n_rows_41 t_states_42 t_vertices_43 t_ends_44 t_stepless_45 t_mostPending_46 t_whole_47 t_endValues_48 t_endStates_49 t_parents_50 t_steps_51)) ∧ (¬ t_ends_44 < 2 → (wp_X7_shrink_98 a_t g_vertices g_arcs g_firsts g_begins g_arcFrom g_arcTo g_weights g_firstTo g_firstValue r_settings r_told post K50 x1 y27 x3 se_limit_28 se_staying_29 se_isFull_30 (a_t 0) f_count_31 f_heads_32 f_lengths_33 f_rows_34 f_slots_35 h_head_36 h_lengths_37 h_rows_38 n_head_39 n_lengths_40 n_rows_41 t_states_42 t_vertices_43 t_ends_44 t_stepless_45 t_mostPending_46 t_whole_47 t_endValues_48 t_endStates_49 t_parents_50 t_steps_51))))))
def wp_X7_shrink_50 (a_t : Nat → Nat) (g_vertices : Int32) (g_arcs : Int32) (g_firsts : Int32) (g_begins : (Nat → Int32)) (g_arcFrom : (Nat → Int32)) (g_arcTo : (Nat → Int32)) (g_weights : (Nat → Int32)) (g_firstTo : (Nat → Int32)) (g_firstValue : (Nat → Int32)) (r_settings : (Nat → Int32)) (r_told : (Nat → Int32)) (post : Int32 → Int32 → Int32 → Int32 → Nat → Int32 → (Nat → Int64) → (Nat → Int64) → (Nat → Int64) → (Nat → Int32) → Int64 → Int64 → (Nat → Int64) → Int64 → Int64 → (Nat → Int64) → Int32 → Int32 → Int32 → Int32 → Int32 → Int32 → (Nat → Int32) → (Nat → Int32) → (Nat → Int32) → (Nat → Int32) → Prop) (x1 : Int32) (x2 : Int32) (x3 : Int32) (se_limit : Int32) (se_staying : Int32) (se_isFull : Int32) (se_fi : Nat) (f_count : Int32) (f_heads : (Nat → Int64)) (f_lengths : (Nat → Int64)) (f_rows : (Nat → Int64)) (f_slots : (Nat → Int32)) (h_head : Int64) (h_lengths : Int64) (h_rows : (Nat → Int64)) (n_head : Int64) (n_lengths : Int64) (n_rows : (Nat → Int64)) (t_states : Int32) (t_vertices : Int32) (t_ends : Int32) (t_stepless : Int32) (t_mostPending : Int32) (t_whole : Int32) (t_endValues : (Nat → Int32)) (t_endStates : (Nat → Int32)) (t_parents : (Nat → Int32)) (t_steps : (Nat → Int32)) : Prop := ∃ (I : Nat → Int32 → Int32 → Int32 → Int32 → Int32 → Nat → Int32 → (Nat → Int64) → (Nat → Int64) → (Nat → Int64) → (Nat → Int32) → Int64 → Int64 → (Nat → Int64) → Int64 → Int64 → (Nat → Int64) → Int32 → Int32 → Int32 → Int32 → Int32 → Int32 → (Nat → Int32) → (Nat → Int32) → (Nat → Int32) → (Nat → Int32) → Prop) (n : Nat), I n x2 x3 se_limit se_staying se_isFull se_fi f_count f_heads f_lengths f_rows f_slots h_head h_lengths h_rows n_head n_lengths n_rows t_states t_vertices t_ends t_stepless t_mostPending t_whole t_endValues t_endStates t_parents t_steps ∧ ∀ (n : Nat) (x2 : Int32) (x3 : Int32) (se_limit : Int32) (se_staying : Int32) (se_isFull : Int32) (se_fi : Nat) (f_count : Int32) (f_heads : (Nat → Int64)) (f_lengths : (Nat → Int64)) (f_rows : (Nat → Int64)) (f_slots : (Nat → Int32)) (h_head : Int64) (h_lengths : Int64) (h_rows : (Nat → Int64)) (n_head : Int64) (n_lengths : Int64) (n_rows : (Nat → Int64)) (t_states : Int32) (t_vertices : Int32) (t_ends : Int32) (t_stepless : Int32) (t_mostPending : Int32) (t_whole : Int32) (t_endValues : (Nat → Int32)) (t_endStates : (Nat → Int32)) (t_parents : (Nat → Int32)) (t_steps : (Nat → Int32)), I n x2 x3 se_limit se_staying se_isFull se_fi f_count f_heads f_lengths f_rows f_slots h_head h_lengths h_rows n_head n_lengths n_rows t_states t_vertices t_ends t_stepless t_mostPending t_whole t_endValues t_endStates t_parents t_steps → bd_X7_shrink_50 a_t g_vertices g_arcs g_firsts g_begins g_arcFrom g_arcTo g_weights g_firstTo g_firstValue r_settings r_told post (fun (x2' : Int32) (x3' : Int32) (se_limit' : Int32) (se_staying' : Int32) (se_isFull' : Int32) (se_fi' : Nat) (f_count' : Int32) (f_heads' : (Nat → Int64)) (f_lengths' : (Nat → Int64)) (f_rows' : (Nat → Int64)) (f_slots' : (Nat → Int32)) (h_head' : Int64) (h_lengths' : Int64) (h_rows' : (Nat → Int64)) (n_head' : Int64) (n_lengths' : Int64) (n_rows' : (Nat → Int64)) (t_states' : Int32) (t_vertices' : Int32) (t_ends' : Int32) (t_stepless' : Int32) (t_mostPending' : Int32) (t_whole' : Int32) (t_endValues' : (Nat → Int32)) (t_endStates' : (Nat → Int32)) (t_parents' : (Nat → Int32)) (t_steps' : (Nat → Int32)) => ∃ n', n' < n ∧ I n' x2' x3' se_limit' se_staying' se_isFull' se_fi' f_count' f_heads' f_lengths' f_rows' f_slots' h_head' h_lengths' h_rows' n_head' n_lengths' n_rows' t_states' t_vertices' t_ends' t_stepless' t_mostPending' t_whole' t_endValues' t_endStates' t_parents' t_steps') x1 x2 x3 se_limit se_staying se_isFull se_fi f_count f_heads f_lengths f_rows f_slots h_head h_lengths h_rows n_head n_lengths n_rows t_states t_vertices t_ends t_stepless t_mostPending t_whole t_endValues t_endStates t_parents t_steps
def wp_X7_shrink_0 (a_t : Nat → Nat) (g_vertices : Int32) (g_arcs : Int32) (g_firsts : Int32) (g_begins : (Nat → Int32)) (g_arcFrom : (Nat → Int32)) (g_arcTo : (Nat → Int32)) (g_weights : (Nat → Int32)) (g_firstTo : (Nat → Int32)) (g_firstValue : (Nat → Int32)) (r_settings : (Nat → Int32)) (r_told : (Nat → Int32)) (post : Int32 → Int32 → Int32 → Int32 → Nat → Int32 → (Nat → Int64) → (Nat → Int64) → (Nat → Int64) → (Nat → Int32) → Int64 → Int64 → (Nat → Int64) → Int64 → Int64 → (Nat → Int64) → Int32 → Int32 → Int32 → Int32 → Int32 → Int32 → (Nat → Int32) → (Nat → Int32) → (Nat → Int32) → (Nat → Int32) → Prop) (x1 : Int32) (se_limit : Int32) (se_staying : Int32) (se_isFull : Int32) (se_fi : Nat) (f_count : Int32) (f_heads : (Nat → Int64)) (f_lengths : (Nat → Int64)) (f_rows : (Nat → Int64)) (f_slots : (Nat → Int32)) (h_head : Int64) (h_lengths : Int64) (h_rows : (Nat → Int64)) (n_head : Int64) (n_lengths : Int64) (n_rows : (Nat → Int64)) (t_states : Int32) (t_vertices : Int32) (t_ends : Int32) (t_stepless : Int32) (t_mostPending : Int32) (t_whole : Int32) (t_endValues : (Nat → Int32)) (t_endStates : (Nat → Int32)) (t_parents : (Nat → Int32)) (t_steps : (Nat → Int32)) : Prop := wp_X7_isWithin x1 1 600 (fun (r1 : Int32) => (¬ r1 = 0 → (wp_X1_allArcs g_arcs (fun (r2 : Int32) => wp_X3_run se_limit se_staying se_isFull g_vertices g_arcs g_firsts g_begins g_arcFrom g_arcTo g_weights g_firstTo g_firstValue r_settings r_told f_count f_heads f_lengths f_rows f_slots h_head h_lengths h_rows n_head n_lengths n_rows t_states t_vertices t_ends t_stepless t_mostPending t_whole t_endValues t_endStates t_parents t_steps x1 r2 (fun (se_limit_3 : Int32) (se_staying_4 : Int32) (se_isFull_5 : Int32) (f_count_6 : Int32) (f_heads_7 : (Nat → Int64)) (f_lengths_8 : (Nat → Int64)) (f_rows_9 : (Nat → Int64)) (f_slots_10 : (Nat → Int32)) (h_head_11 : Int64) (h_lengths_12 : Int64) (h_rows_13 : (Nat → Int64)) (n_head_14 : Int64) (n_lengths_15 : Int64) (n_rows_16 : (Nat → Int64)) (t_states_17 : Int32) (t_vertices_18 : Int32) (t_ends_19 : Int32) (t_stepless_20 : Int32) (t_mostPending_21 : Int32) (t_whole_22 : Int32) (t_endValues_23 : (Nat → Int32)) (t_endStates_24 : (Nat → Int32)) (t_parents_25 : (Nat → Int32)) (t_steps_26 : (Nat → Int32)) => (2 ≤ t_ends_19 → (wp_X7_shrink_50 a_t g_vertices g_arcs g_firsts g_begins g_arcFrom g_arcTo g_weights g_firstTo g_firstValue r_settings r_told post x1 r2 0 se_limit_3 se_staying_4 se_isFull_5 (a_t 0) f_count_6 f_heads_7 f_lengths_8 f_rows_9 f_slots_10 h_head_11 h_lengths_12 h_rows_13 n_head_14 n_lengths_15 n_rows_16 t_states_17 t_vertices_18 t_ends_19 t_stepless_20 t_mostPending_21 t_whole_22 t_endValues_23 t_endStates_24 t_parents_25 t_steps_26)) ∧ (¬ 2 ≤ t_ends_19 → (post (-1) se_limit_3 se_staying_4 se_isFull_5 (a_t 0) f_count_6 f_heads_7 f_lengths_8 f_rows_9 f_slots_10 h_head_11 h_lengths_12 h_rows_13 n_head_14 n_lengths_15 n_rows_16 t_states_17 t_vertices_18 t_ends_19 t_stepless_20 t_mostPending_21 t_whole_22 t_endValues_23 t_endStates_24 t_parents_25 t_steps_26)))))) ∧ (r1 = 0 → (post (-102) se_limit se_staying se_isFull se_fi f_count f_heads f_lengths f_rows f_slots h_head h_lengths h_rows n_head n_lengths n_rows t_states t_vertices t_ends t_stepless t_mostPending t_whole t_endValues t_endStates t_parents t_steps)))
abbrev wp_X7_shrink (a_t : Nat → Nat) (se_limit : Int32) (se_staying : Int32) (se_isFull : Int32) (se_fi : Nat) (g_vertices : Int32) (g_arcs : Int32) (g_firsts : Int32) (g_begins : (Nat → Int32)) (g_arcFrom : (Nat → Int32)) (g_arcTo : (Nat → Int32)) (g_weights : (Nat → Int32)) (g_firstTo : (Nat → Int32)) (g_firstValue : (Nat → Int32)) (r_settings : (Nat → Int32)) (r_told : (Nat → Int32)) (f_count : Int32) (f_heads : (Nat → Int64)) (f_lengths : (Nat → Int64)) (f_rows : (Nat → Int64)) (f_slots : (Nat → Int32)) (h_head : Int64) (h_lengths : Int64) (h_rows : (Nat → Int64)) (n_head : Int64) (n_lengths : Int64) (n_rows : (Nat → Int64)) (t_states : Int32) (t_vertices : Int32) (t_ends : Int32) (t_stepless : Int32) (t_mostPending : Int32) (t_whole : Int32) (t_endValues : (Nat → Int32)) (t_endStates : (Nat → Int32)) (t_parents : (Nat → Int32)) (t_steps : (Nat → Int32)) (x1 : Int32) (post : Int32 → Int32 → Int32 → Int32 → Nat → Int32 → (Nat → Int64) → (Nat → Int64) → (Nat → Int64) → (Nat → Int32) → Int64 → Int64 → (Nat → Int64) → Int64 → Int64 → (Nat → Int64) → Int32 → Int32 → Int32 → Int32 → Int32 → Int32 → (Nat → Int32) → (Nat → Int32) → (Nat → Int32) → (Nat → Int32) → Prop) : Prop := wp_X7_shrink_0 a_t g_vertices g_arcs g_firsts g_begins g_arcFrom g_arcTo g_weights g_firstTo g_firstValue r_settings r_told post x1 se_limit se_staying se_isFull se_fi f_count f_heads f_lengths f_rows f_slots h_head h_lengths h_rows n_head n_lengths n_rows t_states t_vertices t_ends t_stepless t_mostPending t_whole t_endValues t_endStates t_parents t_steps
def wp_X8_vertex_0 (post : Int32 → Int32 → (Nat → Int32) → Prop) (x1 : Int32) (m_vertices : Int32) (m_begins : (Nat → Int32)) : Prop := wp_X8_in x1 0 15 (fun (r1 : Int32) => (¬ r1 = 0 → ((¬ m_vertices = 5 → (vp_in m_vertices 5 ∧ (post ((m_vertices + 1) - 1) (m_vertices + 1) (upd m_begins m_vertices.toNatClampNeg x1)))) ∧ (m_vertices = 5 → (post (-104) m_vertices m_begins)))) ∧ (r1 = 0 → (post (-102) m_vertices m_begins)))
abbrev wp_X8_vertex (m_vertices : Int32) (m_begins : (Nat → Int32)) (x1 : Int32) (post : Int32 → Int32 → (Nat → Int32) → Prop) : Prop := wp_X8_vertex_0 post x1 m_vertices m_begins
def wp_X8_arc_0 (m_vertices : Int32) (post : Int32 → Int32 → (Nat → Int32) → (Nat → Int32) → (Nat → Int32) → Prop) (x1 : Int32) (x2 : Int32) (x3 : Int32) (m_arcs : Int32) (m_arcFrom : (Nat → Int32)) (m_arcTo : (Nat → Int32)) (m_arcWeight : (Nat → Int32)) : Prop := wp_X8_in x1 0 (m_vertices - 1) (fun (r1 : Int32) => (r1 = 0 → (post (-101) m_arcs m_arcFrom m_arcTo m_arcWeight)) ∧ (¬ r1 = 0 → (wp_X8_in x2 0 (m_vertices - 1) (fun (r2 : Int32) => (¬ r2 = 0 → (wp_X8_in x3 0 15 (fun (r3 : Int32) => (¬ r3 = 0 → ((¬ m_arcs = 8 → (vp_in m_arcs 8 ∧ (vp_in m_arcs 8 ∧ (vp_in m_arcs 8 ∧ (post ((m_arcs + 1) - 1) (m_arcs + 1) (upd m_arcFrom m_arcs.toNatClampNeg x1) (upd m_arcTo m_arcs.toNatClampNeg x2) (upd m_arcWeight m_arcs.toNatClampNeg x3)))))) ∧ (m_arcs = 8 → (post (-104) m_arcs m_arcFrom m_arcTo m_arcWeight)))) ∧ (r3 = 0 → (post (-102) m_arcs m_arcFrom m_arcTo m_arcWeight))))) ∧ (r2 = 0 → (post (-101) m_arcs m_arcFrom m_arcTo m_arcWeight))))))
abbrev wp_X8_arc (m_vertices : Int32) (m_arcs : Int32) (m_arcFrom : (Nat → Int32)) (m_arcTo : (Nat → Int32)) (m_arcWeight : (Nat → Int32)) (x1 : Int32) (x2 : Int32) (x3 : Int32) (post : Int32 → Int32 → (Nat → Int32) → (Nat → Int32) → (Nat → Int32) → Prop) : Prop := wp_X8_arc_0 m_vertices post x1 x2 x3 m_arcs m_arcFrom m_arcTo m_arcWeight
def wp_X8_first_0 (m_vertices : Int32) (post : Int32 → Int32 → (Nat → Int32) → (Nat → Int32) → Prop) (x1 : Int32) (x2 : Int32) (m_firsts : Int32) (m_firstTo : (Nat → Int32)) (m_firstValue : (Nat → Int32)) : Prop := wp_X8_in x1 0 (m_vertices - 1) (fun (r1 : Int32) => (¬ r1 = 0 → (wp_X8_in x2 0 15 (fun (r2 : Int32) => (¬ r2 = 0 → ((¬ m_firsts = 4 → (vp_in m_firsts 4 ∧ (vp_in m_firsts 4 ∧ (post ((m_firsts + 1) - 1) (m_firsts + 1) (upd m_firstTo m_firsts.toNatClampNeg x1) (upd m_firstValue m_firsts.toNatClampNeg x2))))) ∧ (m_firsts = 4 → (post (-104) m_firsts m_firstTo m_firstValue)))) ∧ (r2 = 0 → (post (-102) m_firsts m_firstTo m_firstValue))))) ∧ (r1 = 0 → (post (-101) m_firsts m_firstTo m_firstValue)))
abbrev wp_X8_first (m_vertices : Int32) (m_firsts : Int32) (m_firstTo : (Nat → Int32)) (m_firstValue : (Nat → Int32)) (x1 : Int32) (x2 : Int32) (post : Int32 → Int32 → (Nat → Int32) → (Nat → Int32) → Prop) : Prop := wp_X8_first_0 m_vertices post x1 x2 m_firsts m_firstTo m_firstValue
def wp_X8_set_20 (post : Int32 → (Nat → Int32) → Prop) (x1 : Int32) (x2 : Int32) (t0 : Int32) (t1 : Int32) (m_settings : (Nat → Int32)) : Prop := wp_X8_greatestOf x1 (fun (r2 : Int32) => wp_X8_in t1 t0 r2 (fun (r3 : Int32) => (¬ r3 = 0 → (vp_in x1 6 ∧ (∀ y5 : Int32, y5 = (m_settings x1.toNatClampNeg) → (vp_in x1 6 ∧ (post y5 (upd m_settings x1.toNatClampNeg x2)))))) ∧ (r3 = 0 → (post (-102) m_settings))))
def wp_X8_set_0 (post : Int32 → (Nat → Int32) → Prop) (x1 : Int32) (x2 : Int32) (m_settings : (Nat → Int32)) : Prop := wp_X8_in x1 0 5 (fun (r1 : Int32) => (r1 = 0 → (post (-102) m_settings)) ∧ (¬ r1 = 0 → ((¬ x1 = 3 → (wp_X8_set_20 post x1 x2 0 x2 m_settings)) ∧ (x1 = 3 → (wp_X8_set_20 post x1 x2 1 x2 m_settings)))))
abbrev wp_X8_set (m_settings : (Nat → Int32)) (x1 : Int32) (x2 : Int32) (post : Int32 → (Nat → Int32) → Prop) : Prop := wp_X8_set_0 post x1 x2 m_settings
def wp_X8_table_0 (post : Int32 → (Nat → Int32) → Prop) (x1 : Int32) (x2 : Int32) (x3 : Int32) (m_tells : (Nat → Int32)) : Prop := wp_X8_in x1 0 15 (fun (r1 : Int32) => (r1 = 0 → (post (-102) m_tells)) ∧ (¬ r1 = 0 → (wp_X8_in x2 0 15 (fun (r2 : Int32) => (r2 = 0 → (post (-102) m_tells)) ∧ (¬ r2 = 0 → (wp_X8_in x3 0 15 (fun (r3 : Int32) => (¬ r3 = 0 → (vp_in ((16 * x1) + x2) 256 ∧ (∀ y5 : Int32, y5 = (m_tells ((16 * x1) + x2).toNatClampNeg) → (vp_in ((16 * x1) + x2) 256 ∧ (post y5 (upd m_tells ((16 * x1) + x2).toNatClampNeg x3)))))) ∧ (r3 = 0 → (post (-102) m_tells)))))))))
abbrev wp_X8_table (m_tells : (Nat → Int32)) (x1 : Int32) (x2 : Int32) (x3 : Int32) (post : Int32 → (Nat → Int32) → Prop) : Prop := wp_X8_table_0 post x1 x2 x3 m_tells
def wp_X8_value_0 (m_vertices : Int32) (post : Int32 → (Nat → Int32) → Prop) (x1 : Int32) (x2 : Int32) (m_begins : (Nat → Int32)) : Prop := wp_X8_in x1 0 (m_vertices - 1) (fun (r1 : Int32) => (¬ r1 = 0 → (wp_X8_in x2 0 15 (fun (r2 : Int32) => (¬ r2 = 0 → (vp_in x1 5 ∧ (∀ y4 : Int32, y4 = (m_begins x1.toNatClampNeg) → (vp_in x1 5 ∧ (post y4 (upd m_begins x1.toNatClampNeg x2)))))) ∧ (r2 = 0 → (post (-102) m_begins))))) ∧ (r1 = 0 → (post (-101) m_begins)))
abbrev wp_X8_value (m_vertices : Int32) (m_begins : (Nat → Int32)) (x1 : Int32) (x2 : Int32) (post : Int32 → (Nat → Int32) → Prop) : Prop := wp_X8_value_0 m_vertices post x1 x2 m_begins
def wp_X8_folded_0 (m_settings : (Nat → Int32)) (m_tells : (Nat → Int32)) (post : Int32 → Prop) (x1 : Int32) (x2 : Int32) : Prop := vp_in 0 6 ∧ (((m_settings (0 : Int32).toNatClampNeg) = 0 → (post ((x1 + x2) - (x1 + x2) / 16 * 16))) ∧ (¬ (m_settings (0 : Int32).toNatClampNeg) = 0 → (((m_settings (0 : Int32).toNatClampNeg) = 1 → ((x2 ≤ x1 → (post x2)) ∧ (¬ x2 ≤ x1 → (post x1)))) ∧ (¬ (m_settings (0 : Int32).toNatClampNeg) = 1 → (((m_settings (0 : Int32).toNatClampNeg) = 2 → ((x1 ≤ x2 → (post x2)) ∧ (¬ x1 ≤ x2 → (post x1)))) ∧ (¬ (m_settings (0 : Int32).toNatClampNeg) = 2 → (((m_settings (0 : Int32).toNatClampNeg) = 3 → (post (x1 ^^^ x2))) ∧ (¬ (m_settings (0 : Int32).toNatClampNeg) = 3 → (((m_settings (0 : Int32).toNatClampNeg) = 4 → (post x2)) ∧ (¬ (m_settings (0 : Int32).toNatClampNeg) = 4 → (((m_settings (0 : Int32).toNatClampNeg) = 5 → (post x1)) ∧ (¬ (m_settings (0 : Int32).toNatClampNeg) = 5 → (((m_settings (0 : Int32).toNatClampNeg) = 6 → (post (((2 * x1) + x2) - ((2 * x1) + x2) / 16 * 16))) ∧ (¬ (m_settings (0 : Int32).toNatClampNeg) = 6 → (((m_settings (0 : Int32).toNatClampNeg) = 7 → (post (x1 &&& x2))) ∧ (¬ (m_settings (0 : Int32).toNatClampNeg) = 7 → (((m_settings (0 : Int32).toNatClampNeg) = 8 → (post (x1 ||| x2))) ∧ (¬ (m_settings (0 : Int32).toNatClampNeg) = 8 → (vp_in ((16 * x1) + x2) 256 ∧ (post (m_tells ((16 * x1) + x2).toNatClampNeg)))))))))))))))))))))
abbrev wp_X8_folded (m_settings : (Nat → Int32)) (m_tells : (Nat → Int32)) (x1 : Int32) (x2 : Int32) (post : Int32 → Prop) : Prop := wp_X8_folded_0 m_settings m_tells post x1 x2
def wp_X8_outOf_0 (m_settings : (Nat → Int32)) (post : Int32 → Prop) (x1 : Int32) (x2 : Int32) : Prop := vp_in 1 6 ∧ (((m_settings (1 : Int32).toNatClampNeg) = 0 → (post x1)) ∧ (¬ (m_settings (1 : Int32).toNatClampNeg) = 0 → (((m_settings (1 : Int32).toNatClampNeg) = 1 → (post ((x1 + x2) - (x1 + x2) / 16 * 16))) ∧ (¬ (m_settings (1 : Int32).toNatClampNeg) = 1 → (((m_settings (1 : Int32).toNatClampNeg) = 2 → ((x2 ≤ x1 → (post x2)) ∧ (¬ x2 ≤ x1 → (post x1)))) ∧ (¬ (m_settings (1 : Int32).toNatClampNeg) = 2 → (((m_settings (1 : Int32).toNatClampNeg) = 3 → ((x1 ≤ x2 → (post x2)) ∧ (¬ x1 ≤ x2 → (post x1)))) ∧ (¬ (m_settings (1 : Int32).toNatClampNeg) = 3 → (post ((x1 * x2) - (x1 * x2) / 16 * 16))))))))))
abbrev wp_X8_outOf (m_settings : (Nat → Int32)) (x1 : Int32) (x2 : Int32) (post : Int32 → Prop) : Prop := wp_X8_outOf_0 m_settings post x1 x2
def wp_X8_fold_29 (m_settings : (Nat → Int32)) (m_tells : (Nat → Int32)) (post : Int32 → Prop) : Prop := post (-102)
def wp_X8_fold_0 (m_settings : (Nat → Int32)) (m_tells : (Nat → Int32)) (post : Int32 → Prop) (x1 : Int32) (x2 : Int32) : Prop := wp_X8_in x1 0 15 (fun (r1 : Int32) => (r1 = 0 → (wp_X8_fold_29 m_settings m_tells post)) ∧ (¬ r1 = 0 → (wp_X8_in x2 0 15 (fun (r2 : Int32) => (r2 = 0 → (wp_X8_fold_29 m_settings m_tells post)) ∧ (¬ r2 = 0 → (wp_X8_folded m_settings m_tells x1 x2 (fun (r3 : Int32) => post r3)))))))
abbrev wp_X8_fold (m_settings : (Nat → Int32)) (m_tells : (Nat → Int32)) (x1 : Int32) (x2 : Int32) (post : Int32 → Prop) : Prop := wp_X8_fold_0 m_settings m_tells post x1 x2
def wp_X8_out_29 (m_settings : (Nat → Int32)) (post : Int32 → Prop) : Prop := post (-102)
def wp_X8_out_0 (m_settings : (Nat → Int32)) (post : Int32 → Prop) (x1 : Int32) (x2 : Int32) : Prop := wp_X8_in x1 0 15 (fun (r1 : Int32) => (r1 = 0 → (wp_X8_out_29 m_settings post)) ∧ (¬ r1 = 0 → (wp_X8_in x2 0 15 (fun (r2 : Int32) => (r2 = 0 → (wp_X8_out_29 m_settings post)) ∧ (¬ r2 = 0 → (wp_X8_outOf m_settings x1 x2 (fun (r3 : Int32) => post r3)))))))
abbrev wp_X8_out (m_settings : (Nat → Int32)) (x1 : Int32) (x2 : Int32) (post : Int32 → Prop) : Prop := wp_X8_out_0 m_settings post x1 x2
def wp_X8_holds_191 (m_settings : (Nat → Int32)) (m_tells : (Nat → Int32)) (post : Int32 → Prop) : Prop := post 1
def wp_X8_holds_0 (m_settings : (Nat → Int32)) (m_tells : (Nat → Int32)) (post : Int32 → Prop) (x1 : Int32) (x2 : Int32) (x3 : Int32) (x4 : Int32) : Prop := (x1 = 0 → (wp_X8_folded m_settings m_tells x2 x3 (fun (r1 : Int32) => wp_X8_folded m_settings m_tells r1 x4 (fun (r2 : Int32) => wp_X8_folded m_settings m_tells x3 x4 (fun (r3 : Int32) => wp_X8_folded m_settings m_tells x2 r3 (fun (r4 : Int32) => (¬ r2 = r4 → (post 0)) ∧ (r2 = r4 → (post 1)))))))) ∧ (¬ x1 = 0 → ((x1 = 1 → (wp_X8_folded m_settings m_tells x2 x3 (fun (r5 : Int32) => wp_X8_folded m_settings m_tells x3 x2 (fun (r6 : Int32) => (¬ r5 = r6 → (post 0)) ∧ (r5 = r6 → (post 1)))))) ∧ (¬ x1 = 1 → ((x1 = 2 → (wp_X8_folded m_settings m_tells x2 x2 (fun (r7 : Int32) => (¬ r7 = x2 → (post 0)) ∧ (r7 = x2 → (post 1))))) ∧ (¬ x1 = 2 → ((x1 = 3 → (wp_X8_folded m_settings m_tells x2 x3 (fun (r8 : Int32) => wp_X8_folded m_settings m_tells r8 x4 (fun (r9 : Int32) => wp_X8_folded m_settings m_tells x2 x4 (fun (r10 : Int32) => wp_X8_folded m_settings m_tells r10 x3 (fun (r11 : Int32) => (¬ r9 = r11 → (post 0)) ∧ (r9 = r11 → (post 1)))))))) ∧ (¬ x1 = 3 → ((x1 = 4 → (wp_X8_folded m_settings m_tells x2 x3 (fun (r12 : Int32) => wp_X8_folded m_settings m_tells r12 x3 (fun (r13 : Int32) => wp_X8_folded m_settings m_tells x2 x3 (fun (r14 : Int32) => (¬ r13 = r14 → (post 0)) ∧ (r13 = r14 → (post 1))))))) ∧ (¬ x1 = 4 → ((x1 = 5 → ((x3 < x2 → (wp_X8_holds_191 m_settings m_tells post)) ∧ (¬ x3 < x2 → (wp_X8_folded m_settings m_tells x2 x4 (fun (r15 : Int32) => wp_X8_folded m_settings m_tells x3 x4 (fun (r16 : Int32) => (r16 < r15 → (post 0)) ∧ (¬ r16 < r15 → (wp_X8_holds_191 m_settings m_tells post)))))))) ∧ (¬ x1 = 5 → (wp_X8_folded m_settings m_tells x2 x3 (fun (r17 : Int32) => (x2 < r17 → (post 0)) ∧ (¬ x2 < r17 → (post 1)))))))))))))))
abbrev wp_X8_holds (m_settings : (Nat → Int32)) (m_tells : (Nat → Int32)) (x1 : Int32) (x2 : Int32) (x3 : Int32) (x4 : Int32) (post : Int32 → Prop) : Prop := wp_X8_holds_0 m_settings m_tells post x1 x2 x3 x4
def bd_X8_law_68 (m_settings : (Nat → Int32)) (m_tells : (Nat → Int32)) (post : Int32 → Prop) (K49 : Int32 → Prop) (K59 : Int32 → Prop) (K68 : Int32 → Prop) (x1 : Int32) (x2 : Int32) (x3 : Int32) (x4 : Int32) (x5 : Int32) (x6 : Int32) : Prop := (x3 ≤ x6 → (K59 (x5 + 1))) ∧ (¬ x3 ≤ x6 → (wp_X8_holds m_settings m_tells x1 x4 x5 x6 (fun (r2 : Int32) => (¬ r2 = 0 → (K68 (x6 + 1))) ∧ (r2 = 0 → (post (((256 * x4) + (16 * x5)) + x6))))))
def wp_X8_law_68 (m_settings : (Nat → Int32)) (m_tells : (Nat → Int32)) (post : Int32 → Prop) (K49 : Int32 → Prop) (K59 : Int32 → Prop) (x1 : Int32) (x2 : Int32) (x3 : Int32) (x4 : Int32) (x5 : Int32) (x6 : Int32) : Prop := ∃ (I : Nat → Int32 → Prop) (n : Nat), I n x6 ∧ ∀ (n : Nat) (x6 : Int32), I n x6 → bd_X8_law_68 m_settings m_tells post K49 K59 (fun (x6' : Int32) => ∃ n', n' < n ∧ I n' x6') x1 x2 x3 x4 x5 x6
def bd_X8_law_59 (m_settings : (Nat → Int32)) (m_tells : (Nat → Int32)) (post : Int32 → Prop) (K49 : Int32 → Prop) (K59 : Int32 → Prop) (x1 : Int32) (x2 : Int32) (x3 : Int32) (x4 : Int32) (x5 : Int32) : Prop := (x2 ≤ x5 → (K49 (x4 + 1))) ∧ (¬ x2 ≤ x5 → (wp_X8_law_68 m_settings m_tells post K49 K59 x1 x2 x3 x4 x5 0))
def wp_X8_law_59 (m_settings : (Nat → Int32)) (m_tells : (Nat → Int32)) (post : Int32 → Prop) (K49 : Int32 → Prop) (x1 : Int32) (x2 : Int32) (x3 : Int32) (x4 : Int32) (x5 : Int32) : Prop := ∃ (I : Nat → Int32 → Prop) (n : Nat), I n x5 ∧ ∀ (n : Nat) (x5 : Int32), I n x5 → bd_X8_law_59 m_settings m_tells post K49 (fun (x5' : Int32) => ∃ n', n' < n ∧ I n' x5') x1 x2 x3 x4 x5
def bd_X8_law_49 (m_settings : (Nat → Int32)) (m_tells : (Nat → Int32)) (post : Int32 → Prop) (K49 : Int32 → Prop) (x1 : Int32) (x2 : Int32) (x3 : Int32) (x4 : Int32) : Prop := (16 ≤ x4 → (post (-1))) ∧ (¬ 16 ≤ x4 → (wp_X8_law_59 m_settings m_tells post K49 x1 x2 x3 x4 0))
def wp_X8_law_49 (m_settings : (Nat → Int32)) (m_tells : (Nat → Int32)) (post : Int32 → Prop) (x1 : Int32) (x2 : Int32) (x3 : Int32) (x4 : Int32) : Prop := ∃ (I : Nat → Int32 → Prop) (n : Nat), I n x4 ∧ ∀ (n : Nat) (x4 : Int32), I n x4 → bd_X8_law_49 m_settings m_tells post (fun (x4' : Int32) => ∃ n', n' < n ∧ I n' x4') x1 x2 x3 x4
def wp_X8_law_45 (m_settings : (Nat → Int32)) (m_tells : (Nat → Int32)) (post : Int32 → Prop) (x1 : Int32) (x2 : Int32) (t0 : Int32) : Prop := wp_X8_law_49 m_settings m_tells post x1 x2 t0 0
def wp_X8_law_39 (m_settings : (Nat → Int32)) (m_tells : (Nat → Int32)) (post : Int32 → Prop) (x1 : Int32) (x2 : Int32) : Prop := wp_X8_law_45 m_settings m_tells post x1 x2 16
def wp_X8_law_24 (m_settings : (Nat → Int32)) (m_tells : (Nat → Int32)) (post : Int32 → Prop) (x1 : Int32) (t0 : Int32) : Prop := (x1 = 0 → (wp_X8_law_39 m_settings m_tells post x1 t0)) ∧ (¬ x1 = 0 → ((x1 = 3 → (wp_X8_law_39 m_settings m_tells post x1 t0)) ∧ (¬ x1 = 3 → ((¬ x1 = 5 → (wp_X8_law_45 m_settings m_tells post x1 t0 1)) ∧ (x1 = 5 → (wp_X8_law_39 m_settings m_tells post x1 t0))))))
def wp_X8_law_0 (m_settings : (Nat → Int32)) (m_tells : (Nat → Int32)) (post : Int32 → Prop) (x1 : Int32) : Prop := wp_X8_in x1 0 6 (fun (r1 : Int32) => (¬ r1 = 0 → ((¬ x1 = 2 → (wp_X8_law_24 m_settings m_tells post x1 16)) ∧ (x1 = 2 → (wp_X8_law_24 m_settings m_tells post x1 1)))) ∧ (r1 = 0 → (post (-102))))
abbrev wp_X8_law (m_settings : (Nat → Int32)) (m_tells : (Nat → Int32)) (x1 : Int32) (post : Int32 → Prop) : Prop := wp_X8_law_0 m_settings m_tells post x1
def wp_X8_about_0 (m_vertices : Int32) (m_arcs : Int32) (m_firsts : Int32) (m_settings : (Nat → Int32)) (post : Int32 → Prop) (x1 : Int32) : Prop := (x1 = 0 → (post m_vertices)) ∧ (¬ x1 = 0 → ((x1 = 1 → (post m_arcs)) ∧ (¬ x1 = 1 → ((x1 = 2 → (post m_firsts)) ∧ (¬ x1 = 2 → (wp_X8_in x1 3 8 (fun (r1 : Int32) => (r1 = 0 → (post (-102))) ∧ (¬ r1 = 0 → (vp_in (x1 - 3) 6 ∧ (post (m_settings (x1 - 3).toNatClampNeg)))))))))))
abbrev wp_X8_about (m_vertices : Int32) (m_arcs : Int32) (m_firsts : Int32) (m_settings : (Nat → Int32)) (x1 : Int32) (post : Int32 → Prop) : Prop := wp_X8_about_0 m_vertices m_arcs m_firsts m_settings post x1
def bd_X8_load_2 (m_found : (Nat → Int32)) (post : (Nat → Int32) → Prop) (K2 : Int32 → (Nat → Int32) → Prop) (x1 : Int32) (x2 : Int32) (m_at : (Nat → Int32)) : Prop := (148 ≤ x2 → (post m_at)) ∧ (¬ 148 ≤ x2 → (vp_in ((148 * x1) + x2) 88800 ∧ (vp_in x2 148 ∧ (K2 (x2 + 1) (upd m_at x2.toNatClampNeg (vp_nar .byte (m_found ((148 * x1) + x2).toNatClampNeg)))))))
def wp_X8_load_2 (m_found : (Nat → Int32)) (post : (Nat → Int32) → Prop) (x1 : Int32) (x2 : Int32) (m_at : (Nat → Int32)) : Prop := ∃ (I : Nat → Int32 → (Nat → Int32) → Prop) (n : Nat), I n x2 m_at ∧ ∀ (n : Nat) (x2 : Int32) (m_at : (Nat → Int32)), I n x2 m_at → bd_X8_load_2 m_found post (fun (x2' : Int32) (m_at' : (Nat → Int32)) => ∃ n', n' < n ∧ I n' x2' m_at') x1 x2 m_at
def wp_X8_load_0 (m_found : (Nat → Int32)) (post : (Nat → Int32) → Prop) (x1 : Int32) (m_at : (Nat → Int32)) : Prop := wp_X8_load_2 m_found post x1 0 m_at
abbrev wp_X8_load (m_found : (Nat → Int32)) (m_at : (Nat → Int32)) (x1 : Int32) (post : (Nat → Int32) → Prop) : Prop := wp_X8_load_0 m_found post x1 m_at
def wp_X8_send_70 (m_settings : (Nat → Int32)) (post : (Nat → Int32) → Prop) (x2 : Int32) (x3 : Int32) (x4 : Int32) (x5 : Int32) (m_at : (Nat → Int32)) : Prop := vp_in ((x3 + 1) + x5) 148 ∧ (vp_in x3 148 ∧ (post (upd (upd m_at ((x3 + 1) + x5).toNatClampNeg (vp_nar .byte x2.toInt8.toInt32)) x3.toNatClampNeg (vp_nar .byte ((x4 + 1).toInt8.toInt32)))))
def bd_X8_send_17 (m_settings : (Nat → Int32)) (post : (Nat → Int32) → Prop) (K17 : Int32 → (Nat → Int32) → Prop) (x2 : Int32) (x3 : Int32) (x4 : Int32) (x5 : Int32) (m_at : (Nat → Int32)) : Prop := vp_in 4 6 ∧ ((¬ (m_settings (4 : Int32).toNatClampNeg) = 0 → (wp_X8_send_70 m_settings post x2 x3 x4 x5 m_at)) ∧ ((m_settings (4 : Int32).toNatClampNeg) = 0 → ((x5 ≤ 0 → (wp_X8_send_70 m_settings post x2 x3 x4 x5 m_at)) ∧ (¬ x5 ≤ 0 → (vp_in (x3 + x5) 148 ∧ (((m_at (x3 + x5).toNatClampNeg) ≤ x2 → (wp_X8_send_70 m_settings post x2 x3 x4 x5 m_at)) ∧ (¬ (m_at (x3 + x5).toNatClampNeg) ≤ x2 → (vp_in (x3 + x5) 148 ∧ (vp_in ((x3 + 1) + x5) 148 ∧ (K17 (x5 + (-1)) (upd m_at ((x3 + 1) + x5).toNatClampNeg (vp_nar .byte (m_at (x3 + x5).toNatClampNeg)))))))))))))
def wp_X8_send_17 (m_settings : (Nat → Int32)) (post : (Nat → Int32) → Prop) (x2 : Int32) (x3 : Int32) (x4 : Int32) (x5 : Int32) (m_at : (Nat → Int32)) : Prop := ∃ (I : Nat → Int32 → (Nat → Int32) → Prop) (n : Nat), I n x5 m_at ∧ ∀ (n : Nat) (x5 : Int32) (m_at : (Nat → Int32)), I n x5 m_at → bd_X8_send_17 m_settings post (fun (x5' : Int32) (m_at' : (Nat → Int32)) => ∃ n', n' < n ∧ I n' x5' m_at') x2 x3 x4 x5 m_at
def wp_X8_send_0 (m_settings : (Nat → Int32)) (post : (Nat → Int32) → Prop) (x1 : Int32) (x2 : Int32) (m_at : (Nat → Int32)) : Prop := wp_X8_rowOf x1 (fun (r1 : Int32) => vp_in r1 148 ∧ (wp_X8_send_17 m_settings post x2 r1 (m_at r1.toNatClampNeg) (m_at r1.toNatClampNeg) m_at))
abbrev wp_X8_send (m_settings : (Nat → Int32)) (m_at : (Nat → Int32)) (x1 : Int32) (x2 : Int32) (post : (Nat → Int32) → Prop) : Prop := wp_X8_send_0 m_settings post x1 x2 m_at
def bd_X8_takeOff_16 (post : (Nat → Int32) → Prop) (K16 : Int32 → (Nat → Int32) → Prop) (x3 : Int32) (x4 : Int32) (x5 : Int32) (m_at : (Nat → Int32)) : Prop := (x4 ≤ (x5 + 1) → (vp_in (x3 + x4) 148 ∧ (vp_in x3 148 ∧ (post (upd (upd m_at (x3 + x4).toNatClampNeg (vp_nar .byte 0)) x3.toNatClampNeg (vp_nar .byte ((x4 - 1).toInt8.toInt32))))))) ∧ (¬ x4 ≤ (x5 + 1) → (vp_in ((x3 + 2) + x5) 148 ∧ (vp_in ((x3 + 1) + x5) 148 ∧ (K16 (x5 + 1) (upd m_at ((x3 + 1) + x5).toNatClampNeg (vp_nar .byte (m_at ((x3 + 2) + x5).toNatClampNeg)))))))
def wp_X8_takeOff_16 (post : (Nat → Int32) → Prop) (x3 : Int32) (x4 : Int32) (x5 : Int32) (m_at : (Nat → Int32)) : Prop := ∃ (I : Nat → Int32 → (Nat → Int32) → Prop) (n : Nat), I n x5 m_at ∧ ∀ (n : Nat) (x5 : Int32) (m_at : (Nat → Int32)), I n x5 m_at → bd_X8_takeOff_16 post (fun (x5' : Int32) (m_at' : (Nat → Int32)) => ∃ n', n' < n ∧ I n' x5' m_at') x3 x4 x5 m_at
def wp_X8_takeOff_0 (post : (Nat → Int32) → Prop) (x1 : Int32) (x2 : Int32) (m_at : (Nat → Int32)) : Prop := wp_X8_rowOf x1 (fun (r1 : Int32) => vp_in r1 148 ∧ (wp_X8_takeOff_16 post r1 (m_at r1.toNatClampNeg) x2 m_at))
abbrev wp_X8_takeOff (m_at : (Nat → Int32)) (x1 : Int32) (x2 : Int32) (post : (Nat → Int32) → Prop) : Prop := wp_X8_takeOff_0 post x1 x2 m_at
def wp_X8_comes_124 (m_arcs : Int32) (m_arcFrom : (Nat → Int32)) (m_arcWeight : (Nat → Int32)) (m_settings : (Nat → Int32)) (m_tells : (Nat → Int32)) (post : (Nat → Int32) → Prop) (K76 : Int32 → (Nat → Int32) → Prop) (x1 : Int32) (x3 : Int32) (x5 : Int32) (x6 : Int32) (m_at : (Nat → Int32)) : Prop := K76 (x6 + 1) m_at
def bd_X8_comes_76 (m_arcs : Int32) (m_arcFrom : (Nat → Int32)) (m_arcWeight : (Nat → Int32)) (m_settings : (Nat → Int32)) (m_tells : (Nat → Int32)) (post : (Nat → Int32) → Prop) (K76 : Int32 → (Nat → Int32) → Prop) (x1 : Int32) (x3 : Int32) (x5 : Int32) (x6 : Int32) (m_at : (Nat → Int32)) : Prop := (m_arcs ≤ x6 → (post m_at)) ∧ (¬ m_arcs ≤ x6 → (vp_in x6 8 ∧ ((¬ (m_arcFrom x6.toNatClampNeg) = x1 → (wp_X8_comes_124 m_arcs m_arcFrom m_arcWeight m_settings m_tells post K76 x1 x3 x5 x6 m_at)) ∧ ((m_arcFrom x6.toNatClampNeg) = x1 → ((¬ ((x3 >>> (x6 &&& 31)) &&& 1) = 0 → (wp_X8_comes_124 m_arcs m_arcFrom m_arcWeight m_settings m_tells post K76 x1 x3 x5 x6 m_at)) ∧ (((x3 >>> (x6 &&& 31)) &&& 1) = 0 → (vp_in x6 8 ∧ (wp_X8_outOf m_settings x5 (m_arcWeight x6.toNatClampNeg) (fun (r11 : Int32) => wp_X8_send m_settings m_at x6 r11 (fun (m_at_12 : (Nat → Int32)) => wp_X8_comes_124 m_arcs m_arcFrom m_arcWeight m_settings m_tells post K76 x1 x3 x5 x6 m_at_12))))))))))
def wp_X8_comes_76 (m_arcs : Int32) (m_arcFrom : (Nat → Int32)) (m_arcWeight : (Nat → Int32)) (m_settings : (Nat → Int32)) (m_tells : (Nat → Int32)) (post : (Nat → Int32) → Prop) (x1 : Int32) (x3 : Int32) (x5 : Int32) (x6 : Int32) (m_at : (Nat → Int32)) : Prop := ∃ (I : Nat → Int32 → (Nat → Int32) → Prop) (n : Nat), I n x6 m_at ∧ ∀ (n : Nat) (x6 : Int32) (m_at : (Nat → Int32)), I n x6 m_at → bd_X8_comes_76 m_arcs m_arcFrom m_arcWeight m_settings m_tells post (fun (x6' : Int32) (m_at' : (Nat → Int32)) => ∃ n', n' < n ∧ I n' x6' m_at') x1 x3 x5 x6 m_at
def wp_X8_comes_43 (m_arcs : Int32) (m_arcFrom : (Nat → Int32)) (m_arcWeight : (Nat → Int32)) (m_settings : (Nat → Int32)) (m_tells : (Nat → Int32)) (post : (Nat → Int32) → Prop) (x1 : Int32) (x3 : Int32) (x5 : Int32) (m_at : (Nat → Int32)) : Prop := vp_in (5 + x1) 148 ∧ (vp_in 3 6 ∧ (((m_settings (3 : Int32).toNatClampNeg) ≤ (m_at (5 + x1).toNatClampNeg) → (post m_at)) ∧ (¬ (m_settings (3 : Int32).toNatClampNeg) ≤ (m_at (5 + x1).toNatClampNeg) → (vp_in (5 + x1) 148 ∧ (vp_in (5 + x1) 148 ∧ (wp_X8_comes_76 m_arcs m_arcFrom m_arcWeight m_settings m_tells post x1 x3 x5 0 (upd m_at (5 + x1).toNatClampNeg (vp_nar .byte (((m_at (5 + x1).toNatClampNeg) + 1).toInt8.toInt32)))))))))
def wp_X8_comes_0 (m_arcs : Int32) (m_arcFrom : (Nat → Int32)) (m_arcWeight : (Nat → Int32)) (m_settings : (Nat → Int32)) (m_tells : (Nat → Int32)) (post : (Nat → Int32) → Prop) (x1 : Int32) (x2 : Int32) (x3 : Int32) (m_at : (Nat → Int32)) : Prop := vp_in x1 148 ∧ (wp_X8_folded m_settings m_tells (m_at x1.toNatClampNeg) x2 (fun (r2 : Int32) => vp_in x1 148 ∧ ((¬ r2 = (m_at x1.toNatClampNeg) → (wp_X8_comes_43 m_arcs m_arcFrom m_arcWeight m_settings m_tells post x1 x3 r2 (upd m_at x1.toNatClampNeg (vp_nar .byte r2.toInt8.toInt32)))) ∧ (r2 = (m_at x1.toNatClampNeg) → (vp_in 2 6 ∧ ((¬ (m_settings (2 : Int32).toNatClampNeg) = 1 → (post (upd m_at x1.toNatClampNeg (vp_nar .byte r2.toInt8.toInt32)))) ∧ ((m_settings (2 : Int32).toNatClampNeg) = 1 → (wp_X8_comes_43 m_arcs m_arcFrom m_arcWeight m_settings m_tells post x1 x3 r2 (upd m_at x1.toNatClampNeg (vp_nar .byte r2.toInt8.toInt32))))))))))
abbrev wp_X8_comes (m_arcs : Int32) (m_arcFrom : (Nat → Int32)) (m_arcWeight : (Nat → Int32)) (m_settings : (Nat → Int32)) (m_tells : (Nat → Int32)) (m_at : (Nat → Int32)) (x1 : Int32) (x2 : Int32) (x3 : Int32) (post : (Nat → Int32) → Prop) : Prop := wp_X8_comes_0 m_arcs m_arcFrom m_arcWeight m_settings m_tells post x1 x2 x3 m_at
def wp_X8_isSame_36 (m_found : (Nat → Int32)) (m_at : (Nat → Int32)) (post : Int32 → Prop) (x2 : Int32) : Prop := (¬ x2 = 148 → (post 0)) ∧ (x2 = 148 → (post 1))
def bd_X8_isSame_2 (m_found : (Nat → Int32)) (m_at : (Nat → Int32)) (post : Int32 → Prop) (K2 : Int32 → Prop) (x1 : Int32) (x2 : Int32) : Prop := (148 ≤ x2 → (wp_X8_isSame_36 m_found m_at post x2)) ∧ (¬ 148 ≤ x2 → (vp_in ((148 * x1) + x2) 88800 ∧ (vp_in x2 148 ∧ ((¬ (m_found ((148 * x1) + x2).toNatClampNeg) = (m_at x2.toNatClampNeg) → (wp_X8_isSame_36 m_found m_at post x2)) ∧ ((m_found ((148 * x1) + x2).toNatClampNeg) = (m_at x2.toNatClampNeg) → (K2 (x2 + 1)))))))
def wp_X8_isSame_2 (m_found : (Nat → Int32)) (m_at : (Nat → Int32)) (post : Int32 → Prop) (x1 : Int32) (x2 : Int32) : Prop := ∃ (I : Nat → Int32 → Prop) (n : Nat), I n x2 ∧ ∀ (n : Nat) (x2 : Int32), I n x2 → bd_X8_isSame_2 m_found m_at post (fun (x2' : Int32) => ∃ n', n' < n ∧ I n' x2') x1 x2
def wp_X8_isSame_0 (m_found : (Nat → Int32)) (m_at : (Nat → Int32)) (post : Int32 → Prop) (x1 : Int32) : Prop := wp_X8_isSame_2 m_found m_at post x1 0
abbrev wp_X8_isSame (m_found : (Nat → Int32)) (m_at : (Nat → Int32)) (x1 : Int32) (post : Int32 → Prop) : Prop := wp_X8_isSame_0 m_found m_at post x1
def bd_X8_find_57 (m_at : (Nat → Int32)) (post : Int32 → (Nat → Int32) → Int32 → (Nat → Int32) → Prop) (K57 : Int32 → (Nat → Int32) → Prop) (x2 : Int32) (x3 : Int32) (m_found : (Nat → Int32)) (m_states : Int32) (m_places : (Nat → Int32)) : Prop := (148 ≤ x3 → (vp_in x2 2048 ∧ (post 1 m_found (m_states + 1) (upd m_places x2.toNatClampNeg (m_states + 1))))) ∧ (¬ 148 ≤ x3 → (vp_in x3 148 ∧ (vp_in ((148 * m_states) + x3) 88800 ∧ (K57 (x3 + 1) (upd m_found ((148 * m_states) + x3).toNatClampNeg (vp_nar .byte (m_at x3.toNatClampNeg)))))))
def wp_X8_find_57 (m_at : (Nat → Int32)) (post : Int32 → (Nat → Int32) → Int32 → (Nat → Int32) → Prop) (x2 : Int32) (x3 : Int32) (m_found : (Nat → Int32)) (m_states : Int32) (m_places : (Nat → Int32)) : Prop := ∃ (I : Nat → Int32 → (Nat → Int32) → Prop) (n : Nat), I n x3 m_found ∧ ∀ (n : Nat) (x3 : Int32) (m_found : (Nat → Int32)), I n x3 m_found → bd_X8_find_57 m_at post (fun (x3' : Int32) (m_found' : (Nat → Int32)) => ∃ n', n' < n ∧ I n' x3' m_found') x2 x3 m_found m_states m_places
def bd_X8_find_8 (m_at : (Nat → Int32)) (post : Int32 → (Nat → Int32) → Int32 → (Nat → Int32) → Prop) (K8 : Int32 → Prop) (x1 : Int32) (x2 : Int32) (m_found : (Nat → Int32)) (m_states : Int32) (m_places : (Nat → Int32)) : Prop := vp_in x2 2048 ∧ (((m_places x2.toNatClampNeg) ≤ 0 → ((¬ m_states = x1 → (wp_X8_find_57 m_at post x2 0 m_found m_states m_places)) ∧ (m_states = x1 → (post (-1) m_found m_states m_places)))) ∧ (¬ (m_places x2.toNatClampNeg) ≤ 0 → (vp_in x2 2048 ∧ (wp_X8_isSame m_found m_at ((m_places x2.toNatClampNeg) - 1) (fun (r4 : Int32) => (r4 = 0 → (∀ y5 : Int32, y5 = ((x2 + 1) - (x2 + 1) / 2048 * 2048) → (K8 y5))) ∧ (¬ r4 = 0 → (post 0 m_found m_states m_places)))))))
def wp_X8_find_8 (m_at : (Nat → Int32)) (post : Int32 → (Nat → Int32) → Int32 → (Nat → Int32) → Prop) (x1 : Int32) (x2 : Int32) (m_found : (Nat → Int32)) (m_states : Int32) (m_places : (Nat → Int32)) : Prop := ∃ (I : Nat → Int32 → Prop) (n : Nat), I n x2 ∧ ∀ (n : Nat) (x2 : Int32), I n x2 → bd_X8_find_8 m_at post (fun (x2' : Int32) => ∃ n', n' < n ∧ I n' x2') x1 x2 m_found m_states m_places
def wp_X8_find_0 (m_at : (Nat → Int32)) (post : Int32 → (Nat → Int32) → Int32 → (Nat → Int32) → Prop) (x1 : Int32) (m_found : (Nat → Int32)) (m_states : Int32) (m_places : (Nat → Int32)) : Prop := wp_X8_hash m_at (fun (r1 : Int32) => wp_X8_find_8 m_at post x1 r1 m_found m_states m_places)
abbrev wp_X8_find (m_found : (Nat → Int32)) (m_states : Int32) (m_places : (Nat → Int32)) (m_at : (Nat → Int32)) (x1 : Int32) (post : Int32 → (Nat → Int32) → Int32 → (Nat → Int32) → Prop) : Prop := wp_X8_find_0 m_at post x1 m_found m_states m_places
def wp_X8_step_218 (m_arcs : Int32) (m_arcFrom : (Nat → Int32)) (m_arcTo : (Nat → Int32)) (m_arcWeight : (Nat → Int32)) (m_firstTo : (Nat → Int32)) (m_firstValue : (Nat → Int32)) (m_settings : (Nat → Int32)) (m_tells : (Nat → Int32)) (m_keepsSteps : Int32) (post : (Nat → Int32) → Int32 → (Nat → Int32) → (Nat → Int32) → (Nat → Int32) → (Nat → Int32) → (Nat → Int32) → (Nat → Int32) → Int32 → Prop) (t0 : Int32) (t1 : Int32) (m_found : (Nat → Int32)) (m_states : Int32) (m_places : (Nat → Int32)) (m_at : (Nat → Int32)) (m_parent : (Nat → Int32)) (m_stepBy : (Nat → Int32)) (m_stepValue : (Nat → Int32)) (m_stepDouble : (Nat → Int32)) (m_isOver : Int32) : Prop := vp_in t1 600 ∧ (post m_found m_states m_places m_at m_parent m_stepBy m_stepValue (upd m_stepDouble t1.toNatClampNeg t0) m_isOver)
def wp_X8_step_146 (m_arcs : Int32) (m_arcFrom : (Nat → Int32)) (m_arcTo : (Nat → Int32)) (m_arcWeight : (Nat → Int32)) (m_firstTo : (Nat → Int32)) (m_firstValue : (Nat → Int32)) (m_settings : (Nat → Int32)) (m_tells : (Nat → Int32)) (m_keepsSteps : Int32) (post : (Nat → Int32) → Int32 → (Nat → Int32) → (Nat → Int32) → (Nat → Int32) → (Nat → Int32) → (Nat → Int32) → (Nat → Int32) → Int32 → Prop) (x1 : Int32) (x2 : Int32) (x4 : Int32) (x8 : Int32) (x9 : Int32) (t0 : Int32) (m_found : (Nat → Int32)) (m_states : Int32) (m_places : (Nat → Int32)) (m_at : (Nat → Int32)) (m_parent : (Nat → Int32)) (m_stepBy : (Nat → Int32)) (m_stepValue : (Nat → Int32)) (m_stepDouble : (Nat → Int32)) (m_isOver : Int32) : Prop := (narrow .boolean (.int t0) = .int t0 ∧ fits .boolean (.int t0) = true) ∧ ((x9 ≤ 0 → (post m_found m_states m_places m_at m_parent m_stepBy m_stepValue m_stepDouble t0)) ∧ (¬ x9 ≤ 0 → ((m_keepsSteps = 0 → (post m_found m_states m_places m_at m_parent m_stepBy m_stepValue m_stepDouble t0)) ∧ (¬ m_keepsSteps = 0 → (vp_in (m_states - 1) 600 ∧ (vp_in (m_states - 1) 600 ∧ (vp_in (m_states - 1) 600 ∧ ((x4 = 0 → (wp_X8_step_218 m_arcs m_arcFrom m_arcTo m_arcWeight m_firstTo m_firstValue m_settings m_tells m_keepsSteps post 0 (m_states - 1) m_found m_states m_places m_at (upd m_parent (m_states - 1).toNatClampNeg x1) (upd m_stepBy (m_states - 1).toNatClampNeg x2) (upd m_stepValue (m_states - 1).toNatClampNeg x8) m_stepDouble t0)) ∧ (¬ x4 = 0 → (wp_X8_step_218 m_arcs m_arcFrom m_arcTo m_arcWeight m_firstTo m_firstValue m_settings m_tells m_keepsSteps post 1 (m_states - 1) m_found m_states m_places m_at (upd m_parent (m_states - 1).toNatClampNeg x1) (upd m_stepBy (m_states - 1).toNatClampNeg x2) (upd m_stepValue (m_states - 1).toNatClampNeg x8) m_stepDouble t0))))))))))
def wp_X8_step_114 (m_arcs : Int32) (m_arcFrom : (Nat → Int32)) (m_arcTo : (Nat → Int32)) (m_arcWeight : (Nat → Int32)) (m_firstTo : (Nat → Int32)) (m_firstValue : (Nat → Int32)) (m_settings : (Nat → Int32)) (m_tells : (Nat → Int32)) (m_keepsSteps : Int32) (post : (Nat → Int32) → Int32 → (Nat → Int32) → (Nat → Int32) → (Nat → Int32) → (Nat → Int32) → (Nat → Int32) → (Nat → Int32) → Int32 → Prop) (x1 : Int32) (x2 : Int32) (x4 : Int32) (x5 : Int32) (x6 : Int32) (x7 : Int32) (x8 : Int32) (t0 : Int32) (t1 : Int32) (t2 : Int32) (m_found : (Nat → Int32)) (m_states : Int32) (m_places : (Nat → Int32)) (m_at : (Nat → Int32)) (m_parent : (Nat → Int32)) (m_stepBy : (Nat → Int32)) (m_stepValue : (Nat → Int32)) (m_stepDouble : (Nat → Int32)) (m_isOver : Int32) : Prop := vp_in t2 148 ∧ (wp_X8_comes m_arcs m_arcFrom m_arcWeight m_settings m_tells (upd m_at t2.toNatClampNeg (vp_nar .byte ((t1 - t0).toInt8.toInt32))) x7 x8 x6 (fun (m_at_16 : (Nat → Int32)) => wp_X8_find m_found m_states m_places m_at_16 x5 (fun (r17 : Int32) (m_found_18 : (Nat → Int32)) (m_states_19 : Int32) (m_places_20 : (Nat → Int32)) => (0 ≤ r17 → (wp_X8_step_146 m_arcs m_arcFrom m_arcTo m_arcWeight m_firstTo m_firstValue m_settings m_tells m_keepsSteps post x1 x2 x4 x8 r17 0 m_found_18 m_states_19 m_places_20 m_at_16 m_parent m_stepBy m_stepValue m_stepDouble m_isOver)) ∧ (¬ 0 ≤ r17 → (wp_X8_step_146 m_arcs m_arcFrom m_arcTo m_arcWeight m_firstTo m_firstValue m_settings m_tells m_keepsSteps post x1 x2 x4 x8 r17 1 m_found_18 m_states_19 m_places_20 m_at_16 m_parent m_stepBy m_stepValue m_stepDouble m_isOver)))))
def wp_X8_step_96 (m_arcs : Int32) (m_arcFrom : (Nat → Int32)) (m_arcTo : (Nat → Int32)) (m_arcWeight : (Nat → Int32)) (m_firstTo : (Nat → Int32)) (m_firstValue : (Nat → Int32)) (m_settings : (Nat → Int32)) (m_tells : (Nat → Int32)) (m_keepsSteps : Int32) (post : (Nat → Int32) → Int32 → (Nat → Int32) → (Nat → Int32) → (Nat → Int32) → (Nat → Int32) → (Nat → Int32) → (Nat → Int32) → Int32 → Prop) (x1 : Int32) (x2 : Int32) (x4 : Int32) (x5 : Int32) (x6 : Int32) (x7 : Int32) (x8 : Int32) (m_found : (Nat → Int32)) (m_states : Int32) (m_places : (Nat → Int32)) (m_at : (Nat → Int32)) (m_parent : (Nat → Int32)) (m_stepBy : (Nat → Int32)) (m_stepValue : (Nat → Int32)) (m_stepDouble : (Nat → Int32)) (m_isOver : Int32) : Prop := vp_in 11 148 ∧ ((x4 = 0 → (wp_X8_step_114 m_arcs m_arcFrom m_arcTo m_arcWeight m_firstTo m_firstValue m_settings m_tells m_keepsSteps post x1 x2 x4 x5 x6 x7 x8 0 (m_at (11 : Int32).toNatClampNeg) 11 m_found m_states m_places m_at m_parent m_stepBy m_stepValue m_stepDouble m_isOver)) ∧ (¬ x4 = 0 → (wp_X8_step_114 m_arcs m_arcFrom m_arcTo m_arcWeight m_firstTo m_firstValue m_settings m_tells m_keepsSteps post x1 x2 x4 x5 x6 x7 x8 1 (m_at (11 : Int32).toNatClampNeg) 11 m_found m_states m_places m_at m_parent m_stepBy m_stepValue m_stepDouble m_isOver)))
def wp_X8_step_56 (m_arcs : Int32) (m_arcFrom : (Nat → Int32)) (m_arcTo : (Nat → Int32)) (m_arcWeight : (Nat → Int32)) (m_firstTo : (Nat → Int32)) (m_firstValue : (Nat → Int32)) (m_settings : (Nat → Int32)) (m_tells : (Nat → Int32)) (m_keepsSteps : Int32) (post : (Nat → Int32) → Int32 → (Nat → Int32) → (Nat → Int32) → (Nat → Int32) → (Nat → Int32) → (Nat → Int32) → (Nat → Int32) → Int32 → Prop) (x1 : Int32) (x2 : Int32) (x4 : Int32) (x5 : Int32) (x6 : Int32) (x7 : Int32) (x8 : Int32) (t0 : Int32) (t1 : Int32) (t2 : Int32) (m_found : (Nat → Int32)) (m_states : Int32) (m_places : (Nat → Int32)) (m_at : (Nat → Int32)) (m_parent : (Nat → Int32)) (m_stepBy : (Nat → Int32)) (m_stepValue : (Nat → Int32)) (m_stepDouble : (Nat → Int32)) (m_isOver : Int32) : Prop := vp_in t2 148 ∧ (wp_X8_step_96 m_arcs m_arcFrom m_arcTo m_arcWeight m_firstTo m_firstValue m_settings m_tells m_keepsSteps post x1 x2 x4 x5 x6 x7 x8 m_found m_states m_places (upd m_at t2.toNatClampNeg (vp_nar .byte ((t1 ||| t0).toInt8.toInt32))) m_parent m_stepBy m_stepValue m_stepDouble m_isOver)
def wp_X8_step_0 (m_arcs : Int32) (m_arcFrom : (Nat → Int32)) (m_arcTo : (Nat → Int32)) (m_arcWeight : (Nat → Int32)) (m_firstTo : (Nat → Int32)) (m_firstValue : (Nat → Int32)) (m_settings : (Nat → Int32)) (m_tells : (Nat → Int32)) (m_keepsSteps : Int32) (post : (Nat → Int32) → Int32 → (Nat → Int32) → (Nat → Int32) → (Nat → Int32) → (Nat → Int32) → (Nat → Int32) → (Nat → Int32) → Int32 → Prop) (x1 : Int32) (x2 : Int32) (x3 : Int32) (x4 : Int32) (x5 : Int32) (x6 : Int32) (m_found : (Nat → Int32)) (m_states : Int32) (m_places : (Nat → Int32)) (m_at : (Nat → Int32)) (m_parent : (Nat → Int32)) (m_stepBy : (Nat → Int32)) (m_stepValue : (Nat → Int32)) (m_stepDouble : (Nat → Int32)) (m_isOver : Int32) : Prop := wp_X8_load m_found m_at x1 (fun (m_at_1 : (Nat → Int32)) => (x2 < 100 → (vp_in x2 8 ∧ (∀ y3 : Int32, y3 = (m_arcTo x2.toNatClampNeg) → (wp_X8_rowOf x2 (fun (r4 : Int32) => vp_in ((r4 + 1) + x3) 148 ∧ (∀ y6 : Int32, y6 = (m_at_1 ((r4 + 1) + x3).toNatClampNeg) → ((¬ x4 = 0 → (wp_X8_step_96 m_arcs m_arcFrom m_arcTo m_arcWeight m_firstTo m_firstValue m_settings m_tells m_keepsSteps post x1 x2 x4 x5 x6 y3 y6 m_found m_states m_places m_at_1 m_parent m_stepBy m_stepValue m_stepDouble m_isOver)) ∧ (x4 = 0 → (wp_X8_takeOff m_at_1 x2 x3 (fun (m_at_7 : (Nat → Int32)) => wp_X8_step_96 m_arcs m_arcFrom m_arcTo m_arcWeight m_firstTo m_firstValue m_settings m_tells m_keepsSteps post x1 x2 x4 x5 x6 y3 y6 m_found m_states m_places m_at_7 m_parent m_stepBy m_stepValue m_stepDouble m_isOver)))))))))) ∧ (¬ x2 < 100 → (vp_in (x2 - 100) 4 ∧ (∀ y9 : Int32, y9 = (m_firstTo (x2 - 100).toNatClampNeg) → (vp_in (x2 - 100) 4 ∧ (∀ y11 : Int32, y11 = (m_firstValue (x2 - 100).toNatClampNeg) → (vp_in 10 148 ∧ ((x4 = 0 → (wp_X8_step_56 m_arcs m_arcFrom m_arcTo m_arcWeight m_firstTo m_firstValue m_settings m_tells m_keepsSteps post x1 x2 x4 x5 x6 y9 y11 (1 <<< ((x2 - 100) &&& 31)) (m_at_1 (10 : Int32).toNatClampNeg) 10 m_found m_states m_places m_at_1 m_parent m_stepBy m_stepValue m_stepDouble m_isOver)) ∧ (¬ x4 = 0 → (wp_X8_step_56 m_arcs m_arcFrom m_arcTo m_arcWeight m_firstTo m_firstValue m_settings m_tells m_keepsSteps post x1 x2 x4 x5 x6 y9 y11 0 (m_at_1 (10 : Int32).toNatClampNeg) 10 m_found m_states m_places m_at_1 m_parent m_stepBy m_stepValue m_stepDouble m_isOver))))))))))
abbrev wp_X8_step (m_arcs : Int32) (m_arcFrom : (Nat → Int32)) (m_arcTo : (Nat → Int32)) (m_arcWeight : (Nat → Int32)) (m_firstTo : (Nat → Int32)) (m_firstValue : (Nat → Int32)) (m_settings : (Nat → Int32)) (m_tells : (Nat → Int32)) (m_found : (Nat → Int32)) (m_states : Int32) (m_places : (Nat → Int32)) (m_at : (Nat → Int32)) (m_parent : (Nat → Int32)) (m_stepBy : (Nat → Int32)) (m_stepValue : (Nat → Int32)) (m_stepDouble : (Nat → Int32)) (m_keepsSteps : Int32) (m_isOver : Int32) (x1 : Int32) (x2 : Int32) (x3 : Int32) (x4 : Int32) (x5 : Int32) (x6 : Int32) (post : (Nat → Int32) → Int32 → (Nat → Int32) → (Nat → Int32) → (Nat → Int32) → (Nat → Int32) → (Nat → Int32) → (Nat → Int32) → Int32 → Prop) : Prop := wp_X8_step_0 m_arcs m_arcFrom m_arcTo m_arcWeight m_firstTo m_firstValue m_settings m_tells m_keepsSteps post x1 x2 x3 x4 x5 x6 m_found m_states m_places m_at m_parent m_stepBy m_stepValue m_stepDouble m_isOver
def wp_X8_stepBoth_63 (m_arcs : Int32) (m_arcFrom : (Nat → Int32)) (m_arcTo : (Nat → Int32)) (m_arcWeight : (Nat → Int32)) (m_firstTo : (Nat → Int32)) (m_firstValue : (Nat → Int32)) (m_settings : (Nat → Int32)) (m_tells : (Nat → Int32)) (m_keepsSteps : Int32) (post : (Nat → Int32) → Int32 → (Nat → Int32) → (Nat → Int32) → (Nat → Int32) → (Nat → Int32) → (Nat → Int32) → (Nat → Int32) → Int32 → Prop) (K18 : Int32 → (Nat → Int32) → Int32 → (Nat → Int32) → (Nat → Int32) → (Nat → Int32) → (Nat → Int32) → (Nat → Int32) → (Nat → Int32) → Int32 → Prop) (x1 : Int32) (x2 : Int32) (x3 : Int32) (x4 : Int32) (x5 : Int32) (x6 : Int32) (x7 : Int32) (m_found : (Nat → Int32)) (m_states : Int32) (m_places : (Nat → Int32)) (m_at : (Nat → Int32)) (m_parent : (Nat → Int32)) (m_stepBy : (Nat → Int32)) (m_stepValue : (Nat → Int32)) (m_stepDouble : (Nat → Int32)) (m_isOver : Int32) : Prop := K18 (x7 + 1) m_found m_states m_places m_at m_parent m_stepBy m_stepValue m_stepDouble m_isOver
def wp_X8_stepBoth_56 (m_arcs : Int32) (m_arcFrom : (Nat → Int32)) (m_arcTo : (Nat → Int32)) (m_arcWeight : (Nat → Int32)) (m_firstTo : (Nat → Int32)) (m_firstValue : (Nat → Int32)) (m_settings : (Nat → Int32)) (m_tells : (Nat → Int32)) (m_keepsSteps : Int32) (post : (Nat → Int32) → Int32 → (Nat → Int32) → (Nat → Int32) → (Nat → Int32) → (Nat → Int32) → (Nat → Int32) → (Nat → Int32) → Int32 → Prop) (K18 : Int32 → (Nat → Int32) → Int32 → (Nat → Int32) → (Nat → Int32) → (Nat → Int32) → (Nat → Int32) → (Nat → Int32) → (Nat → Int32) → Int32 → Prop) (x1 : Int32) (x2 : Int32) (x3 : Int32) (x4 : Int32) (x5 : Int32) (x6 : Int32) (x7 : Int32) (t0 : Int32) (t1 : Int32) (t2 : Int32) (t3 : Int32) (m_found : (Nat → Int32)) (m_states : Int32) (m_places : (Nat → Int32)) (m_at : (Nat → Int32)) (m_parent : (Nat → Int32)) (m_stepBy : (Nat → Int32)) (m_stepValue : (Nat → Int32)) (m_stepDouble : (Nat → Int32)) (m_isOver : Int32) : Prop := wp_X8_step m_arcs m_arcFrom m_arcTo m_arcWeight m_firstTo m_firstValue m_settings m_tells m_found m_states m_places m_at m_parent m_stepBy m_stepValue m_stepDouble m_keepsSteps m_isOver t3 t2 t1 t0 x4 x5 (fun (m_found_3 : (Nat → Int32)) (m_states_4 : Int32) (m_places_5 : (Nat → Int32)) (m_at_6 : (Nat → Int32)) (m_parent_7 : (Nat → Int32)) (m_stepBy_8 : (Nat → Int32)) (m_stepValue_9 : (Nat → Int32)) (m_stepDouble_10 : (Nat → Int32)) (m_isOver_11 : Int32) => wp_X8_stepBoth_63 m_arcs m_arcFrom m_arcTo m_arcWeight m_firstTo m_firstValue m_settings m_tells m_keepsSteps post K18 x1 x2 x3 x4 x5 x6 x7 m_found_3 m_states_4 m_places_5 m_at_6 m_parent_7 m_stepBy_8 m_stepValue_9 m_stepDouble_10 m_isOver_11)
def wp_X8_stepBoth_41 (m_arcs : Int32) (m_arcFrom : (Nat → Int32)) (m_arcTo : (Nat → Int32)) (m_arcWeight : (Nat → Int32)) (m_firstTo : (Nat → Int32)) (m_firstValue : (Nat → Int32)) (m_settings : (Nat → Int32)) (m_tells : (Nat → Int32)) (m_keepsSteps : Int32) (post : (Nat → Int32) → Int32 → (Nat → Int32) → (Nat → Int32) → (Nat → Int32) → (Nat → Int32) → (Nat → Int32) → (Nat → Int32) → Int32 → Prop) (K18 : Int32 → (Nat → Int32) → Int32 → (Nat → Int32) → (Nat → Int32) → (Nat → Int32) → (Nat → Int32) → (Nat → Int32) → (Nat → Int32) → Int32 → Prop) (x1 : Int32) (x2 : Int32) (x3 : Int32) (x4 : Int32) (x5 : Int32) (x6 : Int32) (x7 : Int32) (m_found : (Nat → Int32)) (m_states : Int32) (m_places : (Nat → Int32)) (m_at : (Nat → Int32)) (m_parent : (Nat → Int32)) (m_stepBy : (Nat → Int32)) (m_stepValue : (Nat → Int32)) (m_stepDouble : (Nat → Int32)) (m_isOver : Int32) : Prop := (¬ x7 = 1 → (wp_X8_stepBoth_56 m_arcs m_arcFrom m_arcTo m_arcWeight m_firstTo m_firstValue m_settings m_tells m_keepsSteps post K18 x1 x2 x3 x4 x5 x6 x7 0 x3 x2 x1 m_found m_states m_places m_at m_parent m_stepBy m_stepValue m_stepDouble m_isOver)) ∧ (x7 = 1 → (wp_X8_stepBoth_56 m_arcs m_arcFrom m_arcTo m_arcWeight m_firstTo m_firstValue m_settings m_tells m_keepsSteps post K18 x1 x2 x3 x4 x5 x6 x7 1 x3 x2 x1 m_found m_states m_places m_at m_parent m_stepBy m_stepValue m_stepDouble m_isOver))
def bd_X8_stepBoth_18 (m_arcs : Int32) (m_arcFrom : (Nat → Int32)) (m_arcTo : (Nat → Int32)) (m_arcWeight : (Nat → Int32)) (m_firstTo : (Nat → Int32)) (m_firstValue : (Nat → Int32)) (m_settings : (Nat → Int32)) (m_tells : (Nat → Int32)) (m_keepsSteps : Int32) (post : (Nat → Int32) → Int32 → (Nat → Int32) → (Nat → Int32) → (Nat → Int32) → (Nat → Int32) → (Nat → Int32) → (Nat → Int32) → Int32 → Prop) (K18 : Int32 → (Nat → Int32) → Int32 → (Nat → Int32) → (Nat → Int32) → (Nat → Int32) → (Nat → Int32) → (Nat → Int32) → (Nat → Int32) → Int32 → Prop) (x1 : Int32) (x2 : Int32) (x3 : Int32) (x4 : Int32) (x5 : Int32) (x6 : Int32) (x7 : Int32) (m_found : (Nat → Int32)) (m_states : Int32) (m_places : (Nat → Int32)) (m_at : (Nat → Int32)) (m_parent : (Nat → Int32)) (m_stepBy : (Nat → Int32)) (m_stepValue : (Nat → Int32)) (m_stepDouble : (Nat → Int32)) (m_isOver : Int32) : Prop := (2 ≤ x7 → (post m_found m_states m_places m_at m_parent m_stepBy m_stepValue m_stepDouble m_isOver)) ∧ (¬ 2 ≤ x7 → ((¬ m_isOver = 0 → (post m_found m_states m_places m_at m_parent m_stepBy m_stepValue m_stepDouble m_isOver)) ∧ (m_isOver = 0 → ((x7 = 0 → (wp_X8_stepBoth_41 m_arcs m_arcFrom m_arcTo m_arcWeight m_firstTo m_firstValue m_settings m_tells m_keepsSteps post K18 x1 x2 x3 x4 x5 x6 x7 m_found m_states m_places m_at m_parent m_stepBy m_stepValue m_stepDouble m_isOver)) ∧ (¬ x7 = 0 → ((x6 ≤ 0 → (wp_X8_stepBoth_63 m_arcs m_arcFrom m_arcTo m_arcWeight m_firstTo m_firstValue m_settings m_tells m_keepsSteps post K18 x1 x2 x3 x4 x5 x6 x7 m_found m_states m_places m_at m_parent m_stepBy m_stepValue m_stepDouble m_isOver)) ∧ (¬ x6 ≤ 0 → (wp_X8_stepBoth_41 m_arcs m_arcFrom m_arcTo m_arcWeight m_firstTo m_firstValue m_settings m_tells m_keepsSteps post K18 x1 x2 x3 x4 x5 x6 x7 m_found m_states m_places m_at m_parent m_stepBy m_stepValue m_stepDouble m_isOver))))))))
def wp_X8_stepBoth_18 (m_arcs : Int32) (m_arcFrom : (Nat → Int32)) (m_arcTo : (Nat → Int32)) (m_arcWeight : (Nat → Int32)) (m_firstTo : (Nat → Int32)) (m_firstValue : (Nat → Int32)) (m_settings : (Nat → Int32)) (m_tells : (Nat → Int32)) (m_keepsSteps : Int32) (post : (Nat → Int32) → Int32 → (Nat → Int32) → (Nat → Int32) → (Nat → Int32) → (Nat → Int32) → (Nat → Int32) → (Nat → Int32) → Int32 → Prop) (x1 : Int32) (x2 : Int32) (x3 : Int32) (x4 : Int32) (x5 : Int32) (x6 : Int32) (x7 : Int32) (m_found : (Nat → Int32)) (m_states : Int32) (m_places : (Nat → Int32)) (m_at : (Nat → Int32)) (m_parent : (Nat → Int32)) (m_stepBy : (Nat → Int32)) (m_stepValue : (Nat → Int32)) (m_stepDouble : (Nat → Int32)) (m_isOver : Int32) : Prop := ∃ (I : Nat → Int32 → (Nat → Int32) → Int32 → (Nat → Int32) → (Nat → Int32) → (Nat → Int32) → (Nat → Int32) → (Nat → Int32) → (Nat → Int32) → Int32 → Prop) (n : Nat), I n x7 m_found m_states m_places m_at m_parent m_stepBy m_stepValue m_stepDouble m_isOver ∧ ∀ (n : Nat) (x7 : Int32) (m_found : (Nat → Int32)) (m_states : Int32) (m_places : (Nat → Int32)) (m_at : (Nat → Int32)) (m_parent : (Nat → Int32)) (m_stepBy : (Nat → Int32)) (m_stepValue : (Nat → Int32)) (m_stepDouble : (Nat → Int32)) (m_isOver : Int32), I n x7 m_found m_states m_places m_at m_parent m_stepBy m_stepValue m_stepDouble m_isOver → bd_X8_stepBoth_18 m_arcs m_arcFrom m_arcTo m_arcWeight m_firstTo m_firstValue m_settings m_tells m_keepsSteps post (fun (x7' : Int32) (m_found' : (Nat → Int32)) (m_states' : Int32) (m_places' : (Nat → Int32)) (m_at' : (Nat → Int32)) (m_parent' : (Nat → Int32)) (m_stepBy' : (Nat → Int32)) (m_stepValue' : (Nat → Int32)) (m_stepDouble' : (Nat → Int32)) (m_isOver' : Int32) => ∃ n', n' < n ∧ I n' x7' m_found' m_states' m_places' m_at' m_parent' m_stepBy' m_stepValue' m_stepDouble' m_isOver') x1 x2 x3 x4 x5 x6 x7 m_found m_states m_places m_at m_parent m_stepBy m_stepValue m_stepDouble m_isOver
def wp_X8_stepBoth_0 (m_arcs : Int32) (m_arcFrom : (Nat → Int32)) (m_arcTo : (Nat → Int32)) (m_arcWeight : (Nat → Int32)) (m_firstTo : (Nat → Int32)) (m_firstValue : (Nat → Int32)) (m_settings : (Nat → Int32)) (m_tells : (Nat → Int32)) (m_keepsSteps : Int32) (post : (Nat → Int32) → Int32 → (Nat → Int32) → (Nat → Int32) → (Nat → Int32) → (Nat → Int32) → (Nat → Int32) → (Nat → Int32) → Int32 → Prop) (x1 : Int32) (x2 : Int32) (x3 : Int32) (x4 : Int32) (x5 : Int32) (m_found : (Nat → Int32)) (m_states : Int32) (m_places : (Nat → Int32)) (m_at : (Nat → Int32)) (m_parent : (Nat → Int32)) (m_stepBy : (Nat → Int32)) (m_stepValue : (Nat → Int32)) (m_stepDouble : (Nat → Int32)) (m_isOver : Int32) : Prop := vp_in ((148 * x1) + 11) 88800 ∧ (∀ y2 : Int32, y2 = (m_found ((148 * x1) + 11).toNatClampNeg) → (wp_X8_stepBoth_18 m_arcs m_arcFrom m_arcTo m_arcWeight m_firstTo m_firstValue m_settings m_tells m_keepsSteps post x1 x2 x3 x4 x5 y2 0 m_found m_states m_places m_at m_parent m_stepBy m_stepValue m_stepDouble m_isOver))
abbrev wp_X8_stepBoth (m_arcs : Int32) (m_arcFrom : (Nat → Int32)) (m_arcTo : (Nat → Int32)) (m_arcWeight : (Nat → Int32)) (m_firstTo : (Nat → Int32)) (m_firstValue : (Nat → Int32)) (m_settings : (Nat → Int32)) (m_tells : (Nat → Int32)) (m_found : (Nat → Int32)) (m_states : Int32) (m_places : (Nat → Int32)) (m_at : (Nat → Int32)) (m_parent : (Nat → Int32)) (m_stepBy : (Nat → Int32)) (m_stepValue : (Nat → Int32)) (m_stepDouble : (Nat → Int32)) (m_keepsSteps : Int32) (m_isOver : Int32) (x1 : Int32) (x2 : Int32) (x3 : Int32) (x4 : Int32) (x5 : Int32) (post : (Nat → Int32) → Int32 → (Nat → Int32) → (Nat → Int32) → (Nat → Int32) → (Nat → Int32) → (Nat → Int32) → (Nat → Int32) → Int32 → Prop) : Prop := wp_X8_stepBoth_0 m_arcs m_arcFrom m_arcTo m_arcWeight m_firstTo m_firstValue m_settings m_tells m_keepsSteps post x1 x2 x3 x4 x5 m_found m_states m_places m_at m_parent m_stepBy m_stepValue m_stepDouble m_isOver
def wp_X8_goOn_53 (m_arcs : Int32) (m_arcFrom : (Nat → Int32)) (m_arcTo : (Nat → Int32)) (m_arcWeight : (Nat → Int32)) (m_firsts : Int32) (m_firstTo : (Nat → Int32)) (m_firstValue : (Nat → Int32)) (m_settings : (Nat → Int32)) (m_tells : (Nat → Int32)) (m_keepsSteps : Int32) (post : (Nat → Int32) → Int32 → (Nat → Int32) → (Nat → Int32) → (Nat → Int32) → (Nat → Int32) → (Nat → Int32) → (Nat → Int32) → Int32 → Prop) (K3 : Int32 → (Nat → Int32) → Int32 → (Nat → Int32) → (Nat → Int32) → (Nat → Int32) → (Nat → Int32) → (Nat → Int32) → (Nat → Int32) → Int32 → Prop) (x1 : Int32) (x2 : Int32) (x3 : Int32) (x4 : Int32) (m_found : (Nat → Int32)) (m_states : Int32) (m_places : (Nat → Int32)) (m_at : (Nat → Int32)) (m_parent : (Nat → Int32)) (m_stepBy : (Nat → Int32)) (m_stepValue : (Nat → Int32)) (m_stepDouble : (Nat → Int32)) (m_isOver : Int32) : Prop := K3 (x4 + 1) m_found m_states m_places m_at m_parent m_stepBy m_stepValue m_stepDouble m_isOver
def wp_X8_goOn_176 (m_arcs : Int32) (m_arcFrom : (Nat → Int32)) (m_arcTo : (Nat → Int32)) (m_arcWeight : (Nat → Int32)) (m_firsts : Int32) (m_firstTo : (Nat → Int32)) (m_firstValue : (Nat → Int32)) (m_settings : (Nat → Int32)) (m_tells : (Nat → Int32)) (m_keepsSteps : Int32) (post : (Nat → Int32) → Int32 → (Nat → Int32) → (Nat → Int32) → (Nat → Int32) → (Nat → Int32) → (Nat → Int32) → (Nat → Int32) → Int32 → Prop) (K62 : Int32 → (Nat → Int32) → Int32 → (Nat → Int32) → (Nat → Int32) → (Nat → Int32) → (Nat → Int32) → (Nat → Int32) → (Nat → Int32) → Int32 → Prop) (K121 : Int32 → (Nat → Int32) → Int32 → (Nat → Int32) → (Nat → Int32) → (Nat → Int32) → (Nat → Int32) → (Nat → Int32) → (Nat → Int32) → Int32 → Prop) (x1 : Int32) (x2 : Int32) (x3 : Int32) (x4 : Int32) (x5 : Int32) (x6 : Int32) (x7 : Int32) (m_found : (Nat → Int32)) (m_states : Int32) (m_places : (Nat → Int32)) (m_at : (Nat → Int32)) (m_parent : (Nat → Int32)) (m_stepBy : (Nat → Int32)) (m_stepValue : (Nat → Int32)) (m_stepDouble : (Nat → Int32)) (m_isOver : Int32) : Prop := K121 (x7 + 1) m_found m_states m_places m_at m_parent m_stepBy m_stepValue m_stepDouble m_isOver
def wp_X8_goOn_165 (m_arcs : Int32) (m_arcFrom : (Nat → Int32)) (m_arcTo : (Nat → Int32)) (m_arcWeight : (Nat → Int32)) (m_firsts : Int32) (m_firstTo : (Nat → Int32)) (m_firstValue : (Nat → Int32)) (m_settings : (Nat → Int32)) (m_tells : (Nat → Int32)) (m_keepsSteps : Int32) (post : (Nat → Int32) → Int32 → (Nat → Int32) → (Nat → Int32) → (Nat → Int32) → (Nat → Int32) → (Nat → Int32) → (Nat → Int32) → Int32 → Prop) (K62 : Int32 → (Nat → Int32) → Int32 → (Nat → Int32) → (Nat → Int32) → (Nat → Int32) → (Nat → Int32) → (Nat → Int32) → (Nat → Int32) → Int32 → Prop) (K121 : Int32 → (Nat → Int32) → Int32 → (Nat → Int32) → (Nat → Int32) → (Nat → Int32) → (Nat → Int32) → (Nat → Int32) → (Nat → Int32) → Int32 → Prop) (x1 : Int32) (x2 : Int32) (x3 : Int32) (x4 : Int32) (x5 : Int32) (x6 : Int32) (x7 : Int32) (m_found : (Nat → Int32)) (m_states : Int32) (m_places : (Nat → Int32)) (m_at : (Nat → Int32)) (m_parent : (Nat → Int32)) (m_stepBy : (Nat → Int32)) (m_stepValue : (Nat → Int32)) (m_stepDouble : (Nat → Int32)) (m_isOver : Int32) : Prop := wp_X8_stepBoth m_arcs m_arcFrom m_arcTo m_arcWeight m_firstTo m_firstValue m_settings m_tells m_found m_states m_places m_at m_parent m_stepBy m_stepValue m_stepDouble m_keepsSteps m_isOver x1 x4 x7 x2 x3 (fun (m_found_17 : (Nat → Int32)) (m_states_18 : Int32) (m_places_19 : (Nat → Int32)) (m_at_20 : (Nat → Int32)) (m_parent_21 : (Nat → Int32)) (m_stepBy_22 : (Nat → Int32)) (m_stepValue_23 : (Nat → Int32)) (m_stepDouble_24 : (Nat → Int32)) (m_isOver_25 : Int32) => wp_X8_goOn_176 m_arcs m_arcFrom m_arcTo m_arcWeight m_firsts m_firstTo m_firstValue m_settings m_tells m_keepsSteps post K62 K121 x1 x2 x3 x4 x5 x6 x7 m_found_17 m_states_18 m_places_19 m_at_20 m_parent_21 m_stepBy_22 m_stepValue_23 m_stepDouble_24 m_isOver_25)
def wp_X8_goOn_182 (m_arcs : Int32) (m_arcFrom : (Nat → Int32)) (m_arcTo : (Nat → Int32)) (m_arcWeight : (Nat → Int32)) (m_firsts : Int32) (m_firstTo : (Nat → Int32)) (m_firstValue : (Nat → Int32)) (m_settings : (Nat → Int32)) (m_tells : (Nat → Int32)) (m_keepsSteps : Int32) (post : (Nat → Int32) → Int32 → (Nat → Int32) → (Nat → Int32) → (Nat → Int32) → (Nat → Int32) → (Nat → Int32) → (Nat → Int32) → Int32 → Prop) (K62 : Int32 → (Nat → Int32) → Int32 → (Nat → Int32) → (Nat → Int32) → (Nat → Int32) → (Nat → Int32) → (Nat → Int32) → (Nat → Int32) → Int32 → Prop) (x1 : Int32) (x2 : Int32) (x3 : Int32) (x4 : Int32) (m_found : (Nat → Int32)) (m_states : Int32) (m_places : (Nat → Int32)) (m_at : (Nat → Int32)) (m_parent : (Nat → Int32)) (m_stepBy : (Nat → Int32)) (m_stepValue : (Nat → Int32)) (m_stepDouble : (Nat → Int32)) (m_isOver : Int32) : Prop := K62 (x4 + 1) m_found m_states m_places m_at m_parent m_stepBy m_stepValue m_stepDouble m_isOver
def bd_X8_goOn_121 (m_arcs : Int32) (m_arcFrom : (Nat → Int32)) (m_arcTo : (Nat → Int32)) (m_arcWeight : (Nat → Int32)) (m_firsts : Int32) (m_firstTo : (Nat → Int32)) (m_firstValue : (Nat → Int32)) (m_settings : (Nat → Int32)) (m_tells : (Nat → Int32)) (m_keepsSteps : Int32) (post : (Nat → Int32) → Int32 → (Nat → Int32) → (Nat → Int32) → (Nat → Int32) → (Nat → Int32) → (Nat → Int32) → (Nat → Int32) → Int32 → Prop) (K62 : Int32 → (Nat → Int32) → Int32 → (Nat → Int32) → (Nat → Int32) → (Nat → Int32) → (Nat → Int32) → (Nat → Int32) → (Nat → Int32) → Int32 → Prop) (K121 : Int32 → (Nat → Int32) → Int32 → (Nat → Int32) → (Nat → Int32) → (Nat → Int32) → (Nat → Int32) → (Nat → Int32) → (Nat → Int32) → Int32 → Prop) (x1 : Int32) (x2 : Int32) (x3 : Int32) (x4 : Int32) (x5 : Int32) (x6 : Int32) (x7 : Int32) (m_found : (Nat → Int32)) (m_states : Int32) (m_places : (Nat → Int32)) (m_at : (Nat → Int32)) (m_parent : (Nat → Int32)) (m_stepBy : (Nat → Int32)) (m_stepValue : (Nat → Int32)) (m_stepDouble : (Nat → Int32)) (m_isOver : Int32) : Prop := (x6 ≤ x7 → (wp_X8_goOn_182 m_arcs m_arcFrom m_arcTo m_arcWeight m_firsts m_firstTo m_firstValue m_settings m_tells m_keepsSteps post K62 x1 x2 x3 x4 m_found m_states m_places m_at m_parent m_stepBy m_stepValue m_stepDouble m_isOver)) ∧ (¬ x6 ≤ x7 → ((¬ m_isOver = 0 → (wp_X8_goOn_182 m_arcs m_arcFrom m_arcTo m_arcWeight m_firsts m_firstTo m_firstValue m_settings m_tells m_keepsSteps post K62 x1 x2 x3 x4 m_found m_states m_places m_at m_parent m_stepBy m_stepValue m_stepDouble m_isOver)) ∧ (m_isOver = 0 → ((x7 = 0 → (wp_X8_goOn_165 m_arcs m_arcFrom m_arcTo m_arcWeight m_firsts m_firstTo m_firstValue m_settings m_tells m_keepsSteps post K62 K121 x1 x2 x3 x4 x5 x6 x7 m_found m_states m_places m_at m_parent m_stepBy m_stepValue m_stepDouble m_isOver)) ∧ (¬ x7 = 0 → (vp_in ((x5 + 1) + x7) 88800 ∧ (vp_in (x5 + x7) 88800 ∧ (((m_found ((x5 + 1) + x7).toNatClampNeg) = (m_found (x5 + x7).toNatClampNeg) → (wp_X8_goOn_176 m_arcs m_arcFrom m_arcTo m_arcWeight m_firsts m_firstTo m_firstValue m_settings m_tells m_keepsSteps post K62 K121 x1 x2 x3 x4 x5 x6 x7 m_found m_states m_places m_at m_parent m_stepBy m_stepValue m_stepDouble m_isOver)) ∧ (¬ (m_found ((x5 + 1) + x7).toNatClampNeg) = (m_found (x5 + x7).toNatClampNeg) → (wp_X8_goOn_165 m_arcs m_arcFrom m_arcTo m_arcWeight m_firsts m_firstTo m_firstValue m_settings m_tells m_keepsSteps post K62 K121 x1 x2 x3 x4 x5 x6 x7 m_found m_states m_places m_at m_parent m_stepBy m_stepValue m_stepDouble m_isOver))))))))))
def wp_X8_goOn_121 (m_arcs : Int32) (m_arcFrom : (Nat → Int32)) (m_arcTo : (Nat → Int32)) (m_arcWeight : (Nat → Int32)) (m_firsts : Int32) (m_firstTo : (Nat → Int32)) (m_firstValue : (Nat → Int32)) (m_settings : (Nat → Int32)) (m_tells : (Nat → Int32)) (m_keepsSteps : Int32) (post : (Nat → Int32) → Int32 → (Nat → Int32) → (Nat → Int32) → (Nat → Int32) → (Nat → Int32) → (Nat → Int32) → (Nat → Int32) → Int32 → Prop) (K62 : Int32 → (Nat → Int32) → Int32 → (Nat → Int32) → (Nat → Int32) → (Nat → Int32) → (Nat → Int32) → (Nat → Int32) → (Nat → Int32) → Int32 → Prop) (x1 : Int32) (x2 : Int32) (x3 : Int32) (x4 : Int32) (x5 : Int32) (x6 : Int32) (x7 : Int32) (m_found : (Nat → Int32)) (m_states : Int32) (m_places : (Nat → Int32)) (m_at : (Nat → Int32)) (m_parent : (Nat → Int32)) (m_stepBy : (Nat → Int32)) (m_stepValue : (Nat → Int32)) (m_stepDouble : (Nat → Int32)) (m_isOver : Int32) : Prop := ∃ (I : Nat → Int32 → (Nat → Int32) → Int32 → (Nat → Int32) → (Nat → Int32) → (Nat → Int32) → (Nat → Int32) → (Nat → Int32) → (Nat → Int32) → Int32 → Prop) (n : Nat), I n x7 m_found m_states m_places m_at m_parent m_stepBy m_stepValue m_stepDouble m_isOver ∧ ∀ (n : Nat) (x7 : Int32) (m_found : (Nat → Int32)) (m_states : Int32) (m_places : (Nat → Int32)) (m_at : (Nat → Int32)) (m_parent : (Nat → Int32)) (m_stepBy : (Nat → Int32)) (m_stepValue : (Nat → Int32)) (m_stepDouble : (Nat → Int32)) (m_isOver : Int32), I n x7 m_found m_states m_places m_at m_parent m_stepBy m_stepValue m_stepDouble m_isOver → bd_X8_goOn_121 m_arcs m_arcFrom m_arcTo m_arcWeight m_firsts m_firstTo m_firstValue m_settings m_tells m_keepsSteps post K62 (fun (x7' : Int32) (m_found' : (Nat → Int32)) (m_states' : Int32) (m_places' : (Nat → Int32)) (m_at' : (Nat → Int32)) (m_parent' : (Nat → Int32)) (m_stepBy' : (Nat → Int32)) (m_stepValue' : (Nat → Int32)) (m_stepDouble' : (Nat → Int32)) (m_isOver' : Int32) => ∃ n', n' < n ∧ I n' x7' m_found' m_states' m_places' m_at' m_parent' m_stepBy' m_stepValue' m_stepDouble' m_isOver') x1 x2 x3 x4 x5 x6 x7 m_found m_states m_places m_at m_parent m_stepBy m_stepValue m_stepDouble m_isOver
def wp_X8_goOn_116 (m_arcs : Int32) (m_arcFrom : (Nat → Int32)) (m_arcTo : (Nat → Int32)) (m_arcWeight : (Nat → Int32)) (m_firsts : Int32) (m_firstTo : (Nat → Int32)) (m_firstValue : (Nat → Int32)) (m_settings : (Nat → Int32)) (m_tells : (Nat → Int32)) (m_keepsSteps : Int32) (post : (Nat → Int32) → Int32 → (Nat → Int32) → (Nat → Int32) → (Nat → Int32) → (Nat → Int32) → (Nat → Int32) → (Nat → Int32) → Int32 → Prop) (K62 : Int32 → (Nat → Int32) → Int32 → (Nat → Int32) → (Nat → Int32) → (Nat → Int32) → (Nat → Int32) → (Nat → Int32) → (Nat → Int32) → Int32 → Prop) (x1 : Int32) (x2 : Int32) (x3 : Int32) (x4 : Int32) (x5 : Int32) (t0 : Int32) (m_found : (Nat → Int32)) (m_states : Int32) (m_places : (Nat → Int32)) (m_at : (Nat → Int32)) (m_parent : (Nat → Int32)) (m_stepBy : (Nat → Int32)) (m_stepValue : (Nat → Int32)) (m_stepDouble : (Nat → Int32)) (m_isOver : Int32) : Prop := wp_X8_goOn_121 m_arcs m_arcFrom m_arcTo m_arcWeight m_firsts m_firstTo m_firstValue m_settings m_tells m_keepsSteps post K62 x1 x2 x3 x4 x5 t0 0 m_found m_states m_places m_at m_parent m_stepBy m_stepValue m_stepDouble m_isOver
def wp_X8_goOn_109 (m_arcs : Int32) (m_arcFrom : (Nat → Int32)) (m_arcTo : (Nat → Int32)) (m_arcWeight : (Nat → Int32)) (m_firsts : Int32) (m_firstTo : (Nat → Int32)) (m_firstValue : (Nat → Int32)) (m_settings : (Nat → Int32)) (m_tells : (Nat → Int32)) (m_keepsSteps : Int32) (post : (Nat → Int32) → Int32 → (Nat → Int32) → (Nat → Int32) → (Nat → Int32) → (Nat → Int32) → (Nat → Int32) → (Nat → Int32) → Int32 → Prop) (K62 : Int32 → (Nat → Int32) → Int32 → (Nat → Int32) → (Nat → Int32) → (Nat → Int32) → (Nat → Int32) → (Nat → Int32) → (Nat → Int32) → Int32 → Prop) (x1 : Int32) (x2 : Int32) (x3 : Int32) (x4 : Int32) (x5 : Int32) (m_found : (Nat → Int32)) (m_states : Int32) (m_places : (Nat → Int32)) (m_at : (Nat → Int32)) (m_parent : (Nat → Int32)) (m_stepBy : (Nat → Int32)) (m_stepValue : (Nat → Int32)) (m_stepDouble : (Nat → Int32)) (m_isOver : Int32) : Prop := vp_in x5 88800 ∧ (wp_X8_goOn_116 m_arcs m_arcFrom m_arcTo m_arcWeight m_firsts m_firstTo m_firstValue m_settings m_tells m_keepsSteps post K62 x1 x2 x3 x4 x5 (m_found x5.toNatClampNeg) m_found m_states m_places m_at m_parent m_stepBy m_stepValue m_stepDouble m_isOver)
def bd_X8_goOn_62 (m_arcs : Int32) (m_arcFrom : (Nat → Int32)) (m_arcTo : (Nat → Int32)) (m_arcWeight : (Nat → Int32)) (m_firsts : Int32) (m_firstTo : (Nat → Int32)) (m_firstValue : (Nat → Int32)) (m_settings : (Nat → Int32)) (m_tells : (Nat → Int32)) (m_keepsSteps : Int32) (post : (Nat → Int32) → Int32 → (Nat → Int32) → (Nat → Int32) → (Nat → Int32) → (Nat → Int32) → (Nat → Int32) → (Nat → Int32) → Int32 → Prop) (K62 : Int32 → (Nat → Int32) → Int32 → (Nat → Int32) → (Nat → Int32) → (Nat → Int32) → (Nat → Int32) → (Nat → Int32) → (Nat → Int32) → Int32 → Prop) (x1 : Int32) (x2 : Int32) (x3 : Int32) (x4 : Int32) (m_found : (Nat → Int32)) (m_states : Int32) (m_places : (Nat → Int32)) (m_at : (Nat → Int32)) (m_parent : (Nat → Int32)) (m_stepBy : (Nat → Int32)) (m_stepValue : (Nat → Int32)) (m_stepDouble : (Nat → Int32)) (m_isOver : Int32) : Prop := (m_arcs ≤ x4 → (post m_found m_states m_places m_at m_parent m_stepBy m_stepValue m_stepDouble m_isOver)) ∧ (¬ m_arcs ≤ x4 → (wp_X8_rowOf x4 (fun (r11 : Int32) => vp_in 4 6 ∧ ((¬ (m_settings (4 : Int32).toNatClampNeg) = 1 → (wp_X8_goOn_109 m_arcs m_arcFrom m_arcTo m_arcWeight m_firsts m_firstTo m_firstValue m_settings m_tells m_keepsSteps post K62 x1 x2 x3 x4 ((148 * x1) + r11) m_found m_states m_places m_at m_parent m_stepBy m_stepValue m_stepDouble m_isOver)) ∧ ((m_settings (4 : Int32).toNatClampNeg) = 1 → (vp_in ((148 * x1) + r11) 88800 ∧ (((m_found ((148 * x1) + r11).toNatClampNeg) ≤ 1 → (wp_X8_goOn_109 m_arcs m_arcFrom m_arcTo m_arcWeight m_firsts m_firstTo m_firstValue m_settings m_tells m_keepsSteps post K62 x1 x2 x3 x4 ((148 * x1) + r11) m_found m_states m_places m_at m_parent m_stepBy m_stepValue m_stepDouble m_isOver)) ∧ (¬ (m_found ((148 * x1) + r11).toNatClampNeg) ≤ 1 → (wp_X8_goOn_116 m_arcs m_arcFrom m_arcTo m_arcWeight m_firsts m_firstTo m_firstValue m_settings m_tells m_keepsSteps post K62 x1 x2 x3 x4 ((148 * x1) + r11) 1 m_found m_states m_places m_at m_parent m_stepBy m_stepValue m_stepDouble m_isOver)))))))))
def wp_X8_goOn_62 (m_arcs : Int32) (m_arcFrom : (Nat → Int32)) (m_arcTo : (Nat → Int32)) (m_arcWeight : (Nat → Int32)) (m_firsts : Int32) (m_firstTo : (Nat → Int32)) (m_firstValue : (Nat → Int32)) (m_settings : (Nat → Int32)) (m_tells : (Nat → Int32)) (m_keepsSteps : Int32) (post : (Nat → Int32) → Int32 → (Nat → Int32) → (Nat → Int32) → (Nat → Int32) → (Nat → Int32) → (Nat → Int32) → (Nat → Int32) → Int32 → Prop) (x1 : Int32) (x2 : Int32) (x3 : Int32) (x4 : Int32) (m_found : (Nat → Int32)) (m_states : Int32) (m_places : (Nat → Int32)) (m_at : (Nat → Int32)) (m_parent : (Nat → Int32)) (m_stepBy : (Nat → Int32)) (m_stepValue : (Nat → Int32)) (m_stepDouble : (Nat → Int32)) (m_isOver : Int32) : Prop := ∃ (I : Nat → Int32 → (Nat → Int32) → Int32 → (Nat → Int32) → (Nat → Int32) → (Nat → Int32) → (Nat → Int32) → (Nat → Int32) → (Nat → Int32) → Int32 → Prop) (n : Nat), I n x4 m_found m_states m_places m_at m_parent m_stepBy m_stepValue m_stepDouble m_isOver ∧ ∀ (n : Nat) (x4 : Int32) (m_found : (Nat → Int32)) (m_states : Int32) (m_places : (Nat → Int32)) (m_at : (Nat → Int32)) (m_parent : (Nat → Int32)) (m_stepBy : (Nat → Int32)) (m_stepValue : (Nat → Int32)) (m_stepDouble : (Nat → Int32)) (m_isOver : Int32), I n x4 m_found m_states m_places m_at m_parent m_stepBy m_stepValue m_stepDouble m_isOver → bd_X8_goOn_62 m_arcs m_arcFrom m_arcTo m_arcWeight m_firsts m_firstTo m_firstValue m_settings m_tells m_keepsSteps post (fun (x4' : Int32) (m_found' : (Nat → Int32)) (m_states' : Int32) (m_places' : (Nat → Int32)) (m_at' : (Nat → Int32)) (m_parent' : (Nat → Int32)) (m_stepBy' : (Nat → Int32)) (m_stepValue' : (Nat → Int32)) (m_stepDouble' : (Nat → Int32)) (m_isOver' : Int32) => ∃ n', n' < n ∧ I n' x4' m_found' m_states' m_places' m_at' m_parent' m_stepBy' m_stepValue' m_stepDouble' m_isOver') x1 x2 x3 x4 m_found m_states m_places m_at m_parent m_stepBy m_stepValue m_stepDouble m_isOver
def wp_X8_goOn_59 (m_arcs : Int32) (m_arcFrom : (Nat → Int32)) (m_arcTo : (Nat → Int32)) (m_arcWeight : (Nat → Int32)) (m_firsts : Int32) (m_firstTo : (Nat → Int32)) (m_firstValue : (Nat → Int32)) (m_settings : (Nat → Int32)) (m_tells : (Nat → Int32)) (m_keepsSteps : Int32) (post : (Nat → Int32) → Int32 → (Nat → Int32) → (Nat → Int32) → (Nat → Int32) → (Nat → Int32) → (Nat → Int32) → (Nat → Int32) → Int32 → Prop) (x1 : Int32) (x2 : Int32) (x3 : Int32) (m_found : (Nat → Int32)) (m_states : Int32) (m_places : (Nat → Int32)) (m_at : (Nat → Int32)) (m_parent : (Nat → Int32)) (m_stepBy : (Nat → Int32)) (m_stepValue : (Nat → Int32)) (m_stepDouble : (Nat → Int32)) (m_isOver : Int32) : Prop := wp_X8_goOn_62 m_arcs m_arcFrom m_arcTo m_arcWeight m_firsts m_firstTo m_firstValue m_settings m_tells m_keepsSteps post x1 x2 x3 0 m_found m_states m_places m_at m_parent m_stepBy m_stepValue m_stepDouble m_isOver
def bd_X8_goOn_3 (m_arcs : Int32) (m_arcFrom : (Nat → Int32)) (m_arcTo : (Nat → Int32)) (m_arcWeight : (Nat → Int32)) (m_firsts : Int32) (m_firstTo : (Nat → Int32)) (m_firstValue : (Nat → Int32)) (m_settings : (Nat → Int32)) (m_tells : (Nat → Int32)) (m_keepsSteps : Int32) (post : (Nat → Int32) → Int32 → (Nat → Int32) → (Nat → Int32) → (Nat → Int32) → (Nat → Int32) → (Nat → Int32) → (Nat → Int32) → Int32 → Prop) (K3 : Int32 → (Nat → Int32) → Int32 → (Nat → Int32) → (Nat → Int32) → (Nat → Int32) → (Nat → Int32) → (Nat → Int32) → (Nat → Int32) → Int32 → Prop) (x1 : Int32) (x2 : Int32) (x3 : Int32) (x4 : Int32) (m_found : (Nat → Int32)) (m_states : Int32) (m_places : (Nat → Int32)) (m_at : (Nat → Int32)) (m_parent : (Nat → Int32)) (m_stepBy : (Nat → Int32)) (m_stepValue : (Nat → Int32)) (m_stepDouble : (Nat → Int32)) (m_isOver : Int32) : Prop := (m_firsts ≤ x4 → (wp_X8_goOn_59 m_arcs m_arcFrom m_arcTo m_arcWeight m_firsts m_firstTo m_firstValue m_settings m_tells m_keepsSteps post x1 x2 x3 m_found m_states m_places m_at m_parent m_stepBy m_stepValue m_stepDouble m_isOver)) ∧ (¬ m_firsts ≤ x4 → ((¬ m_isOver = 0 → (wp_X8_goOn_59 m_arcs m_arcFrom m_arcTo m_arcWeight m_firsts m_firstTo m_firstValue m_settings m_tells m_keepsSteps post x1 x2 x3 m_found m_states m_places m_at m_parent m_stepBy m_stepValue m_stepDouble m_isOver)) ∧ (m_isOver = 0 → (vp_in ((148 * x1) + 10) 88800 ∧ ((¬ (((m_found ((148 * x1) + 10).toNatClampNeg) >>> (x4 &&& 31)) &&& 1) = 0 → (wp_X8_goOn_53 m_arcs m_arcFrom m_arcTo m_arcWeight m_firsts m_firstTo m_firstValue m_settings m_tells m_keepsSteps post K3 x1 x2 x3 x4 m_found m_states m_places m_at m_parent m_stepBy m_stepValue m_stepDouble m_isOver)) ∧ ((((m_found ((148 * x1) + 10).toNatClampNeg) >>> (x4 &&& 31)) &&& 1) = 0 → (wp_X8_stepBoth m_arcs m_arcFrom m_arcTo m_arcWeight m_firstTo m_firstValue m_settings m_tells m_found m_states m_places m_at m_parent m_stepBy m_stepValue m_stepDouble m_keepsSteps m_isOver x1 (100 + x4) 0 x2 x3 (fun (m_found_2 : (Nat → Int32)) (m_states_3 : Int32) (m_places_4 : (Nat → Int32)) (m_at_5 : (Nat → Int32)) (m_parent_6 : (Nat → Int32)) (m_stepBy_7 : (Nat → Int32)) (m_stepValue_8 : (Nat → Int32)) (m_stepDouble_9 : (Nat → Int32)) (m_isOver_10 : Int32) => wp_X8_goOn_53 m_arcs m_arcFrom m_arcTo m_arcWeight m_firsts m_firstTo m_firstValue m_settings m_tells m_keepsSteps post K3 x1 x2 x3 x4 m_found_2 m_states_3 m_places_4 m_at_5 m_parent_6 m_stepBy_7 m_stepValue_8 m_stepDouble_9 m_isOver_10))))))))
def wp_X8_goOn_3 (m_arcs : Int32) (m_arcFrom : (Nat → Int32)) (m_arcTo : (Nat → Int32)) (m_arcWeight : (Nat → Int32)) (m_firsts : Int32) (m_firstTo : (Nat → Int32)) (m_firstValue : (Nat → Int32)) (m_settings : (Nat → Int32)) (m_tells : (Nat → Int32)) (m_keepsSteps : Int32) (post : (Nat → Int32) → Int32 → (Nat → Int32) → (Nat → Int32) → (Nat → Int32) → (Nat → Int32) → (Nat → Int32) → (Nat → Int32) → Int32 → Prop) (x1 : Int32) (x2 : Int32) (x3 : Int32) (x4 : Int32) (m_found : (Nat → Int32)) (m_states : Int32) (m_places : (Nat → Int32)) (m_at : (Nat → Int32)) (m_parent : (Nat → Int32)) (m_stepBy : (Nat → Int32)) (m_stepValue : (Nat → Int32)) (m_stepDouble : (Nat → Int32)) (m_isOver : Int32) : Prop := ∃ (I : Nat → Int32 → (Nat → Int32) → Int32 → (Nat → Int32) → (Nat → Int32) → (Nat → Int32) → (Nat → Int32) → (Nat → Int32) → (Nat → Int32) → Int32 → Prop) (n : Nat), I n x4 m_found m_states m_places m_at m_parent m_stepBy m_stepValue m_stepDouble m_isOver ∧ ∀ (n : Nat) (x4 : Int32) (m_found : (Nat → Int32)) (m_states : Int32) (m_places : (Nat → Int32)) (m_at : (Nat → Int32)) (m_parent : (Nat → Int32)) (m_stepBy : (Nat → Int32)) (m_stepValue : (Nat → Int32)) (m_stepDouble : (Nat → Int32)) (m_isOver : Int32), I n x4 m_found m_states m_places m_at m_parent m_stepBy m_stepValue m_stepDouble m_isOver → bd_X8_goOn_3 m_arcs m_arcFrom m_arcTo m_arcWeight m_firsts m_firstTo m_firstValue m_settings m_tells m_keepsSteps post (fun (x4' : Int32) (m_found' : (Nat → Int32)) (m_states' : Int32) (m_places' : (Nat → Int32)) (m_at' : (Nat → Int32)) (m_parent' : (Nat → Int32)) (m_stepBy' : (Nat → Int32)) (m_stepValue' : (Nat → Int32)) (m_stepDouble' : (Nat → Int32)) (m_isOver' : Int32) => ∃ n', n' < n ∧ I n' x4' m_found' m_states' m_places' m_at' m_parent' m_stepBy' m_stepValue' m_stepDouble' m_isOver') x1 x2 x3 x4 m_found m_states m_places m_at m_parent m_stepBy m_stepValue m_stepDouble m_isOver
def wp_X8_goOn_0 (m_arcs : Int32) (m_arcFrom : (Nat → Int32)) (m_arcTo : (Nat → Int32)) (m_arcWeight : (Nat → Int32)) (m_firsts : Int32) (m_firstTo : (Nat → Int32)) (m_firstValue : (Nat → Int32)) (m_settings : (Nat → Int32)) (m_tells : (Nat → Int32)) (m_keepsSteps : Int32) (post : (Nat → Int32) → Int32 → (Nat → Int32) → (Nat → Int32) → (Nat → Int32) → (Nat → Int32) → (Nat → Int32) → (Nat → Int32) → Int32 → Prop) (x1 : Int32) (x2 : Int32) (x3 : Int32) (m_found : (Nat → Int32)) (m_states : Int32) (m_places : (Nat → Int32)) (m_at : (Nat → Int32)) (m_parent : (Nat → Int32)) (m_stepBy : (Nat → Int32)) (m_stepValue : (Nat → Int32)) (m_stepDouble : (Nat → Int32)) (m_isOver : Int32) : Prop := wp_X8_goOn_3 m_arcs m_arcFrom m_arcTo m_arcWeight m_firsts m_firstTo m_firstValue m_settings m_tells m_keepsSteps post x1 x2 x3 0 m_found m_states m_places m_at m_parent m_stepBy m_stepValue m_stepDouble m_isOver
abbrev wp_X8_goOn (m_arcs : Int32) (m_arcFrom : (Nat → Int32)) (m_arcTo : (Nat → Int32)) (m_arcWeight : (Nat → Int32)) (m_firsts : Int32) (m_firstTo : (Nat → Int32)) (m_firstValue : (Nat → Int32)) (m_settings : (Nat → Int32)) (m_tells : (Nat → Int32)) (m_found : (Nat → Int32)) (m_states : Int32) (m_places : (Nat → Int32)) (m_at : (Nat → Int32)) (m_parent : (Nat → Int32)) (m_stepBy : (Nat → Int32)) (m_stepValue : (Nat → Int32)) (m_stepDouble : (Nat → Int32)) (m_keepsSteps : Int32) (m_isOver : Int32) (x1 : Int32) (x2 : Int32) (x3 : Int32) (post : (Nat → Int32) → Int32 → (Nat → Int32) → (Nat → Int32) → (Nat → Int32) → (Nat → Int32) → (Nat → Int32) → (Nat → Int32) → Int32 → Prop) : Prop := wp_X8_goOn_0 m_arcs m_arcFrom m_arcTo m_arcWeight m_firsts m_firstTo m_firstValue m_settings m_tells m_keepsSteps post x1 x2 x3 m_found m_states m_places m_at m_parent m_stepBy m_stepValue m_stepDouble m_isOver
def wp_X8_openIn_38 (m_arcs : Int32) (m_firsts : Int32) (m_found : (Nat → Int32)) (post : Int32 → Prop) (K4 : Int32 → Int32 → Prop) (x1 : Int32) (x3 : Int32) (t0 : Int32) (t1 : Int32) : Prop := K4 (t1 + t0) (x3 + 1)
def bd_X8_openIn_48 (m_arcs : Int32) (m_firsts : Int32) (m_found : (Nat → Int32)) (post : Int32 → Prop) (K48 : Int32 → Int32 → Prop) (x1 : Int32) (x2 : Int32) (x3 : Int32) : Prop := (m_arcs ≤ x3 → (post x2)) ∧ (¬ m_arcs ≤ x3 → (wp_X8_rowOf x3 (fun (r2 : Int32) => vp_in ((148 * x1) + r2) 88800 ∧ (∀ y4 : Int32, y4 = (x2 + (m_found ((148 * x1) + r2).toNatClampNeg)) → (K48 y4 (x3 + 1))))))
def wp_X8_openIn_48 (m_arcs : Int32) (m_firsts : Int32) (m_found : (Nat → Int32)) (post : Int32 → Prop) (x1 : Int32) (x2 : Int32) (x3 : Int32) : Prop := ∃ (I : Nat → Int32 → Int32 → Prop) (n : Nat), I n x2 x3 ∧ ∀ (n : Nat) (x2 : Int32) (x3 : Int32), I n x2 x3 → bd_X8_openIn_48 m_arcs m_firsts m_found post (fun (x2' : Int32) (x3' : Int32) => ∃ n', n' < n ∧ I n' x2' x3') x1 x2 x3
def bd_X8_openIn_4 (m_arcs : Int32) (m_firsts : Int32) (m_found : (Nat → Int32)) (post : Int32 → Prop) (K4 : Int32 → Int32 → Prop) (x1 : Int32) (x2 : Int32) (x3 : Int32) : Prop := (m_firsts ≤ x3 → (wp_X8_openIn_48 m_arcs m_firsts m_found post x1 x2 0)) ∧ (¬ m_firsts ≤ x3 → (vp_in ((148 * x1) + 10) 88800 ∧ ((¬ (((m_found ((148 * x1) + 10).toNatClampNeg) >>> (x3 &&& 31)) &&& 1) = 0 → (wp_X8_openIn_38 m_arcs m_firsts m_found post K4 x1 x3 0 x2)) ∧ ((((m_found ((148 * x1) + 10).toNatClampNeg) >>> (x3 &&& 31)) &&& 1) = 0 → (wp_X8_openIn_38 m_arcs m_firsts m_found post K4 x1 x3 1 x2)))))
def wp_X8_openIn_4 (m_arcs : Int32) (m_firsts : Int32) (m_found : (Nat → Int32)) (post : Int32 → Prop) (x1 : Int32) (x2 : Int32) (x3 : Int32) : Prop := ∃ (I : Nat → Int32 → Int32 → Prop) (n : Nat), I n x2 x3 ∧ ∀ (n : Nat) (x2 : Int32) (x3 : Int32), I n x2 x3 → bd_X8_openIn_4 m_arcs m_firsts m_found post (fun (x2' : Int32) (x3' : Int32) => ∃ n', n' < n ∧ I n' x2' x3') x1 x2 x3
def wp_X8_openIn_0 (m_arcs : Int32) (m_firsts : Int32) (m_found : (Nat → Int32)) (post : Int32 → Prop) (x1 : Int32) : Prop := wp_X8_openIn_4 m_arcs m_firsts m_found post x1 0 0
abbrev wp_X8_openIn (m_arcs : Int32) (m_firsts : Int32) (m_found : (Nat → Int32)) (x1 : Int32) (post : Int32 → Prop) : Prop := wp_X8_openIn_0 m_arcs m_firsts m_found post x1
def wp_X8_search_65 (m_vertices : Int32) (m_begins : (Nat → Int32)) (m_arcs : Int32) (m_arcFrom : (Nat → Int32)) (m_arcTo : (Nat → Int32)) (m_arcWeight : (Nat → Int32)) (m_firsts : Int32) (m_firstTo : (Nat → Int32)) (m_firstValue : (Nat → Int32)) (m_settings : (Nat → Int32)) (m_tells : (Nat → Int32)) (m_keepsSteps : Int32) (post : Int32 → (Nat → Int32) → Int32 → (Nat → Int32) → (Nat → Int32) → (Nat → Int32) → (Nat → Int32) → (Nat → Int32) → (Nat → Int32) → Int32 → Prop) (K34 : Int32 → (Nat → Int32) → Prop) (x1 : Int32) (x2 : Int32) (x3 : Int32) (t0 : Int32) (t1 : Int32) (m_found : (Nat → Int32)) (m_states : Int32) (m_places : (Nat → Int32)) (m_at : (Nat → Int32)) (m_parent : (Nat → Int32)) (m_stepBy : (Nat → Int32)) (m_stepValue : (Nat → Int32)) (m_stepDouble : (Nat → Int32)) (m_isOver : Int32) : Prop := vp_in t1 148 ∧ (K34 (x3 + 1) (upd m_at t1.toNatClampNeg (vp_nar .byte t0)))
def wp_X8_search_129 (m_vertices : Int32) (m_begins : (Nat → Int32)) (m_arcs : Int32) (m_arcFrom : (Nat → Int32)) (m_arcTo : (Nat → Int32)) (m_arcWeight : (Nat → Int32)) (m_firsts : Int32) (m_firstTo : (Nat → Int32)) (m_firstValue : (Nat → Int32)) (m_settings : (Nat → Int32)) (m_tells : (Nat → Int32)) (m_keepsSteps : Int32) (post : Int32 → (Nat → Int32) → Int32 → (Nat → Int32) → (Nat → Int32) → (Nat → Int32) → (Nat → Int32) → (Nat → Int32) → (Nat → Int32) → Int32 → Prop) (m_found : (Nat → Int32)) (m_states : Int32) (m_places : (Nat → Int32)) (m_at : (Nat → Int32)) (m_parent : (Nat → Int32)) (m_stepBy : (Nat → Int32)) (m_stepValue : (Nat → Int32)) (m_stepDouble : (Nat → Int32)) (m_isOver : Int32) : Prop := (¬ m_isOver = 0 → (post 0 m_found m_states m_places m_at m_parent m_stepBy m_stepValue m_stepDouble m_isOver)) ∧ (m_isOver = 0 → (post 1 m_found m_states m_places m_at m_parent m_stepBy m_stepValue m_stepDouble m_isOver))
def bd_X8_search_95 (m_vertices : Int32) (m_begins : (Nat → Int32)) (m_arcs : Int32) (m_arcFrom : (Nat → Int32)) (m_arcTo : (Nat → Int32)) (m_arcWeight : (Nat → Int32)) (m_firsts : Int32) (m_firstTo : (Nat → Int32)) (m_firstValue : (Nat → Int32)) (m_settings : (Nat → Int32)) (m_tells : (Nat → Int32)) (m_keepsSteps : Int32) (post : Int32 → (Nat → Int32) → Int32 → (Nat → Int32) → (Nat → Int32) → (Nat → Int32) → (Nat → Int32) → (Nat → Int32) → (Nat → Int32) → Int32 → Prop) (K95 : Int32 → (Nat → Int32) → Int32 → (Nat → Int32) → (Nat → Int32) → (Nat → Int32) → (Nat → Int32) → (Nat → Int32) → (Nat → Int32) → Int32 → Prop) (x1 : Int32) (x2 : Int32) (x3 : Int32) (x4 : Int32) (m_found : (Nat → Int32)) (m_states : Int32) (m_places : (Nat → Int32)) (m_at : (Nat → Int32)) (m_parent : (Nat → Int32)) (m_stepBy : (Nat → Int32)) (m_stepValue : (Nat → Int32)) (m_stepDouble : (Nat → Int32)) (m_isOver : Int32) : Prop := (m_states ≤ x4 → (wp_X8_search_129 m_vertices m_begins m_arcs m_arcFrom m_arcTo m_arcWeight m_firsts m_firstTo m_firstValue m_settings m_tells m_keepsSteps post m_found m_states m_places m_at m_parent m_stepBy m_stepValue m_stepDouble m_isOver)) ∧ (¬ m_states ≤ x4 → ((¬ m_isOver = 0 → (wp_X8_search_129 m_vertices m_begins m_arcs m_arcFrom m_arcTo m_arcWeight m_firsts m_firstTo m_firstValue m_settings m_tells m_keepsSteps post m_found m_states m_places m_at m_parent m_stepBy m_stepValue m_stepDouble m_isOver)) ∧ (m_isOver = 0 → ((x3 ≤ 0 → (wp_X8_search_129 m_vertices m_begins m_arcs m_arcFrom m_arcTo m_arcWeight m_firsts m_firstTo m_firstValue m_settings m_tells m_keepsSteps post m_found m_states m_places m_at m_parent m_stepBy m_stepValue m_stepDouble m_isOver)) ∧ (¬ x3 ≤ 0 → (wp_X8_goOn m_arcs m_arcFrom m_arcTo m_arcWeight m_firsts m_firstTo m_firstValue m_settings m_tells m_found m_states m_places m_at m_parent m_stepBy m_stepValue m_stepDouble m_keepsSteps m_isOver x4 x1 x2 (fun (m_found_9 : (Nat → Int32)) (m_states_10 : Int32) (m_places_11 : (Nat → Int32)) (m_at_12 : (Nat → Int32)) (m_parent_13 : (Nat → Int32)) (m_stepBy_14 : (Nat → Int32)) (m_stepValue_15 : (Nat → Int32)) (m_stepDouble_16 : (Nat → Int32)) (m_isOver_17 : Int32) => K95 (x4 + 1) m_found_9 m_states_10 m_places_11 m_at_12 m_parent_13 m_stepBy_14 m_stepValue_15 m_stepDouble_16 m_isOver_17)))))))
def wp_X8_search_95 (m_vertices : Int32) (m_begins : (Nat → Int32)) (m_arcs : Int32) (m_arcFrom : (Nat → Int32)) (m_arcTo : (Nat → Int32)) (m_arcWeight : (Nat → Int32)) (m_firsts : Int32) (m_firstTo : (Nat → Int32)) (m_firstValue : (Nat → Int32)) (m_settings : (Nat → Int32)) (m_tells : (Nat → Int32)) (m_keepsSteps : Int32) (post : Int32 → (Nat → Int32) → Int32 → (Nat → Int32) → (Nat → Int32) → (Nat → Int32) → (Nat → Int32) → (Nat → Int32) → (Nat → Int32) → Int32 → Prop) (x1 : Int32) (x2 : Int32) (x3 : Int32) (x4 : Int32) (m_found : (Nat → Int32)) (m_states : Int32) (m_places : (Nat → Int32)) (m_at : (Nat → Int32)) (m_parent : (Nat → Int32)) (m_stepBy : (Nat → Int32)) (m_stepValue : (Nat → Int32)) (m_stepDouble : (Nat → Int32)) (m_isOver : Int32) : Prop := ∃ (I : Nat → Int32 → (Nat → Int32) → Int32 → (Nat → Int32) → (Nat → Int32) → (Nat → Int32) → (Nat → Int32) → (Nat → Int32) → (Nat → Int32) → Int32 → Prop) (n : Nat), I n x4 m_found m_states m_places m_at m_parent m_stepBy m_stepValue m_stepDouble m_isOver ∧ ∀ (n : Nat) (x4 : Int32) (m_found : (Nat → Int32)) (m_states : Int32) (m_places : (Nat → Int32)) (m_at : (Nat → Int32)) (m_parent : (Nat → Int32)) (m_stepBy : (Nat → Int32)) (m_stepValue : (Nat → Int32)) (m_stepDouble : (Nat → Int32)) (m_isOver : Int32), I n x4 m_found m_states m_places m_at m_parent m_stepBy m_stepValue m_stepDouble m_isOver → bd_X8_search_95 m_vertices m_begins m_arcs m_arcFrom m_arcTo m_arcWeight m_firsts m_firstTo m_firstValue m_settings m_tells m_keepsSteps post (fun (x4' : Int32) (m_found' : (Nat → Int32)) (m_states' : Int32) (m_places' : (Nat → Int32)) (m_at' : (Nat → Int32)) (m_parent' : (Nat → Int32)) (m_stepBy' : (Nat → Int32)) (m_stepValue' : (Nat → Int32)) (m_stepDouble' : (Nat → Int32)) (m_isOver' : Int32) => ∃ n', n' < n ∧ I n' x4' m_found' m_states' m_places' m_at' m_parent' m_stepBy' m_stepValue' m_stepDouble' m_isOver') x1 x2 x3 x4 m_found m_states m_places m_at m_parent m_stepBy m_stepValue m_stepDouble m_isOver
def bd_X8_search_34 (m_vertices : Int32) (m_begins : (Nat → Int32)) (m_arcs : Int32) (m_arcFrom : (Nat → Int32)) (m_arcTo : (Nat → Int32)) (m_arcWeight : (Nat → Int32)) (m_firsts : Int32) (m_firstTo : (Nat → Int32)) (m_firstValue : (Nat → Int32)) (m_settings : (Nat → Int32)) (m_tells : (Nat → Int32)) (m_keepsSteps : Int32) (post : Int32 → (Nat → Int32) → Int32 → (Nat → Int32) → (Nat → Int32) → (Nat → Int32) → (Nat → Int32) → (Nat → Int32) → (Nat → Int32) → Int32 → Prop) (K34 : Int32 → (Nat → Int32) → Prop) (x1 : Int32) (x2 : Int32) (x3 : Int32) (m_found : (Nat → Int32)) (m_states : Int32) (m_places : (Nat → Int32)) (m_at : (Nat → Int32)) (m_parent : (Nat → Int32)) (m_stepBy : (Nat → Int32)) (m_stepValue : (Nat → Int32)) (m_stepDouble : (Nat → Int32)) (m_isOver : Int32) : Prop := (148 ≤ x3 → (vp_in 5 6 ∧ (vp_in 11 148 ∧ (wp_X8_find m_found m_states m_places (upd m_at (11 : Int32).toNatClampNeg (vp_nar .byte ((m_settings (5 : Int32).toNatClampNeg).toInt8.toInt32))) x1 (fun (r4 : Int32) (m_found_5 : (Nat → Int32)) (m_states_6 : Int32) (m_places_7 : (Nat → Int32)) => wp_X8_search_95 m_vertices m_begins m_arcs m_arcFrom m_arcTo m_arcWeight m_firsts m_firstTo m_firstValue m_settings m_tells m_keepsSteps post x1 x2 r4 0 m_found_5 m_states_6 m_places_7 (upd m_at (11 : Int32).toNatClampNeg (vp_nar .byte ((m_settings (5 : Int32).toNatClampNeg).toInt8.toInt32))) m_parent m_stepBy m_stepValue m_stepDouble m_isOver))))) ∧ (¬ 148 ≤ x3 → ((m_vertices ≤ x3 → (wp_X8_search_65 m_vertices m_begins m_arcs m_arcFrom m_arcTo m_arcWeight m_firsts m_firstTo m_firstValue m_settings m_tells m_keepsSteps post K34 x1 x2 x3 0 x3 m_found m_states m_places m_at m_parent m_stepBy m_stepValue m_stepDouble m_isOver)) ∧ (¬ m_vertices ≤ x3 → (vp_in x3 5 ∧ (wp_X8_search_65 m_vertices m_begins m_arcs m_arcFrom m_arcTo m_arcWeight m_firsts m_firstTo m_firstValue m_settings m_tells m_keepsSteps post K34 x1 x2 x3 ((m_begins x3.toNatClampNeg).toInt8.toInt32) x3 m_found m_states m_places m_at m_parent m_stepBy m_stepValue m_stepDouble m_isOver)))))
def wp_X8_search_34 (m_vertices : Int32) (m_begins : (Nat → Int32)) (m_arcs : Int32) (m_arcFrom : (Nat → Int32)) (m_arcTo : (Nat → Int32)) (m_arcWeight : (Nat → Int32)) (m_firsts : Int32) (m_firstTo : (Nat → Int32)) (m_firstValue : (Nat → Int32)) (m_settings : (Nat → Int32)) (m_tells : (Nat → Int32)) (m_keepsSteps : Int32) (post : Int32 → (Nat → Int32) → Int32 → (Nat → Int32) → (Nat → Int32) → (Nat → Int32) → (Nat → Int32) → (Nat → Int32) → (Nat → Int32) → Int32 → Prop) (x1 : Int32) (x2 : Int32) (x3 : Int32) (m_found : (Nat → Int32)) (m_states : Int32) (m_places : (Nat → Int32)) (m_at : (Nat → Int32)) (m_parent : (Nat → Int32)) (m_stepBy : (Nat → Int32)) (m_stepValue : (Nat → Int32)) (m_stepDouble : (Nat → Int32)) (m_isOver : Int32) : Prop := ∃ (I : Nat → Int32 → (Nat → Int32) → Prop) (n : Nat), I n x3 m_at ∧ ∀ (n : Nat) (x3 : Int32) (m_at : (Nat → Int32)), I n x3 m_at → bd_X8_search_34 m_vertices m_begins m_arcs m_arcFrom m_arcTo m_arcWeight m_firsts m_firstTo m_firstValue m_settings m_tells m_keepsSteps post (fun (x3' : Int32) (m_at' : (Nat → Int32)) => ∃ n', n' < n ∧ I n' x3' m_at') x1 x2 x3 m_found m_states m_places m_at m_parent m_stepBy m_stepValue m_stepDouble m_isOver
def bd_X8_search_12 (m_vertices : Int32) (m_begins : (Nat → Int32)) (m_arcs : Int32) (m_arcFrom : (Nat → Int32)) (m_arcTo : (Nat → Int32)) (m_arcWeight : (Nat → Int32)) (m_firsts : Int32) (m_firstTo : (Nat → Int32)) (m_firstValue : (Nat → Int32)) (m_settings : (Nat → Int32)) (m_tells : (Nat → Int32)) (m_keepsSteps : Int32) (post : Int32 → (Nat → Int32) → Int32 → (Nat → Int32) → (Nat → Int32) → (Nat → Int32) → (Nat → Int32) → (Nat → Int32) → (Nat → Int32) → Int32 → Prop) (K12 : Int32 → (Nat → Int32) → Prop) (x1 : Int32) (x2 : Int32) (x3 : Int32) (m_found : (Nat → Int32)) (m_states : Int32) (m_places : (Nat → Int32)) (m_at : (Nat → Int32)) (m_parent : (Nat → Int32)) (m_stepBy : (Nat → Int32)) (m_stepValue : (Nat → Int32)) (m_stepDouble : (Nat → Int32)) (m_isOver : Int32) : Prop := (2048 ≤ x3 → (wp_X8_search_34 m_vertices m_begins m_arcs m_arcFrom m_arcTo m_arcWeight m_firsts m_firstTo m_firstValue m_settings m_tells m_keepsSteps post x1 x2 0 m_found m_states m_places m_at m_parent m_stepBy m_stepValue m_stepDouble m_isOver)) ∧ (¬ 2048 ≤ x3 → (vp_in x3 2048 ∧ (K12 (x3 + 1) (upd m_places x3.toNatClampNeg 0))))
def wp_X8_search_12 (m_vertices : Int32) (m_begins : (Nat → Int32)) (m_arcs : Int32) (m_arcFrom : (Nat → Int32)) (m_arcTo : (Nat → Int32)) (m_arcWeight : (Nat → Int32)) (m_firsts : Int32) (m_firstTo : (Nat → Int32)) (m_firstValue : (Nat → Int32)) (m_settings : (Nat → Int32)) (m_tells : (Nat → Int32)) (m_keepsSteps : Int32) (post : Int32 → (Nat → Int32) → Int32 → (Nat → Int32) → (Nat → Int32) → (Nat → Int32) → (Nat → Int32) → (Nat → Int32) → (Nat → Int32) → Int32 → Prop) (x1 : Int32) (x2 : Int32) (x3 : Int32) (m_found : (Nat → Int32)) (m_states : Int32) (m_places : (Nat → Int32)) (m_at : (Nat → Int32)) (m_parent : (Nat → Int32)) (m_stepBy : (Nat → Int32)) (m_stepValue : (Nat → Int32)) (m_stepDouble : (Nat → Int32)) (m_isOver : Int32) : Prop := ∃ (I : Nat → Int32 → (Nat → Int32) → Prop) (n : Nat), I n x3 m_places ∧ ∀ (n : Nat) (x3 : Int32) (m_places : (Nat → Int32)), I n x3 m_places → bd_X8_search_12 m_vertices m_begins m_arcs m_arcFrom m_arcTo m_arcWeight m_firsts m_firstTo m_firstValue m_settings m_tells m_keepsSteps post (fun (x3' : Int32) (m_places' : (Nat → Int32)) => ∃ n', n' < n ∧ I n' x3' m_places') x1 x2 x3 m_found m_states m_places m_at m_parent m_stepBy m_stepValue m_stepDouble m_isOver
def wp_X8_search_0 (m_vertices : Int32) (m_begins : (Nat → Int32)) (m_arcs : Int32) (m_arcFrom : (Nat → Int32)) (m_arcTo : (Nat → Int32)) (m_arcWeight : (Nat → Int32)) (m_firsts : Int32) (m_firstTo : (Nat → Int32)) (m_firstValue : (Nat → Int32)) (m_settings : (Nat → Int32)) (m_tells : (Nat → Int32)) (m_keepsSteps : Int32) (post : Int32 → (Nat → Int32) → Int32 → (Nat → Int32) → (Nat → Int32) → (Nat → Int32) → (Nat → Int32) → (Nat → Int32) → (Nat → Int32) → Int32 → Prop) (x1 : Int32) (x2 : Int32) (m_found : (Nat → Int32)) (m_states : Int32) (m_places : (Nat → Int32)) (m_at : (Nat → Int32)) (m_parent : (Nat → Int32)) (m_stepBy : (Nat → Int32)) (m_stepValue : (Nat → Int32)) (m_stepDouble : (Nat → Int32)) (m_isOver : Int32) : Prop := wp_X8_search_12 m_vertices m_begins m_arcs m_arcFrom m_arcTo m_arcWeight m_firsts m_firstTo m_firstValue m_settings m_tells m_keepsSteps post x1 x2 0 m_found (0 : Int32) m_places m_at m_parent m_stepBy m_stepValue m_stepDouble (0 : Int32)
abbrev wp_X8_search (m_vertices : Int32) (m_begins : (Nat → Int32)) (m_arcs : Int32) (m_arcFrom : (Nat → Int32)) (m_arcTo : (Nat → Int32)) (m_arcWeight : (Nat → Int32)) (m_firsts : Int32) (m_firstTo : (Nat → Int32)) (m_firstValue : (Nat → Int32)) (m_settings : (Nat → Int32)) (m_tells : (Nat → Int32)) (m_found : (Nat → Int32)) (m_states : Int32) (m_places : (Nat → Int32)) (m_at : (Nat → Int32)) (m_parent : (Nat → Int32)) (m_stepBy : (Nat → Int32)) (m_stepValue : (Nat → Int32)) (m_stepDouble : (Nat → Int32)) (m_keepsSteps : Int32) (m_isOver : Int32) (x1 : Int32) (x2 : Int32) (post : Int32 → (Nat → Int32) → Int32 → (Nat → Int32) → (Nat → Int32) → (Nat → Int32) → (Nat → Int32) → (Nat → Int32) → (Nat → Int32) → Int32 → Prop) : Prop := wp_X8_search_0 m_vertices m_begins m_arcs m_arcFrom m_arcTo m_arcWeight m_firsts m_firstTo m_firstValue m_settings m_tells m_keepsSteps post x1 x2 m_found m_states m_places m_at m_parent m_stepBy m_stepValue m_stepDouble m_isOver
def wp_X8_isLike_49 (m_found : (Nat → Int32)) (post : Int32 → Prop) (K5 : Int32 → Int32 → Prop) (x1 : Int32) (x2 : Int32) (x4 : Int32) (t0 : Int32) : Prop := K5 t0 (x4 + 1)
def wp_X8_isLike_48 (m_found : (Nat → Int32)) (post : Int32 → Prop) (K5 : Int32 → Int32 → Prop) (x1 : Int32) (x2 : Int32) (x4 : Int32) : Prop := wp_X8_isLike_49 m_found post K5 x1 x2 x4 0
def bd_X8_isLike_5 (m_found : (Nat → Int32)) (post : Int32 → Prop) (K5 : Int32 → Int32 → Prop) (x1 : Int32) (x2 : Int32) (x3 : Int32) (x4 : Int32) : Prop := (5 ≤ x4 → (narrow .boolean (.int x3) = .int x3 ∧ post x3)) ∧ (¬ 5 ≤ x4 → ((x3 = 0 → (wp_X8_isLike_48 m_found post K5 x1 x2 x4)) ∧ (¬ x3 = 0 → (vp_in ((148 * x1) + x4) 88800 ∧ (vp_in ((148 * x2) + x4) 88800 ∧ ((¬ (m_found ((148 * x1) + x4).toNatClampNeg) = (m_found ((148 * x2) + x4).toNatClampNeg) → (wp_X8_isLike_48 m_found post K5 x1 x2 x4)) ∧ ((m_found ((148 * x1) + x4).toNatClampNeg) = (m_found ((148 * x2) + x4).toNatClampNeg) → (wp_X8_isLike_49 m_found post K5 x1 x2 x4 1))))))))
def wp_X8_isLike_5 (m_found : (Nat → Int32)) (post : Int32 → Prop) (x1 : Int32) (x2 : Int32) (x3 : Int32) (x4 : Int32) : Prop := ∃ (I : Nat → Int32 → Int32 → Prop) (n : Nat), I n x3 x4 ∧ ∀ (n : Nat) (x3 : Int32) (x4 : Int32), I n x3 x4 → bd_X8_isLike_5 m_found post (fun (x3' : Int32) (x4' : Int32) => ∃ n', n' < n ∧ I n' x3' x4') x1 x2 x3 x4
def wp_X8_isLike_0 (m_found : (Nat → Int32)) (post : Int32 → Prop) (x1 : Int32) (x2 : Int32) : Prop := wp_X8_isLike_5 m_found post x1 x2 1 0
abbrev wp_X8_isLike (m_found : (Nat → Int32)) (x1 : Int32) (x2 : Int32) (post : Int32 → Prop) : Prop := wp_X8_isLike_0 m_found post x1 x2
def wp_X8_isFirstOf_36 (m_arcs : Int32) (m_firsts : Int32) (m_found : (Nat → Int32)) (post : Int32 → Prop) (K12 : Int32 → Prop) (x1 : Int32) (x2 : Int32) : Prop := K12 (x2 + 1)
def bd_X8_isFirstOf_12 (m_arcs : Int32) (m_firsts : Int32) (m_found : (Nat → Int32)) (post : Int32 → Prop) (K12 : Int32 → Prop) (x1 : Int32) (x2 : Int32) : Prop := (x1 ≤ x2 → (post 1)) ∧ (¬ x1 ≤ x2 → (wp_X8_openIn m_arcs m_firsts m_found x2 (fun (r2 : Int32) => (¬ r2 = 0 → (wp_X8_isFirstOf_36 m_arcs m_firsts m_found post K12 x1 x2)) ∧ (r2 = 0 → (wp_X8_isLike m_found x2 x1 (fun (r3 : Int32) => (r3 = 0 → (wp_X8_isFirstOf_36 m_arcs m_firsts m_found post K12 x1 x2)) ∧ (¬ r3 = 0 → (post 0))))))))
def wp_X8_isFirstOf_12 (m_arcs : Int32) (m_firsts : Int32) (m_found : (Nat → Int32)) (post : Int32 → Prop) (x1 : Int32) (x2 : Int32) : Prop := ∃ (I : Nat → Int32 → Prop) (n : Nat), I n x2 ∧ ∀ (n : Nat) (x2 : Int32), I n x2 → bd_X8_isFirstOf_12 m_arcs m_firsts m_found post (fun (x2' : Int32) => ∃ n', n' < n ∧ I n' x2') x1 x2
def wp_X8_isFirstOf_0 (m_arcs : Int32) (m_firsts : Int32) (m_found : (Nat → Int32)) (post : Int32 → Prop) (x1 : Int32) : Prop := wp_X8_openIn m_arcs m_firsts m_found x1 (fun (r1 : Int32) => (r1 ≤ 0 → (wp_X8_isFirstOf_12 m_arcs m_firsts m_found post x1 0)) ∧ (¬ r1 ≤ 0 → (post 0)))
abbrev wp_X8_isFirstOf (m_arcs : Int32) (m_firsts : Int32) (m_found : (Nat → Int32)) (x1 : Int32) (post : Int32 → Prop) : Prop := wp_X8_isFirstOf_0 m_arcs m_firsts m_found post x1
def wp_X8_countEnds_26 (m_arcs : Int32) (m_firsts : Int32) (m_found : (Nat → Int32)) (m_states : Int32) (post : Int32 → Prop) (K4 : Int32 → Int32 → Prop) (x2 : Int32) (t0 : Int32) (t1 : Int32) : Prop := K4 (t1 + t0) (x2 + 1)
def bd_X8_countEnds_4 (m_arcs : Int32) (m_firsts : Int32) (m_found : (Nat → Int32)) (m_states : Int32) (post : Int32 → Prop) (K4 : Int32 → Int32 → Prop) (x1 : Int32) (x2 : Int32) : Prop := (m_states ≤ x2 → (post x1)) ∧ (¬ m_states ≤ x2 → (wp_X8_isFirstOf m_arcs m_firsts m_found x2 (fun (r1 : Int32) => (r1 = 0 → (wp_X8_countEnds_26 m_arcs m_firsts m_found m_states post K4 x2 0 x1)) ∧ (¬ r1 = 0 → (wp_X8_countEnds_26 m_arcs m_firsts m_found m_states post K4 x2 1 x1)))))
def wp_X8_countEnds_4 (m_arcs : Int32) (m_firsts : Int32) (m_found : (Nat → Int32)) (m_states : Int32) (post : Int32 → Prop) (x1 : Int32) (x2 : Int32) : Prop := ∃ (I : Nat → Int32 → Int32 → Prop) (n : Nat), I n x1 x2 ∧ ∀ (n : Nat) (x1 : Int32) (x2 : Int32), I n x1 x2 → bd_X8_countEnds_4 m_arcs m_firsts m_found m_states post (fun (x1' : Int32) (x2' : Int32) => ∃ n', n' < n ∧ I n' x1' x2') x1 x2
def wp_X8_countEnds_0 (m_arcs : Int32) (m_firsts : Int32) (m_found : (Nat → Int32)) (m_states : Int32) (post : Int32 → Prop) : Prop := wp_X8_countEnds_4 m_arcs m_firsts m_found m_states post 0 0
abbrev wp_X8_countEnds (m_arcs : Int32) (m_firsts : Int32) (m_found : (Nat → Int32)) (m_states : Int32) (post : Int32 → Prop) : Prop := wp_X8_countEnds_0 m_arcs m_firsts m_found m_states post
def wp_X8_look_188 (m_vertices : Int32) (m_begins : (Nat → Int32)) (m_arcs : Int32) (m_arcFrom : (Nat → Int32)) (m_arcTo : (Nat → Int32)) (m_arcWeight : (Nat → Int32)) (m_firsts : Int32) (m_firstTo : (Nat → Int32)) (m_firstValue : (Nat → Int32)) (m_settings : (Nat → Int32)) (m_tells : (Nat → Int32)) (post : Int32 → (Nat → Int32) → Int32 → (Nat → Int32) → (Nat → Int32) → Int32 → Int32 → Int32 → Int32 → Int32 → Int32 → (Nat → Int32) → (Nat → Int32) → (Nat → Int32) → (Nat → Int32) → (Nat → Int32) → (Nat → Int32) → Int32 → Int32 → Prop) (K66 : Int32 → Int32 → Int32 → Int32 → (Nat → Int32) → (Nat → Int32) → Prop) (x2 : Int32) (m_found : (Nat → Int32)) (m_states : Int32) (m_places : (Nat → Int32)) (m_at : (Nat → Int32)) (m_hasLook : Int32) (m_wasWhole : Int32) (m_lookedVertices : Int32) (m_deadMany : Int32) (m_greatest : Int32) (m_ends : Int32) (m_endState : (Nat → Int32)) (m_endValues : (Nat → Int32)) (m_parent : (Nat → Int32)) (m_stepBy : (Nat → Int32)) (m_stepValue : (Nat → Int32)) (m_stepDouble : (Nat → Int32)) (m_keepsSteps : Int32) (m_isOver : Int32) : Prop := K66 (x2 + 1) m_deadMany m_greatest m_ends m_endState m_endValues
def bd_X8_look_139 (m_vertices : Int32) (m_begins : (Nat → Int32)) (m_arcs : Int32) (m_arcFrom : (Nat → Int32)) (m_arcTo : (Nat → Int32)) (m_arcWeight : (Nat → Int32)) (m_firsts : Int32) (m_firstTo : (Nat → Int32)) (m_firstValue : (Nat → Int32)) (m_settings : (Nat → Int32)) (m_tells : (Nat → Int32)) (post : Int32 → (Nat → Int32) → Int32 → (Nat → Int32) → (Nat → Int32) → Int32 → Int32 → Int32 → Int32 → Int32 → Int32 → (Nat → Int32) → (Nat → Int32) → (Nat → Int32) → (Nat → Int32) → (Nat → Int32) → (Nat → Int32) → Int32 → Int32 → Prop) (K66 : Int32 → Int32 → Int32 → Int32 → (Nat → Int32) → (Nat → Int32) → Prop) (K139 : Int32 → (Nat → Int32) → Prop) (x2 : Int32) (x4 : Int32) (m_found : (Nat → Int32)) (m_states : Int32) (m_places : (Nat → Int32)) (m_at : (Nat → Int32)) (m_hasLook : Int32) (m_wasWhole : Int32) (m_lookedVertices : Int32) (m_deadMany : Int32) (m_greatest : Int32) (m_ends : Int32) (m_endState : (Nat → Int32)) (m_endValues : (Nat → Int32)) (m_parent : (Nat → Int32)) (m_stepBy : (Nat → Int32)) (m_stepValue : (Nat → Int32)) (m_stepDouble : (Nat → Int32)) (m_keepsSteps : Int32) (m_isOver : Int32) : Prop := (5 ≤ x4 → (wp_X8_look_188 m_vertices m_begins m_arcs m_arcFrom m_arcTo m_arcWeight m_firsts m_firstTo m_firstValue m_settings m_tells post K66 x2 m_found m_states m_places m_at m_hasLook m_wasWhole m_lookedVertices m_deadMany m_greatest (m_ends + 1) m_endState m_endValues m_parent m_stepBy m_stepValue m_stepDouble m_keepsSteps m_isOver)) ∧ (¬ 5 ≤ x4 → (vp_in ((148 * x2) + x4) 88800 ∧ (vp_in ((5 * m_ends) + x4) 3000 ∧ (K139 (x4 + 1) (upd m_endValues ((5 * m_ends) + x4).toNatClampNeg (vp_nar .byte (m_found ((148 * x2) + x4).toNatClampNeg)))))))
def wp_X8_look_139 (m_vertices : Int32) (m_begins : (Nat → Int32)) (m_arcs : Int32) (m_arcFrom : (Nat → Int32)) (m_arcTo : (Nat → Int32)) (m_arcWeight : (Nat → Int32)) (m_firsts : Int32) (m_firstTo : (Nat → Int32)) (m_firstValue : (Nat → Int32)) (m_settings : (Nat → Int32)) (m_tells : (Nat → Int32)) (post : Int32 → (Nat → Int32) → Int32 → (Nat → Int32) → (Nat → Int32) → Int32 → Int32 → Int32 → Int32 → Int32 → Int32 → (Nat → Int32) → (Nat → Int32) → (Nat → Int32) → (Nat → Int32) → (Nat → Int32) → (Nat → Int32) → Int32 → Int32 → Prop) (K66 : Int32 → Int32 → Int32 → Int32 → (Nat → Int32) → (Nat → Int32) → Prop) (x2 : Int32) (x4 : Int32) (m_found : (Nat → Int32)) (m_states : Int32) (m_places : (Nat → Int32)) (m_at : (Nat → Int32)) (m_hasLook : Int32) (m_wasWhole : Int32) (m_lookedVertices : Int32) (m_deadMany : Int32) (m_greatest : Int32) (m_ends : Int32) (m_endState : (Nat → Int32)) (m_endValues : (Nat → Int32)) (m_parent : (Nat → Int32)) (m_stepBy : (Nat → Int32)) (m_stepValue : (Nat → Int32)) (m_stepDouble : (Nat → Int32)) (m_keepsSteps : Int32) (m_isOver : Int32) : Prop := ∃ (I : Nat → Int32 → (Nat → Int32) → Prop) (n : Nat), I n x4 m_endValues ∧ ∀ (n : Nat) (x4 : Int32) (m_endValues : (Nat → Int32)), I n x4 m_endValues → bd_X8_look_139 m_vertices m_begins m_arcs m_arcFrom m_arcTo m_arcWeight m_firsts m_firstTo m_firstValue m_settings m_tells post K66 (fun (x4' : Int32) (m_endValues' : (Nat → Int32)) => ∃ n', n' < n ∧ I n' x4' m_endValues') x2 x4 m_found m_states m_places m_at m_hasLook m_wasWhole m_lookedVertices m_deadMany m_greatest m_ends m_endState m_endValues m_parent m_stepBy m_stepValue m_stepDouble m_keepsSteps m_isOver
def wp_X8_look_115 (m_vertices : Int32) (m_begins : (Nat → Int32)) (m_arcs : Int32) (m_arcFrom : (Nat → Int32)) (m_arcTo : (Nat → Int32)) (m_arcWeight : (Nat → Int32)) (m_firsts : Int32) (m_firstTo : (Nat → Int32)) (m_firstValue : (Nat → Int32)) (m_settings : (Nat → Int32)) (m_tells : (Nat → Int32)) (post : Int32 → (Nat → Int32) → Int32 → (Nat → Int32) → (Nat → Int32) → Int32 → Int32 → Int32 → Int32 → Int32 → Int32 → (Nat → Int32) → (Nat → Int32) → (Nat → Int32) → (Nat → Int32) → (Nat → Int32) → (Nat → Int32) → Int32 → Int32 → Prop) (K66 : Int32 → Int32 → Int32 → Int32 → (Nat → Int32) → (Nat → Int32) → Prop) (x2 : Int32) (t0 : Int32) (m_found : (Nat → Int32)) (m_states : Int32) (m_places : (Nat → Int32)) (m_at : (Nat → Int32)) (m_hasLook : Int32) (m_wasWhole : Int32) (m_lookedVertices : Int32) (m_deadMany : Int32) (m_greatest : Int32) (m_ends : Int32) (m_endState : (Nat → Int32)) (m_endValues : (Nat → Int32)) (m_parent : (Nat → Int32)) (m_stepBy : (Nat → Int32)) (m_stepValue : (Nat → Int32)) (m_stepDouble : (Nat → Int32)) (m_keepsSteps : Int32) (m_isOver : Int32) : Prop := wp_X8_isFirstOf m_arcs m_firsts m_found x2 (fun (r15 : Int32) => (r15 = 0 → (wp_X8_look_188 m_vertices m_begins m_arcs m_arcFrom m_arcTo m_arcWeight m_firsts m_firstTo m_firstValue m_settings m_tells post K66 x2 m_found m_states m_places m_at m_hasLook m_wasWhole m_lookedVertices m_deadMany t0 m_ends m_endState m_endValues m_parent m_stepBy m_stepValue m_stepDouble m_keepsSteps m_isOver)) ∧ (¬ r15 = 0 → (vp_in m_ends 600 ∧ (wp_X8_look_139 m_vertices m_begins m_arcs m_arcFrom m_arcTo m_arcWeight m_firsts m_firstTo m_firstValue m_settings m_tells post K66 x2 0 m_found m_states m_places m_at m_hasLook m_wasWhole m_lookedVertices m_deadMany t0 m_ends (upd m_endState m_ends.toNatClampNeg x2) m_endValues m_parent m_stepBy m_stepValue m_stepDouble m_keepsSteps m_isOver))))
def wp_X8_look_94 (m_vertices : Int32) (m_begins : (Nat → Int32)) (m_arcs : Int32) (m_arcFrom : (Nat → Int32)) (m_arcTo : (Nat → Int32)) (m_arcWeight : (Nat → Int32)) (m_firsts : Int32) (m_firstTo : (Nat → Int32)) (m_firstValue : (Nat → Int32)) (m_settings : (Nat → Int32)) (m_tells : (Nat → Int32)) (post : Int32 → (Nat → Int32) → Int32 → (Nat → Int32) → (Nat → Int32) → Int32 → Int32 → Int32 → Int32 → Int32 → Int32 → (Nat → Int32) → (Nat → Int32) → (Nat → Int32) → (Nat → Int32) → (Nat → Int32) → (Nat → Int32) → Int32 → Int32 → Prop) (K66 : Int32 → Int32 → Int32 → Int32 → (Nat → Int32) → (Nat → Int32) → Prop) (x2 : Int32) (x3 : Int32) (t0 : Int32) (t1 : Int32) (m_found : (Nat → Int32)) (m_states : Int32) (m_places : (Nat → Int32)) (m_at : (Nat → Int32)) (m_hasLook : Int32) (m_wasWhole : Int32) (m_lookedVertices : Int32) (m_deadMany : Int32) (m_greatest : Int32) (m_ends : Int32) (m_endState : (Nat → Int32)) (m_endValues : (Nat → Int32)) (m_parent : (Nat → Int32)) (m_stepBy : (Nat → Int32)) (m_stepValue : (Nat → Int32)) (m_stepDouble : (Nat → Int32)) (m_keepsSteps : Int32) (m_isOver : Int32) : Prop := (x3 ≤ m_greatest → (wp_X8_look_115 m_vertices m_begins m_arcs m_arcFrom m_arcTo m_arcWeight m_firsts m_firstTo m_firstValue m_settings m_tells post K66 x2 m_greatest m_found m_states m_places m_at m_hasLook m_wasWhole m_lookedVertices (t1 + t0) m_greatest m_ends m_endState m_endValues m_parent m_stepBy m_stepValue m_stepDouble m_keepsSteps m_isOver)) ∧ (¬ x3 ≤ m_greatest → (wp_X8_look_115 m_vertices m_begins m_arcs m_arcFrom m_arcTo m_arcWeight m_firsts m_firstTo m_firstValue m_settings m_tells post K66 x2 x3 m_found m_states m_places m_at m_hasLook m_wasWhole m_lookedVertices (t1 + t0) m_greatest m_ends m_endState m_endValues m_parent m_stepBy m_stepValue m_stepDouble m_keepsSteps m_isOver))
def bd_X8_look_66 (m_vertices : Int32) (m_begins : (Nat → Int32)) (m_arcs : Int32) (m_arcFrom : (Nat → Int32)) (m_arcTo : (Nat → Int32)) (m_arcWeight : (Nat → Int32)) (m_firsts : Int32) (m_firstTo : (Nat → Int32)) (m_firstValue : (Nat → Int32)) (m_settings : (Nat → Int32)) (m_tells : (Nat → Int32)) (post : Int32 → (Nat → Int32) → Int32 → (Nat → Int32) → (Nat → Int32) → Int32 → Int32 → Int32 → Int32 → Int32 → Int32 → (Nat → Int32) → (Nat → Int32) → (Nat → Int32) → (Nat → Int32) → (Nat → Int32) → (Nat → Int32) → Int32 → Int32 → Prop) (K66 : Int32 → Int32 → Int32 → Int32 → (Nat → Int32) → (Nat → Int32) → Prop) (x2 : Int32) (m_found : (Nat → Int32)) (m_states : Int32) (m_places : (Nat → Int32)) (m_at : (Nat → Int32)) (m_hasLook : Int32) (m_wasWhole : Int32) (m_lookedVertices : Int32) (m_deadMany : Int32) (m_greatest : Int32) (m_ends : Int32) (m_endState : (Nat → Int32)) (m_endValues : (Nat → Int32)) (m_parent : (Nat → Int32)) (m_stepBy : (Nat → Int32)) (m_stepValue : (Nat → Int32)) (m_stepDouble : (Nat → Int32)) (m_keepsSteps : Int32) (m_isOver : Int32) : Prop := (m_states ≤ x2 → (post m_states m_found m_states m_places m_at m_hasLook m_wasWhole m_lookedVertices m_deadMany m_greatest m_ends m_endState m_endValues m_parent m_stepBy m_stepValue m_stepDouble m_keepsSteps m_isOver)) ∧ (¬ m_states ≤ x2 → (wp_X8_openIn m_arcs m_firsts m_found x2 (fun (r14 : Int32) => (¬ r14 = 0 → (wp_X8_look_94 m_vertices m_begins m_arcs m_arcFrom m_arcTo m_arcWeight m_firsts m_firstTo m_firstValue m_settings m_tells post K66 x2 r14 0 m_deadMany m_found m_states m_places m_at m_hasLook m_wasWhole m_lookedVertices m_deadMany m_greatest m_ends m_endState m_endValues m_parent m_stepBy m_stepValue m_stepDouble m_keepsSteps m_isOver)) ∧ (r14 = 0 → (wp_X8_look_94 m_vertices m_begins m_arcs m_arcFrom m_arcTo m_arcWeight m_firsts m_firstTo m_firstValue m_settings m_tells post K66 x2 r14 1 m_deadMany m_found m_states m_places m_at m_hasLook m_wasWhole m_lookedVertices m_deadMany m_greatest m_ends m_endState m_endValues m_parent m_stepBy m_stepValue m_stepDouble m_keepsSteps m_isOver)))))
def wp_X8_look_66 (m_vertices : Int32) (m_begins : (Nat → Int32)) (m_arcs : Int32) (m_arcFrom : (Nat → Int32)) (m_arcTo : (Nat → Int32)) (m_arcWeight : (Nat → Int32)) (m_firsts : Int32) (m_firstTo : (Nat → Int32)) (m_firstValue : (Nat → Int32)) (m_settings : (Nat → Int32)) (m_tells : (Nat → Int32)) (post : Int32 → (Nat → Int32) → Int32 → (Nat → Int32) → (Nat → Int32) → Int32 → Int32 → Int32 → Int32 → Int32 → Int32 → (Nat → Int32) → (Nat → Int32) → (Nat → Int32) → (Nat → Int32) → (Nat → Int32) → (Nat → Int32) → Int32 → Int32 → Prop) (x2 : Int32) (m_found : (Nat → Int32)) (m_states : Int32) (m_places : (Nat → Int32)) (m_at : (Nat → Int32)) (m_hasLook : Int32) (m_wasWhole : Int32) (m_lookedVertices : Int32) (m_deadMany : Int32) (m_greatest : Int32) (m_ends : Int32) (m_endState : (Nat → Int32)) (m_endValues : (Nat → Int32)) (m_parent : (Nat → Int32)) (m_stepBy : (Nat → Int32)) (m_stepValue : (Nat → Int32)) (m_stepDouble : (Nat → Int32)) (m_keepsSteps : Int32) (m_isOver : Int32) : Prop := ∃ (I : Nat → Int32 → Int32 → Int32 → Int32 → (Nat → Int32) → (Nat → Int32) → Prop) (n : Nat), I n x2 m_deadMany m_greatest m_ends m_endState m_endValues ∧ ∀ (n : Nat) (x2 : Int32) (m_deadMany : Int32) (m_greatest : Int32) (m_ends : Int32) (m_endState : (Nat → Int32)) (m_endValues : (Nat → Int32)), I n x2 m_deadMany m_greatest m_ends m_endState m_endValues → bd_X8_look_66 m_vertices m_begins m_arcs m_arcFrom m_arcTo m_arcWeight m_firsts m_firstTo m_firstValue m_settings m_tells post (fun (x2' : Int32) (m_deadMany' : Int32) (m_greatest' : Int32) (m_ends' : Int32) (m_endState' : (Nat → Int32)) (m_endValues' : (Nat → Int32)) => ∃ n', n' < n ∧ I n' x2' m_deadMany' m_greatest' m_ends' m_endState' m_endValues') x2 m_found m_states m_places m_at m_hasLook m_wasWhole m_lookedVertices m_deadMany m_greatest m_ends m_endState m_endValues m_parent m_stepBy m_stepValue m_stepDouble m_keepsSteps m_isOver
def wp_X8_look_0 (m_vertices : Int32) (m_begins : (Nat → Int32)) (m_arcs : Int32) (m_arcFrom : (Nat → Int32)) (m_arcTo : (Nat → Int32)) (m_arcWeight : (Nat → Int32)) (m_firsts : Int32) (m_firstTo : (Nat → Int32)) (m_firstValue : (Nat → Int32)) (m_settings : (Nat → Int32)) (m_tells : (Nat → Int32)) (post : Int32 → (Nat → Int32) → Int32 → (Nat → Int32) → (Nat → Int32) → Int32 → Int32 → Int32 → Int32 → Int32 → Int32 → (Nat → Int32) → (Nat → Int32) → (Nat → Int32) → (Nat → Int32) → (Nat → Int32) → (Nat → Int32) → Int32 → Int32 → Prop) (x1 : Int32) (m_found : (Nat → Int32)) (m_states : Int32) (m_places : (Nat → Int32)) (m_at : (Nat → Int32)) (m_hasLook : Int32) (m_wasWhole : Int32) (m_lookedVertices : Int32) (m_deadMany : Int32) (m_greatest : Int32) (m_ends : Int32) (m_endState : (Nat → Int32)) (m_endValues : (Nat → Int32)) (m_parent : (Nat → Int32)) (m_stepBy : (Nat → Int32)) (m_stepValue : (Nat → Int32)) (m_stepDouble : (Nat → Int32)) (m_keepsSteps : Int32) (m_isOver : Int32) : Prop := wp_X8_in x1 1 600 (fun (r1 : Int32) => (¬ r1 = 0 → (vp_in 0 600 ∧ (wp_X8_search m_vertices m_begins m_arcs m_arcFrom m_arcTo m_arcWeight m_firsts m_firstTo m_firstValue m_settings m_tells m_found m_states m_places m_at (upd m_parent (0 : Int32).toNatClampNeg (-1)) m_stepBy m_stepValue m_stepDouble (1 : Int32) m_isOver x1 0 (fun (r3 : Int32) (m_found_4 : (Nat → Int32)) (m_states_5 : Int32) (m_places_6 : (Nat → Int32)) (m_at_7 : (Nat → Int32)) (m_parent_8 : (Nat → Int32)) (m_stepBy_9 : (Nat → Int32)) (m_stepValue_10 : (Nat → Int32)) (m_stepDouble_11 : (Nat → Int32)) (m_isOver_12 : Int32) => (narrow .boolean (.int r3) = .int r3 ∧ fits .boolean (.int r3) = true) ∧ (wp_X8_look_66 m_vertices m_begins m_arcs m_arcFrom m_arcTo m_arcWeight m_firsts m_firstTo m_firstValue m_settings m_tells post 0 m_found_4 m_states_5 m_places_6 m_at_7 (1 : Int32) r3 m_vertices (0 : Int32) (0 : Int32) (0 : Int32) m_endState m_endValues m_parent_8 m_stepBy_9 m_stepValue_10 m_stepDouble_11 (1 : Int32) m_isOver_12))))) ∧ (r1 = 0 → (post (-102) m_found m_states m_places m_at m_hasLook m_wasWhole m_lookedVertices m_deadMany m_greatest m_ends m_endState m_endValues m_parent m_stepBy m_stepValue m_stepDouble m_keepsSteps m_isOver)))
abbrev wp_X8_look (m_vertices : Int32) (m_begins : (Nat → Int32)) (m_arcs : Int32) (m_arcFrom : (Nat → Int32)) (m_arcTo : (Nat → Int32)) (m_arcWeight : (Nat → Int32)) (m_firsts : Int32) (m_firstTo : (Nat → Int32)) (m_firstValue : (Nat → Int32)) (m_settings : (Nat → Int32)) (m_tells : (Nat → Int32)) (m_found : (Nat → Int32)) (m_states : Int32) (m_places : (Nat → Int32)) (m_at : (Nat → Int32)) (m_hasLook : Int32) (m_wasWhole : Int32) (m_lookedVertices : Int32) (m_deadMany : Int32) (m_greatest : Int32) (m_ends : Int32) (m_endState : (Nat → Int32)) (m_endValues : (Nat → Int32)) (m_parent : (Nat → Int32)) (m_stepBy : (Nat → Int32)) (m_stepValue : (Nat → Int32)) (m_stepDouble : (Nat → Int32)) (m_keepsSteps : Int32) (m_isOver : Int32) (x1 : Int32) (post : Int32 → (Nat → Int32) → Int32 → (Nat → Int32) → (Nat → Int32) → Int32 → Int32 → Int32 → Int32 → Int32 → Int32 → (Nat → Int32) → (Nat → Int32) → (Nat → Int32) → (Nat → Int32) → (Nat → Int32) → (Nat → Int32) → Int32 → Int32 → Prop) : Prop := wp_X8_look_0 m_vertices m_begins m_arcs m_arcFrom m_arcTo m_arcWeight m_firsts m_firstTo m_firstValue m_settings m_tells post x1 m_found m_states m_places m_at m_hasLook m_wasWhole m_lookedVertices m_deadMany m_greatest m_ends m_endState m_endValues m_parent m_stepBy m_stepValue m_stepDouble m_keepsSteps m_isOver
def wp_X8_looked_0 (m_hasLook : Int32) (m_wasWhole : Int32) (m_deadMany : Int32) (m_greatest : Int32) (m_ends : Int32) (post : Int32 → Prop) (x1 : Int32) : Prop := wp_X8_in x1 0 3 (fun (r1 : Int32) => (¬ r1 = 0 → ((¬ m_hasLook = 0 → ((¬ x1 = 0 → ((¬ x1 = 1 → ((¬ x1 = 2 → (post m_greatest)) ∧ (x1 = 2 → (post m_deadMany)))) ∧ (x1 = 1 → (post m_ends)))) ∧ (x1 = 0 → ((m_wasWhole = 0 → (post 0)) ∧ (¬ m_wasWhole = 0 → (post 1)))))) ∧ (m_hasLook = 0 → (post (-1))))) ∧ (r1 = 0 → (post (-102))))
abbrev wp_X8_looked (m_hasLook : Int32) (m_wasWhole : Int32) (m_deadMany : Int32) (m_greatest : Int32) (m_ends : Int32) (x1 : Int32) (post : Int32 → Prop) : Prop := wp_X8_looked_0 m_hasLook m_wasWhole m_deadMany m_greatest m_ends post x1
def wp_X8_end_0 (m_hasLook : Int32) (m_lookedVertices : Int32) (m_ends : Int32) (m_endValues : (Nat → Int32)) (post : Int32 → Prop) (x1 : Int32) (x2 : Int32) : Prop := (m_hasLook = 0 → (post (-101))) ∧ (¬ m_hasLook = 0 → (wp_X8_in x1 0 (m_ends - 1) (fun (r1 : Int32) => (r1 = 0 → (post (-101))) ∧ (¬ r1 = 0 → (wp_X8_in x2 0 (m_lookedVertices - 1) (fun (r2 : Int32) => (¬ r2 = 0 → (vp_in ((5 * x1) + x2) 3000 ∧ (post (m_endValues ((5 * x1) + x2).toNatClampNeg)))) ∧ (r2 = 0 → (post (-101)))))))))
abbrev wp_X8_end (m_hasLook : Int32) (m_lookedVertices : Int32) (m_ends : Int32) (m_endValues : (Nat → Int32)) (x1 : Int32) (x2 : Int32) (post : Int32 → Prop) : Prop := wp_X8_end_0 m_hasLook m_lookedVertices m_ends m_endValues post x1 x2
def bd_X8_way_109 (m_hasLook : Int32) (m_ends : Int32) (m_endState : (Nat → Int32)) (m_parent : (Nat → Int32)) (m_stepBy : (Nat → Int32)) (m_stepValue : (Nat → Int32)) (m_stepDouble : (Nat → Int32)) (post : Int32 → Prop) (K109 : Int32 → Int32 → Prop) (x2 : Int32) (x3 : Int32) (x5 : Int32) (x6 : Int32) : Prop := (x6 ≤ x2 → ((¬ x3 = 0 → ((¬ x3 = 1 → (vp_in x5 600 ∧ (post (m_stepDouble x5.toNatClampNeg)))) ∧ (x3 = 1 → (vp_in x5 600 ∧ (post (m_stepValue x5.toNatClampNeg)))))) ∧ (x3 = 0 → (vp_in x5 600 ∧ (post (m_stepBy x5.toNatClampNeg)))))) ∧ (¬ x6 ≤ x2 → (vp_in x5 600 ∧ (∀ y14 : Int32, y14 = (m_parent x5.toNatClampNeg) → (K109 y14 (x6 + (-1))))))
def wp_X8_way_109 (m_hasLook : Int32) (m_ends : Int32) (m_endState : (Nat → Int32)) (m_parent : (Nat → Int32)) (m_stepBy : (Nat → Int32)) (m_stepValue : (Nat → Int32)) (m_stepDouble : (Nat → Int32)) (post : Int32 → Prop) (x2 : Int32) (x3 : Int32) (x5 : Int32) (x6 : Int32) : Prop := ∃ (I : Nat → Int32 → Int32 → Prop) (n : Nat), I n x5 x6 ∧ ∀ (n : Nat) (x5 : Int32) (x6 : Int32), I n x5 x6 → bd_X8_way_109 m_hasLook m_ends m_endState m_parent m_stepBy m_stepValue m_stepDouble post (fun (x5' : Int32) (x6' : Int32) => ∃ n', n' < n ∧ I n' x5' x6') x2 x3 x5 x6
def bd_X8_way_40 (m_hasLook : Int32) (m_ends : Int32) (m_endState : (Nat → Int32)) (m_parent : (Nat → Int32)) (m_stepBy : (Nat → Int32)) (m_stepValue : (Nat → Int32)) (m_stepDouble : (Nat → Int32)) (post : Int32 → Prop) (K40 : Int32 → Int32 → Prop) (x1 : Int32) (x2 : Int32) (x3 : Int32) (x4 : Int32) (x5 : Int32) : Prop := vp_in x5 600 ∧ (((m_parent x5.toNatClampNeg) = (-1) → ((¬ x2 = (-1) → ((x2 < x4 → (wp_X8_in x3 0 2 (fun (r5 : Int32) => (¬ r5 = 0 → (vp_in x1 600 ∧ (∀ y7 : Int32, y7 = (m_endState x1.toNatClampNeg) → (wp_X8_way_109 m_hasLook m_ends m_endState m_parent m_stepBy m_stepValue m_stepDouble post x2 x3 y7 (x4 - 1))))) ∧ (r5 = 0 → (post (-102)))))) ∧ (¬ x2 < x4 → (post (-101))))) ∧ (x2 = (-1) → (post x4)))) ∧ (¬ (m_parent x5.toNatClampNeg) = (-1) → (vp_in x5 600 ∧ (∀ y9 : Int32, y9 = (m_parent x5.toNatClampNeg) → (K40 (x4 + 1) y9)))))
def wp_X8_way_40 (m_hasLook : Int32) (m_ends : Int32) (m_endState : (Nat → Int32)) (m_parent : (Nat → Int32)) (m_stepBy : (Nat → Int32)) (m_stepValue : (Nat → Int32)) (m_stepDouble : (Nat → Int32)) (post : Int32 → Prop) (x1 : Int32) (x2 : Int32) (x3 : Int32) (x4 : Int32) (x5 : Int32) : Prop := ∃ (I : Nat → Int32 → Int32 → Prop) (n : Nat), I n x4 x5 ∧ ∀ (n : Nat) (x4 : Int32) (x5 : Int32), I n x4 x5 → bd_X8_way_40 m_hasLook m_ends m_endState m_parent m_stepBy m_stepValue m_stepDouble post (fun (x4' : Int32) (x5' : Int32) => ∃ n', n' < n ∧ I n' x4' x5') x1 x2 x3 x4 x5
def wp_X8_way_0 (m_hasLook : Int32) (m_ends : Int32) (m_endState : (Nat → Int32)) (m_parent : (Nat → Int32)) (m_stepBy : (Nat → Int32)) (m_stepValue : (Nat → Int32)) (m_stepDouble : (Nat → Int32)) (post : Int32 → Prop) (x1 : Int32) (x2 : Int32) (x3 : Int32) : Prop := (m_hasLook = 0 → (post (-101))) ∧ (¬ m_hasLook = 0 → (wp_X8_in x1 0 (m_ends - 1) (fun (r1 : Int32) => (r1 = 0 → (post (-101))) ∧ (¬ r1 = 0 → (((-1) ≤ x2 → (vp_in x1 600 ∧ (∀ y3 : Int32, y3 = (m_endState x1.toNatClampNeg) → (wp_X8_way_40 m_hasLook m_ends m_endState m_parent m_stepBy m_stepValue m_stepDouble post x1 x2 x3 0 y3)))) ∧ (¬ (-1) ≤ x2 → (post (-101))))))))
abbrev wp_X8_way (m_hasLook : Int32) (m_ends : Int32) (m_endState : (Nat → Int32)) (m_parent : (Nat → Int32)) (m_stepBy : (Nat → Int32)) (m_stepValue : (Nat → Int32)) (m_stepDouble : (Nat → Int32)) (x1 : Int32) (x2 : Int32) (x3 : Int32) (post : Int32 → Prop) : Prop := wp_X8_way_0 m_hasLook m_ends m_endState m_parent m_stepBy m_stepValue m_stepDouble post x1 x2 x3
def wp_X8_shrink_76 (m_vertices : Int32) (m_begins : (Nat → Int32)) (m_arcs : Int32) (m_arcFrom : (Nat → Int32)) (m_arcTo : (Nat → Int32)) (m_arcWeight : (Nat → Int32)) (m_firsts : Int32) (m_firstTo : (Nat → Int32)) (m_firstValue : (Nat → Int32)) (m_settings : (Nat → Int32)) (m_tells : (Nat → Int32)) (post : Int32 → (Nat → Int32) → Int32 → (Nat → Int32) → (Nat → Int32) → (Nat → Int32) → (Nat → Int32) → (Nat → Int32) → (Nat → Int32) → Int32 → Int32 → Prop) (K40 : Int32 → Int32 → (Nat → Int32) → Int32 → (Nat → Int32) → (Nat → Int32) → (Nat → Int32) → (Nat → Int32) → (Nat → Int32) → (Nat → Int32) → Int32 → Prop) (x1 : Int32) (x3 : Int32) (t0 : Int32) (m_found : (Nat → Int32)) (m_states : Int32) (m_places : (Nat → Int32)) (m_at : (Nat → Int32)) (m_parent : (Nat → Int32)) (m_stepBy : (Nat → Int32)) (m_stepValue : (Nat → Int32)) (m_stepDouble : (Nat → Int32)) (m_keepsSteps : Int32) (m_isOver : Int32) : Prop := K40 t0 (x3 + 1) m_found m_states m_places m_at m_parent m_stepBy m_stepValue m_stepDouble m_isOver
def bd_X8_shrink_40 (m_vertices : Int32) (m_begins : (Nat → Int32)) (m_arcs : Int32) (m_arcFrom : (Nat → Int32)) (m_arcTo : (Nat → Int32)) (m_arcWeight : (Nat → Int32)) (m_firsts : Int32) (m_firstTo : (Nat → Int32)) (m_firstValue : (Nat → Int32)) (m_settings : (Nat → Int32)) (m_tells : (Nat → Int32)) (post : Int32 → (Nat → Int32) → Int32 → (Nat → Int32) → (Nat → Int32) → (Nat → Int32) → (Nat → Int32) → (Nat → Int32) → (Nat → Int32) → Int32 → Int32 → Prop) (K40 : Int32 → Int32 → (Nat → Int32) → Int32 → (Nat → Int32) → (Nat → Int32) → (Nat → Int32) → (Nat → Int32) → (Nat → Int32) → (Nat → Int32) → Int32 → Prop) (x1 : Int32) (x2 : Int32) (x3 : Int32) (m_found : (Nat → Int32)) (m_states : Int32) (m_places : (Nat → Int32)) (m_at : (Nat → Int32)) (m_parent : (Nat → Int32)) (m_stepBy : (Nat → Int32)) (m_stepValue : (Nat → Int32)) (m_stepDouble : (Nat → Int32)) (m_keepsSteps : Int32) (m_isOver : Int32) : Prop := (m_arcs ≤ x3 → (post (((1 <<< (m_arcs &&& 31)) - 1) &&& (x2 ^^^ (-1))) m_found m_states m_places m_at m_parent m_stepBy m_stepValue m_stepDouble m_keepsSteps m_isOver)) ∧ (¬ m_arcs ≤ x3 → (wp_X8_search m_vertices m_begins m_arcs m_arcFrom m_arcTo m_arcWeight m_firsts m_firstTo m_firstValue m_settings m_tells m_found m_states m_places m_at m_parent m_stepBy m_stepValue m_stepDouble m_keepsSteps m_isOver x1 (x2 ||| (1 <<< (x3 &&& 31))) (fun (r13 : Int32) (m_found_14 : (Nat → Int32)) (m_states_15 : Int32) (m_places_16 : (Nat → Int32)) (m_at_17 : (Nat → Int32)) (m_parent_18 : (Nat → Int32)) (m_stepBy_19 : (Nat → Int32)) (m_stepValue_20 : (Nat → Int32)) (m_stepDouble_21 : (Nat → Int32)) (m_isOver_22 : Int32) => wp_X8_countEnds m_arcs m_firsts m_found_14 m_states_15 (fun (r23 : Int32) => (r23 < 2 → (wp_X8_shrink_76 m_vertices m_begins m_arcs m_arcFrom m_arcTo m_arcWeight m_firsts m_firstTo m_firstValue m_settings m_tells post K40 x1 x3 x2 m_found_14 m_states_15 m_places_16 m_at_17 m_parent_18 m_stepBy_19 m_stepValue_20 m_stepDouble_21 m_keepsSteps m_isOver_22)) ∧ (¬ r23 < 2 → (wp_X8_shrink_76 m_vertices m_begins m_arcs m_arcFrom m_arcTo m_arcWeight m_firsts m_firstTo m_firstValue m_settings m_tells post K40 x1 x3 (x2 ||| (1 <<< (x3 &&& 31))) m_found_14 m_states_15 m_places_16 m_at_17 m_parent_18 m_stepBy_19 m_stepValue_20 m_stepDouble_21 m_keepsSteps m_isOver_22))))))
def wp_X8_shrink_40 (m_vertices : Int32) (m_begins : (Nat → Int32)) (m_arcs : Int32) (m_arcFrom : (Nat → Int32)) (m_arcTo : (Nat → Int32)) (m_arcWeight : (Nat → Int32)) (m_firsts : Int32) (m_firstTo : (Nat → Int32)) (m_firstValue : (Nat → Int32)) (m_settings : (Nat → Int32)) (m_tells : (Nat → Int32)) (post : Int32 → (Nat → Int32) → Int32 → (Nat → Int32) → (Nat → Int32) → (Nat → Int32) → (Nat → Int32) → (Nat → Int32) → (Nat → Int32) → Int32 → Int32 → Prop) (x1 : Int32) (x2 : Int32) (x3 : Int32) (m_found : (Nat → Int32)) (m_states : Int32) (m_places : (Nat → Int32)) (m_at : (Nat → Int32)) (m_parent : (Nat → Int32)) (m_stepBy : (Nat → Int32)) (m_stepValue : (Nat → Int32)) (m_stepDouble : (Nat → Int32)) (m_keepsSteps : Int32) (m_isOver : Int32) : Prop := ∃ (I : Nat → Int32 → Int32 → (Nat → Int32) → Int32 → (Nat → Int32) → (Nat → Int32) → (Nat → Int32) → (Nat → Int32) → (Nat → Int32) → (Nat → Int32) → Int32 → Prop) (n : Nat), I n x2 x3 m_found m_states m_places m_at m_parent m_stepBy m_stepValue m_stepDouble m_isOver ∧ ∀ (n : Nat) (x2 : Int32) (x3 : Int32) (m_found : (Nat → Int32)) (m_states : Int32) (m_places : (Nat → Int32)) (m_at : (Nat → Int32)) (m_parent : (Nat → Int32)) (m_stepBy : (Nat → Int32)) (m_stepValue : (Nat → Int32)) (m_stepDouble : (Nat → Int32)) (m_isOver : Int32), I n x2 x3 m_found m_states m_places m_at m_parent m_stepBy m_stepValue m_stepDouble m_isOver → bd_X8_shrink_40 m_vertices m_begins m_arcs m_arcFrom m_arcTo m_arcWeight m_firsts m_firstTo m_firstValue m_settings m_tells post (fun (x2' : Int32) (x3' : Int32) (m_found' : (Nat → Int32)) (m_states' : Int32) (m_places' : (Nat → Int32)) (m_at' : (Nat → Int32)) (m_parent' : (Nat → Int32)) (m_stepBy' : (Nat → Int32)) (m_stepValue' : (Nat → Int32)) (m_stepDouble' : (Nat → Int32)) (m_isOver' : Int32) => ∃ n', n' < n ∧ I n' x2' x3' m_found' m_states' m_places' m_at' m_parent' m_stepBy' m_stepValue' m_stepDouble' m_isOver') x1 x2 x3 m_found m_states m_places m_at m_parent m_stepBy m_stepValue m_stepDouble m_keepsSteps m_isOver
def wp_X8_shrink_0 (m_vertices : Int32) (m_begins : (Nat → Int32)) (m_arcs : Int32) (m_arcFrom : (Nat → Int32)) (m_arcTo : (Nat → Int32)) (m_arcWeight : (Nat → Int32)) (m_firsts : Int32) (m_firstTo : (Nat → Int32)) (m_firstValue : (Nat → Int32)) (m_settings : (Nat → Int32)) (m_tells : (Nat → Int32)) (post : Int32 → (Nat → Int32) → Int32 → (Nat → Int32) → (Nat → Int32) → (Nat → Int32) → (Nat → Int32) → (Nat → Int32) → (Nat → Int32) → Int32 → Int32 → Prop) (x1 : Int32) (m_found : (Nat → Int32)) (m_states : Int32) (m_places : (Nat → Int32)) (m_at : (Nat → Int32)) (m_parent : (Nat → Int32)) (m_stepBy : (Nat → Int32)) (m_stepValue : (Nat → Int32)) (m_stepDouble : (Nat → Int32)) (m_keepsSteps : Int32) (m_isOver : Int32) : Prop := wp_X8_in x1 1 600 (fun (r1 : Int32) => (¬ r1 = 0 → (wp_X8_search m_vertices m_begins m_arcs m_arcFrom m_arcTo m_arcWeight m_firsts m_firstTo m_firstValue m_settings m_tells m_found m_states m_places m_at m_parent m_stepBy m_stepValue m_stepDouble (0 : Int32) m_isOver x1 0 (fun (r2 : Int32) (m_found_3 : (Nat → Int32)) (m_states_4 : Int32) (m_places_5 : (Nat → Int32)) (m_at_6 : (Nat → Int32)) (m_parent_7 : (Nat → Int32)) (m_stepBy_8 : (Nat → Int32)) (m_stepValue_9 : (Nat → Int32)) (m_stepDouble_10 : (Nat → Int32)) (m_isOver_11 : Int32) => wp_X8_countEnds m_arcs m_firsts m_found_3 m_states_4 (fun (r12 : Int32) => (2 ≤ r12 → (wp_X8_shrink_40 m_vertices m_begins m_arcs m_arcFrom m_arcTo m_arcWeight m_firsts m_firstTo m_firstValue m_settings m_tells post x1 0 0 m_found_3 m_states_4 m_places_5 m_at_6 m_parent_7 m_stepBy_8 m_stepValue_9 m_stepDouble_10 (0 : Int32) m_isOver_11)) ∧ (¬ 2 ≤ r12 → (post (-1) m_found_3 m_states_4 m_places_5 m_at_6 m_parent_7 m_stepBy_8 m_stepValue_9 m_stepDouble_10 (0 : Int32) m_isOver_11)))))) ∧ (r1 = 0 → (post (-102) m_found m_states m_places m_at m_parent m_stepBy m_stepValue m_stepDouble m_keepsSteps m_isOver)))
abbrev wp_X8_shrink (m_vertices : Int32) (m_begins : (Nat → Int32)) (m_arcs : Int32) (m_arcFrom : (Nat → Int32)) (m_arcTo : (Nat → Int32)) (m_arcWeight : (Nat → Int32)) (m_firsts : Int32) (m_firstTo : (Nat → Int32)) (m_firstValue : (Nat → Int32)) (m_settings : (Nat → Int32)) (m_tells : (Nat → Int32)) (m_found : (Nat → Int32)) (m_states : Int32) (m_places : (Nat → Int32)) (m_at : (Nat → Int32)) (m_parent : (Nat → Int32)) (m_stepBy : (Nat → Int32)) (m_stepValue : (Nat → Int32)) (m_stepDouble : (Nat → Int32)) (m_keepsSteps : Int32) (m_isOver : Int32) (x1 : Int32) (post : Int32 → (Nat → Int32) → Int32 → (Nat → Int32) → (Nat → Int32) → (Nat → Int32) → (Nat → Int32) → (Nat → Int32) → (Nat → Int32) → Int32 → Int32 → Prop) : Prop := wp_X8_shrink_0 m_vertices m_begins m_arcs m_arcFrom m_arcTo m_arcWeight m_firsts m_firstTo m_firstValue m_settings m_tells post x1 m_found m_states m_places m_at m_parent m_stepBy m_stepValue m_stepDouble m_keepsSteps m_isOver
end
section
/-! ===== nI under and, xor, >>>, one bit, 65535 ===== -/
theorem nx_and (a b : Nat) : nI a &&& nI b = nI (a &&& b) := by
  apply Int32.toBitVec_inj.1
  show BitVec.ofNat 32 a &&& BitVec.ofNat 32 b = BitVec.ofNat 32 (a &&& b)
  apply BitVec.eq_of_getLsbD_eq
  intro i hi
  simp [hi]
theorem nx_xor (a b : Nat) : nI a ^^^ nI b = nI (a ^^^ b) := by
  apply Int32.toBitVec_inj.1
  show BitVec.ofNat 32 a ^^^ BitVec.ofNat 32 b = BitVec.ofNat 32 (a ^^^ b)
  apply BitVec.eq_of_getLsbD_eq
  intro i hi
  simp [hi]
theorem nx_cnt : ∀ j : Fin 32, (UInt32.ofNat j.val &&& Int32.toUInt32 31).toNat % 32 = j.val := by decide +kernel
theorem nx_ush {k j : Nat} (hk : k < 65536) (hj : j < 32) : ((nI k).toUInt32 >>> ((nI j).toUInt32 &&& Int32.toUInt32 31)).toInt32 = nI (k >>> j) := by
  have hs : k >>> j ≤ k := by
    rw [Nat.shiftRight_eq_div_pow]
    exact Nat.div_le_self _ _
  have e2 : UInt32.ofNat k >>> (UInt32.ofNat j &&& Int32.toUInt32 31) = UInt32.ofNat (k >>> j) := by
    apply UInt32.toNat_inj.1
    have h1 : (UInt32.ofNat k).toNat = k := Nat.mod_eq_of_lt (by omega)
    have h2 : (UInt32.ofNat (k >>> j)).toNat = k >>> j := Nat.mod_eq_of_lt (by omega)
    rw [UInt32.toNat_shiftRight, nx_cnt ⟨j, hj⟩, h1, h2]
  show (UInt32.ofNat k >>> (UInt32.ofNat j &&& Int32.toUInt32 31)).toInt32 = _
  rw [e2]
  rfl
theorem nx_bit {k j : Nat} (hk : k < 65536) (hj : j < 16) : (((nI k).toUInt32 >>> ((nI j).toUInt32 &&& Int32.toUInt32 31)).toInt32 &&& 1) = 0 ↔ k.testBit j = false := by
  rw [nx_ush hk (by omega)]
  show nI (k >>> j) &&& nI 1 = 0 ↔ _
  rw [nx_and, Nat.and_one_is_mod, ← nI_0, nI_eq (by omega) (by omega), Nat.testBit_eq_decide_div_mod_eq, Nat.shiftRight_eq_div_pow, decide_eq_false_iff_not]
  generalize k / 2 ^ j = z
  omega
theorem nx_mod (k : Nat) : nI k &&& 65535 = nI (k % 65536) := by
  show nI k &&& nI 65535 = _
  rw [nx_and, show (65535 : Nat) = 2 ^ 16 - 1 from rfl, Nat.and_two_pow_sub_one_eq_mod]
theorem nx_m16 {k : Nat} (h : k < 65536) : nI k &&& 65535 = nI k := by rw [nx_mod, Nat.mod_eq_of_lt h]
theorem nx_mask (x : Int32) : ∃ k, k < 65536 ∧ x &&& 65535 = nI k := by
  have e : x = nI x.toBitVec.toNat := by
    apply Int32.toBitVec_inj.1
    show x.toBitVec = BitVec.ofNat 32 x.toBitVec.toNat
    simp
  refine ⟨x.toBitVec.toNat % 65536, Nat.mod_lt _ (by omega), ?_⟩
  rw [← nx_mod, ← e]
/-! ===== lN n to 2^64: shifts, and, or, masks, one bit ===== -/
theorem wb_tb (n : Nat) : (lN n).toBitVec = BitVec.ofNat 64 n := rfl
theorem wb_inj {a b : Int64} (h : a.toBitVec = b.toBitVec) : a = b := Int64.toBitVec_inj.mp h
theorem wb_tn {n : Nat} (h : n < 2 ^ 64) : (lN n).toBitVec.toNat = n := by rw [wb_tb, BitVec.toNat_ofNat, Nat.mod_eq_of_lt h]
theorem wb_of (x : Int64) : ∃ n, n < 2 ^ 64 ∧ x = lN n := ⟨x.toBitVec.toNat, x.toBitVec.isLt, wb_inj (by rw [wb_tb]; simp)⟩
theorem wb_of32 (x : Int32) : ∃ n, n < 2 ^ 32 ∧ x = nI n := ⟨x.toBitVec.toNat, x.toBitVec.isLt, Int32.toBitVec_inj.mp (by show _ = BitVec.ofNat 32 _; simp)⟩
theorem wb_c : ∀ k, k < 64 → ((nI k).toInt64 &&& 63) = lN k := by decide +kernel
theorem wb_cu : ∀ k, k < 64 → ((nI k).toInt64.toUInt64 &&& Int64.toUInt64 63) = UInt64.ofNat k := by decide +kernel
theorem wb_sm : ∀ k, k < 64 → (BitVec.ofNat 64 k).smod 64 = BitVec.ofNat 64 k := by decide +kernel
theorem wb_pw {a b : Nat} (h : a ≤ b) : 2 ^ b = 2 ^ a * 2 ^ (b - a) := by rw [← Nat.pow_add]; congr 1; omega
theorem wb_lt2 {a b : Nat} (h : a < b) : 2 ^ a < 2 ^ b := Nat.pow_lt_pow_right (by decide) h
theorem wb_mod (n : Nat) : lN n = lN (n % 2 ^ 64) := wb_inj (by rw [wb_tb, wb_tb]; apply BitVec.eq_of_toNat_eq; rw [BitVec.toNat_ofNat, BitVec.toNat_ofNat, Nat.mod_mod])
theorem wb_shr {n k : Nat} (hn : n < 2 ^ 64) (hk : k < 64) : ((lN n).toUInt64 >>> ((nI k).toInt64.toUInt64 &&& Int64.toUInt64 63)).toInt64 = lN (n / 2 ^ k) := by
  rw [wb_cu k hk]
  apply wb_inj
  apply BitVec.eq_of_toNat_eq
  show ((lN n).toUInt64 >>> UInt64.ofNat k).toNat = (BitVec.ofNat 64 _).toNat
  have h1 : (UInt64.ofNat k).toNat = k := by
    show (BitVec.ofNat 64 k).toNat = k
    rw [BitVec.toNat_ofNat, Nat.mod_eq_of_lt (by omega)]
  have h2 : (lN n).toUInt64.toNat = n := wb_tn hn
  rw [UInt64.toNat_shiftRight, h1, h2, Nat.mod_eq_of_lt hk, Nat.shiftRight_eq_div_pow, BitVec.toNat_ofNat, Nat.mod_eq_of_lt (Nat.lt_of_le_of_lt (Nat.div_le_self _ _) hn)]
theorem wb_shl (n : Nat) {k : Nat} (hk : k < 64) : lN n <<< ((nI k).toInt64 &&& 63) = lN (n * 2 ^ k) := by
  rw [wb_c k hk]
  apply wb_inj
  rw [Int64.toBitVec_shiftLeft, wb_tb, wb_tb, wb_tb, wb_sm k hk]
  apply BitVec.eq_of_toNat_eq
  rw [BitVec.shiftLeft_eq', BitVec.toNat_shiftLeft, BitVec.toNat_ofNat, BitVec.toNat_ofNat, BitVec.toNat_ofNat, Nat.mod_eq_of_lt (show k < 2 ^ 64 by omega), Nat.shiftLeft_eq, Nat.mul_mod, Nat.mod_mod, ← Nat.mul_mod]
theorem wb_and {a b : Nat} (ha : a < 2 ^ 64) (hb : b < 2 ^ 64) : lN a &&& lN b = lN (a &&& b) := by
  apply wb_inj
  rw [Int64.toBitVec_and, wb_tb, wb_tb, wb_tb]
  apply BitVec.eq_of_toNat_eq
  rw [BitVec.toNat_and, BitVec.toNat_ofNat, BitVec.toNat_ofNat, BitVec.toNat_ofNat, Nat.mod_eq_of_lt ha, Nat.mod_eq_of_lt hb, Nat.mod_eq_of_lt (Nat.and_lt_two_pow _ hb)]
theorem wb_or {a b : Nat} (ha : a < 2 ^ 64) (hb : b < 2 ^ 64) : lN a ||| lN b = lN (a ||| b) := by
  apply wb_inj
  rw [Int64.toBitVec_or, wb_tb, wb_tb, wb_tb]
  apply BitVec.eq_of_toNat_eq
  rw [BitVec.toNat_or, BitVec.toNat_ofNat, BitVec.toNat_ofNat, BitVec.toNat_ofNat, Nat.mod_eq_of_lt ha, Nat.mod_eq_of_lt hb, Nat.mod_eq_of_lt (Nat.or_lt_two_pow ha hb)]
theorem wb_mask {n k : Nat} (hn : n < 2 ^ 64) (hk : k < 64) : lN n &&& lN (2 ^ k - 1) = lN (n % 2 ^ k) := by
  rw [wb_and hn (by have := wb_lt2 hk; omega), Nat.and_two_pow_sub_one_eq_mod]
theorem wb_a1 {n : Nat} (hn : n < 2 ^ 64) : lN n &&& 1 = lN (n % 2) := wb_mask (k := 1) hn (by decide)
theorem wb_bit {n k : Nat} (hn : n < 2 ^ 64) (hk : k < 64) : ((lN n).toUInt64 >>> ((nI k).toInt64.toUInt64 &&& Int64.toUInt64 63)).toInt64 &&& 1 = lN (n / 2 ^ k % 2) := by
  rw [wb_shr hn hk, wb_a1 (Nat.lt_of_le_of_lt (Nat.div_le_self _ _) hn)]
/-! ===== lN: masks, 'or' of parts that don't overlap is a sum ===== -/
theorem u_tn {n : Nat} (h : n < 2 ^ 64) : (UInt64.ofNat n).toNat = n := Nat.mod_eq_of_lt h
theorem g_and {a b c : Nat} (ha : a < 2 ^ 64) (hb : b < 2 ^ 64) (hc : a &&& b = c) : lN a &&& lN b = lN c := by
  subst hc
  have h : UInt64.ofNat a &&& UInt64.ofNat b = UInt64.ofNat (a &&& b) := UInt64.toNat_inj.mp (by rw [UInt64.toNat_and, u_tn ha, u_tn hb, u_tn (Nat.and_lt_two_pow a hb)])
  have h2 := congrArg UInt64.toInt64 h
  exact h2
theorem g_and1 {a : Nat} (ha : a < 2 ^ 64) : lN a &&& 1 = lN (a % 2) := g_and (b := 1) ha (by decide) (Nat.and_two_pow_sub_one_eq_mod a 1)
theorem g_mask {a s p : Nat} (hp : 2 ^ s = p) (hs : s < 64) (ha : a < 2 ^ 64) : lN a &&& lN (p - 1) = lN (a % p) := by
  subst hp
  have := Nat.pow_lt_pow_right (show 1 < 2 by decide) hs
  exact g_and ha (by omega) (Nat.and_two_pow_sub_one_eq_mod a s)
theorem g_or {k p a b : Nat} (hp : 2 ^ k = p) (ha : a < p) (h : b * p + a < 2 ^ 64) : lN (b * p) ||| lN a = lN (b * p + a) := by
  subst hp
  have h1 : b * 2 ^ k ||| a = b * 2 ^ k + a := by rw [← Nat.shiftLeft_eq, Nat.shiftLeft_add_eq_or_of_lt ha]
  have h3 : UInt64.ofNat (b * 2 ^ k) ||| UInt64.ofNat a = UInt64.ofNat (b * 2 ^ k + a) := UInt64.toNat_inj.mp (by rw [UInt64.toNat_or, u_tn (by omega), u_tn (by omega), u_tn h, h1])
  have h2 := congrArg UInt64.toInt64 h3
  exact h2
theorem g_or' {k p a b : Nat} (hp : 2 ^ k = p) (ha : a < p) (h : a + b * p < 2 ^ 64) : lN a ||| lN (b * p) = lN (a + b * p) := by
  rw [Int64.or_comm, g_or hp ha (by omega), Nat.add_comm]
theorem g_ushr {a k p : Nat} {y : UInt64} (hy : y = UInt64.ofNat k) (hk : k < 64) (hp : 2 ^ k = p) (ha : a < 2 ^ 64) : ((lN a).toUInt64 >>> y).toInt64 = lN (a / p) := by
  subst hy hp
  have h : UInt64.ofNat a >>> UInt64.ofNat k = UInt64.ofNat (a / 2 ^ k) := UInt64.toNat_inj.mp (by rw [UInt64.toNat_shiftRight, u_tn ha, u_tn (by omega), u_tn (Nat.lt_of_le_of_lt (Nat.div_le_self _ _) ha), Nat.mod_eq_of_lt hk, Nat.shiftRight_eq_div_pow])
  have h2 := congrArg UInt64.toInt64 h
  exact h2
theorem g_shl {a k p : Nat} {y : Int64} (hy : y.toBitVec.smod 64 = BitVec.ofNat 64 k) (hk : k < 64) (hp : 2 ^ k = p) (ha : a < 2 ^ 64) : lN a <<< y = lN (a * p) := by
  subst hp
  apply Int64.toBitVec_inj.mp
  rw [Int64.toBitVec_shiftLeft, hy]
  apply BitVec.eq_of_toNat_eq
  have hb : (lN a).toBitVec.toNat = a := Nat.mod_eq_of_lt ha
  have hk' : (BitVec.ofNat 64 k).toNat = k := Nat.mod_eq_of_lt (by omega)
  have h : ((lN a).toBitVec <<< BitVec.ofNat 64 k).toNat = (a * 2 ^ k) % 2 ^ 64 := by simp only [BitVec.shiftLeft_eq', BitVec.toNat_shiftLeft, hb, hk', Nat.shiftLeft_eq]
  exact h
end
section
/-! numbers by their digits, the least first -/
def dig (B : Nat) : List Nat → Nat
  | [] => 0
  | d :: l => d + B * dig B l
theorem dig_nil (B : Nat) : dig B [] = 0 := rfl
theorem dig_cons (B d : Nat) (l : List Nat) : dig B (d :: l) = d + B * dig B l := rfl
theorem dig_lt {B : Nat} (hB : 0 < B) : ∀ (l : List Nat), (∀ d ∈ l, d < B) → dig B l < B ^ l.length
  | [], _ => by simp [dig]
  | d :: l, h => by
    have h1 := dig_lt hB l (fun x hx => h x (List.mem_cons_of_mem _ hx))
    have h2 : d < B := h d List.mem_cons_self
    have h3 : B * (dig B l + 1) ≤ B * B ^ l.length := Nat.mul_le_mul_left _ h1
    rw [dig_cons, List.length_cons, Nat.pow_succ, Nat.mul_comm (B ^ l.length) B]
    rw [Nat.mul_add, Nat.mul_one] at h3
    omega
theorem dig_app (B : Nat) : ∀ (l m : List Nat), dig B (l ++ m) = dig B l + B ^ l.length * dig B m
  | [], m => by simp [dig]
  | d :: l, m => by
    rw [List.cons_append, dig_cons, dig_cons, dig_app B l m, List.length_cons, Nat.pow_succ, Nat.mul_add, ← Nat.mul_assoc, Nat.mul_comm B (B ^ l.length)]
    omega
theorem dig_get {B : Nat} (hB : 0 < B) : ∀ (l : List Nat) (r i : Nat), (∀ d ∈ l, d < B) → i < l.length → (dig B l + B ^ l.length * r) / B ^ i % B = l.getD i 0
  | [], _, _, _, hi => absurd hi (Nat.not_lt_zero _)
  | d :: l, r, i, h, hi => by
    have h2 : d < B := h d List.mem_cons_self
    have e : dig B (d :: l) + B ^ (d :: l).length * r = d + B * (dig B l + B ^ l.length * r) := by
      rw [dig_cons, List.length_cons, Nat.pow_succ, Nat.mul_add, Nat.mul_comm (B ^ l.length) B, Nat.mul_assoc]
      omega
    rw [e]
    cases i with
    | zero => simp [Nat.mod_eq_of_lt h2]
    | succ i =>
      have e2 : (d + B * (dig B l + B ^ l.length * r)) / B ^ (i + 1) = (dig B l + B ^ l.length * r) / B ^ i := by
        rw [Nat.pow_succ, Nat.mul_comm (B ^ i) B, ← Nat.div_div_eq_div_mul, Nat.add_mul_div_left _ _ hB, Nat.div_eq_of_lt h2, Nat.zero_add]
      rw [e2, dig_get hB l r i (fun x hx => h x (List.mem_cons_of_mem _ hx)) (by simpa using hi)]
      simp
theorem dig_get0 {B : Nat} (hB : 0 < B) {l : List Nat} {i : Nat} (h : ∀ d ∈ l, d < B) (hi : i < l.length) : dig B l / B ^ i % B = l.getD i 0 := by
  have := dig_get hB l 0 i h hi
  rwa [Nat.mul_zero, Nat.add_zero] at this
theorem dig_set (B : Nat) : ∀ (l : List Nat) (i d : Nat), i < l.length → dig B (l.set i d) + l.getD i 0 * B ^ i = dig B l + d * B ^ i
  | [], _, _, hi => absurd hi (Nat.not_lt_zero _)
  | x :: l, 0, d, _ => by simp [dig]; omega
  | x :: l, i + 1, d, hi => by
    have h := dig_set B l i d (by simpa using hi)
    have e1 : ∀ z : Nat, z * B ^ (i + 1) = B * (z * B ^ i) := fun z => by rw [Nat.pow_succ, Nat.mul_comm B, Nat.mul_assoc]
    simp only [List.set_cons_succ, dig_cons, List.getD_cons_succ, e1]
    have h2 := congrArg (fun z => B * z) h
    simp only [Nat.mul_add] at h2
    omega
theorem dig_inj {B : Nat} (hB : 0 < B) : ∀ (l m : List Nat), l.length = m.length → (∀ d ∈ l, d < B) → (∀ d ∈ m, d < B) → dig B l = dig B m → l = m
  | [], [], _, _, _, _ => rfl
  | [], _ :: _, h, _, _, _ => by simp at h
  | _ :: _, [], h, _, _, _ => by simp at h
  | x :: l, y :: m, h, hl, hm, e => by
    have hx : x < B := hl x List.mem_cons_self
    have hy : y < B := hm y List.mem_cons_self
    rw [dig_cons, dig_cons] at e
    have e1 : x = y := by
      have := congrArg (fun z => z % B) e
      simpa [Nat.add_mul_mod_self_left, Nat.mod_eq_of_lt hx, Nat.mod_eq_of_lt hy] using this
    have e2 : dig B l = dig B m := by
      have := congrArg (fun z => z / B) e
      simpa [Nat.add_mul_div_left _ _ hB, Nat.div_eq_of_lt hx, Nat.div_eq_of_lt hy] using this
    rw [e1, dig_inj hB l m (by simpa using h) (fun d hd => hl d (List.mem_cons_of_mem _ hd)) (fun d hd => hm d (List.mem_cons_of_mem _ hd)) e2]
theorem dig_td {B : Nat} (l : List Nat) {i : Nat} (hi : i ≤ l.length) : dig B l = dig B (l.take i) + B ^ i * dig B (l.drop i) := by
  have := dig_app B (l.take i) (l.drop i)
  rwa [List.take_append_drop, List.length_take, Nat.min_eq_left hi] at this
theorem dig_mod {B : Nat} (hB : 0 < B) {l : List Nat} {i : Nat} (h : ∀ d ∈ l, d < B) (hi : i ≤ l.length) : dig B l % B ^ i = dig B (l.take i) := by
  have h1 := dig_lt hB (l.take i) (fun d hd => h d (List.mem_of_mem_take hd))
  rw [List.length_take, Nat.min_eq_left hi] at h1
  rw [dig_td l hi, Nat.add_mul_mod_self_left, Nat.mod_eq_of_lt h1]
theorem dig_div {B : Nat} (hB : 0 < B) {l : List Nat} {i : Nat} (h : ∀ d ∈ l, d < B) (hi : i ≤ l.length) : dig B l / B ^ i = dig B (l.drop i) := by
  have h1 := dig_lt hB (l.take i) (fun d hd => h d (List.mem_of_mem_take hd))
  rw [List.length_take, Nat.min_eq_left hi] at h1
  rw [dig_td l hi, Nat.add_mul_div_left _ _ (Nat.pow_pos hB), Nat.div_eq_of_lt h1, Nat.zero_add]
theorem dig_ins {B : Nat} (l : List Nat) {i : Nat} (d : Nat) (hi : i ≤ l.length) : dig B (l.take i ++ d :: l.drop i) = dig B (l.take i) + d * B ^ i + B ^ (i + 1) * dig B (l.drop i) := by
  rw [dig_app, List.length_take, Nat.min_eq_left hi, dig_cons, Nat.mul_add, Nat.mul_comm d, Nat.pow_succ, Nat.mul_assoc]
  omega
theorem dig_del {B : Nat} (l : List Nat) {i : Nat} (hi : i ≤ l.length) : dig B (l.take i ++ l.drop (i + 1)) = dig B (l.take i) + B ^ i * dig B (l.drop (i + 1)) := by
  rw [dig_app, List.length_take, Nat.min_eq_left hi]
/-! 64 bits -/
theorem lx_xor {a b : Nat} (ha : a < 2 ^ 64) (hb : b < 2 ^ 64) : lN a ^^^ lN b = lN (a ^^^ b) := by
  apply wb_inj
  rw [Int64.toBitVec_xor, wb_tb, wb_tb, wb_tb]
  apply BitVec.eq_of_toNat_eq
  rw [BitVec.toNat_xor, BitVec.toNat_ofNat, BitVec.toNat_ofNat, BitVec.toNat_ofNat, Nat.mod_eq_of_lt ha, Nat.mod_eq_of_lt hb, Nat.mod_eq_of_lt (Nat.xor_lt_two_pow ha hb)]
theorem ni_mod (n : Nat) : nI n = nI (n % 2 ^ 32) := Int32.toBitVec_inj.mp (by
  show BitVec.ofNat 32 _ = BitVec.ofNat 32 _
  apply BitVec.eq_of_toNat_eq
  rw [BitVec.toNat_ofNat, BitVec.toNat_ofNat, Nat.mod_mod])
theorem ni_and (n : Nat) {m : Int32} (k : Nat) (hk : k ≤ 32) (hm : m.toBitVec.toNat = 2 ^ k - 1) : nI n &&& m = nI (n % 2 ^ k) := by
  rw [pk_and (nI n) k hm]
  congr 1
  have : (nI n).toBitVec.toNat = n % 2 ^ 32 := by
    show (BitVec.ofNat 32 n).toNat = _
    rw [BitVec.toNat_ofNat]
  rw [this, Nat.mod_mod_of_dvd _ (Nat.pow_dvd_pow 2 hk)]
theorem nat_xor_hi {k lo q z : Nat} (h : lo < 2 ^ k) : (2 ^ k * q + lo) ^^^ (2 ^ k * z) = 2 ^ k * (q ^^^ z) + lo := by
  apply Nat.eq_of_testBit_eq
  intro i
  rw [Nat.testBit_xor, Nat.testBit_two_pow_mul_add _ h, Nat.testBit_two_pow_mul_add _ h]
  have h2 := Nat.testBit_two_pow_mul_add (i := k) (b := 0) z (Nat.pow_pos (by decide)) i
  rw [Nat.add_zero] at h2
  rw [h2]
  by_cases hi : i < k
  · simp [hi]
  · simp [hi, Nat.testBit_xor]
theorem nat_xor_lo {k x z hi : Nat} (hx : x < 2 ^ k) (hz : z < 2 ^ k) : (2 ^ k * hi + x) ^^^ z = 2 ^ k * hi + (x ^^^ z) := by
  apply Nat.eq_of_testBit_eq
  intro i
  rw [Nat.testBit_xor, Nat.testBit_two_pow_mul_add _ hx, Nat.testBit_two_pow_mul_add _ (Nat.xor_lt_two_pow hx hz)]
  by_cases h : i < k
  · simp [h, Nat.testBit_xor]
  · simp only [h, if_false]
    rw [Nat.testBit_lt_two_pow (Nat.lt_of_lt_of_le hz (Nat.pow_le_pow_right (by decide) (Nat.le_of_not_lt h)))]
    simp
theorem nat_or_add {k a q : Nat} (h : a < 2 ^ k) : a ||| (q * 2 ^ k) = a + q * 2 ^ k := by
  have := Nat.two_pow_add_eq_or_of_lt h q
  rw [Nat.or_comm, Nat.mul_comm q, ← this, Nat.add_comm]
end
section
/-! THE PICTURE: the program (a table of numbers), a STATE, STEPS, a look. Both sides are tied to it. -/
abbrev Cf : Type := Nat → Nat → Nat
abbrev cNV (c : Cf) : Nat := c 0 0
abbrev cNA (c : Cf) : Nat := c 0 1
abbrev cNF (c : Cf) : Nat := c 0 2
abbrev cBeg (c : Cf) (i : Nat) : Nat := c 1 i
abbrev cFr (c : Cf) (i : Nat) : Nat := c 2 i
abbrev cTo (c : Cf) (i : Nat) : Nat := c 3 i
abbrev cWt (c : Cf) (i : Nat) : Nat := c 4 i
abbrev cFT (c : Cf) (i : Nat) : Nat := c 5 i
abbrev cFV (c : Cf) (i : Nat) : Nat := c 6 i
abbrev cSet (c : Cf) (i : Nat) : Nat := c 7 i
abbrev cTab (c : Cf) (i : Nat) : Nat := c 8 i
def cOK (c : Cf) : Prop := (cNV c ≤ 5 ∧ cNA c ≤ 8 ∧ cNF c ≤ 4) ∧ (∀ i, i < cNV c → cBeg c i < 16) ∧ (∀ i, i < cNA c → cFr c i < cNV c ∧ cTo c i < cNV c ∧ cWt c i < 16) ∧ (∀ i, i < cNF c → cFT c i < cNV c ∧ cFV c i < 16) ∧ (cSet c 0 ≤ 9 ∧ cSet c 1 ≤ 4 ∧ cSet c 2 ≤ 1 ∧ 1 ≤ cSet c 3 ∧ cSet c 3 ≤ 16 ∧ cSet c 4 ≤ 1 ∧ cSet c 5 ≤ 2) ∧ (∀ i, i < 256 → cTab c i < 16)
def aFold (c : Cf) (a b : Nat) : Nat :=
  if cSet c 0 = 0 then (a + b) % 16 else if cSet c 0 = 1 then (if b < a then b else a) else if cSet c 0 = 2 then (if a < b then b else a) else if cSet c 0 = 3 then a ^^^ b else if cSet c 0 = 4 then b
  else if cSet c 0 = 5 then a else if cSet c 0 = 6 then (2 * a + b) % 16 else if cSet c 0 = 7 then a &&& b else if cSet c 0 = 8 then a ||| b else cTab c (16 * a + b)
def aOut (c : Cf) (y w : Nat) : Nat :=
  if cSet c 1 = 0 then y else if cSet c 1 = 1 then (y + w) % 16 else if cSet c 1 = 2 then (if w < y then w else y) else if cSet c 1 = 3 then (if y < w then w else y) else (y * w) % 16
/-- VALUES, how often SENT, which FIRST MESSAGES came (0, 1), DOUBLES left, what is under way on each ARC -/
abbrev AS : Type := List Nat × List Nat × List Nat × Nat × List (List Nat)
abbrev sV (a : AS) : List Nat := a.1
abbrev sS (a : AS) : List Nat := a.2.1
abbrev sC (a : AS) : List Nat := a.2.2.1
abbrev sD (a : AS) : Nat := a.2.2.2.1
abbrev sR (a : AS) : List (List Nat) := a.2.2.2.2
def insP (row : List Nat) (m : Nat) : Nat → Nat
  | 0 => 0
  | p + 1 => if m < row.getD p 0 then insP row m p else p + 1
def aPutP (mode : Nat) (row : List Nat) (m : Nat) : Nat := if mode = 1 then row.length else insP row m row.length
def aPut (mode : Nat) (row : List Nat) (m : Nat) : List Nat := row.take (aPutP mode row m) ++ m :: row.drop (aPutP mode row m)
/-- y is sent from v over the ARCS below i that stay -/
def aSend (c : Cf) (stay : Nat → Bool) (v y : Nat) : Nat → List (List Nat) → List (List Nat)
  | 0, r => r
  | i + 1, r => if cFr c i = v ∧ stay i = true then (aSend c stay v y i r).set i (aPut (cSet c 4) ((aSend c stay v y i r).getD i []) (aOut c y (cWt c i))) else aSend c stay v y i r
def aDeliver (c : Cf) (stay : Nat → Bool) (a : AS) (v m : Nat) : AS :=
  if (aFold c ((sV a).getD v 0) m ≠ (sV a).getD v 0 ∨ cSet c 2 = 1) ∧ (sS a).getD v 0 < cSet c 3 then
    ((sV a).set v (aFold c ((sV a).getD v 0) m), (sS a).set v ((sS a).getD v 0 + 1), sC a, sD a, aSend c stay v (aFold c ((sV a).getD v 0) m) (cNA c) (sR a))
  else ((sV a).set v (aFold c ((sV a).getD v 0) m), sS a, sC a, sD a, sR a)
def aDel (row : List Nat) (p : Nat) : List Nat := row.take p ++ row.drop (p + 1)
def aMsg (c : Cf) (a : AS) (src p : Nat) : Nat := if 100 ≤ src then cFV c (src - 100) else ((sR a).getD src []).getD p 0
def aTgt (c : Cf) (src : Nat) : Nat := if 100 ≤ src then cFT c (src - 100) else cTo c src
def aTake (a : AS) (src p d : Nat) : AS :=
  if d = 1 then (sV a, sS a, sC a, sD a - 1, sR a)
  else if 100 ≤ src then (sV a, sS a, (sC a).set (src - 100) 1, sD a, sR a)
  else (sV a, sS a, sC a, sD a, (sR a).set src (aDel ((sR a).getD src []) p))
def aStep (c : Cf) (stay : Nat → Bool) (a : AS) (src p d : Nat) : AS := aDeliver c stay (aTake a src p d) (aTgt c src) (aMsg c a src p)
def aManners (a : AS) : List Nat := if 0 < sD a then [0, 1] else [0]
def aIs (c : Cf) (row : List Nat) (p : Nat) : Bool := decide (p = 0 ∨ (cSet c 4 = 0 ∧ row.getD p 0 ≠ row.getD (p - 1) 0))
def aFirsts (a : AS) (f : Nat) : List (Nat × Nat × Nat) := if (sC a).getD f 0 = 0 then (aManners a).map (fun d => (100 + f, 0, d)) else []
def aPlace (c : Cf) (a : AS) (i p : Nat) : List (Nat × Nat × Nat) := if aIs c ((sR a).getD i []) p = true then (aManners a).map (fun d => (i, p, d)) else []
def aArc (c : Cf) (a : AS) (i : Nat) : List (Nat × Nat × Nat) := (List.range ((sR a).getD i []).length).flatMap (aPlace c a i)
def aSteps (c : Cf) (a : AS) : List (Nat × Nat × Nat) := (List.range (cNF c)).flatMap (aFirsts a) ++ (List.range (cNA c)).flatMap (aArc c a)
/-- what a look found: each STATE, by which STEP (from which STATE, its source, VALUE, doubled); whether it was full -/
abbrev AE : Type := AS × Nat × Nat × Nat × Nat
abbrev BS : Type := List AE × Bool
def aPush (n : Nat) (B : BS) (x : AE) : BS := if x.1 ∈ B.1.map (fun e => e.1) then B else if B.1.length = n then (B.1, true) else (B.1 ++ [x], false)
def aVisit (c : Cf) (stay : Nat → Bool) (n s : Nat) (a : AS) (B : BS) (t : Nat × Nat × Nat) : BS :=
  if B.2 = true then B else aPush n B (aStep c stay a t.1 t.2.1 t.2.2, s, t.1, aMsg c a t.1 t.2.1, t.2.2)
def aGo (c : Cf) (stay : Nat → Bool) (n s : Nat) (a : AS) (B : BS) (l : List (Nat × Nat × Nat)) : BS := l.foldl (aVisit c stay n s a) B
def aBegin (c : Cf) : AS := ((List.range 5).map (fun v => if v < cNV c then cBeg c v else 0), List.replicate 5 0, List.replicate 4 0, cSet c 5, List.replicate 8 [])
def aSt (B : BS) (s : Nat) : AS := (B.1.map (fun e => e.1)).getD s ([], [], [], 0, [])
def aLoop (c : Cf) (stay : Nat → Bool) (n : Nat) : Nat → Nat → BS → BS
  | 0, _, B => B
  | f + 1, s, B => if s < B.1.length ∧ B.2 = false then aLoop c stay n f (s + 1) (aGo c stay n s (aSt B s) B (aSteps c (aSt B s))) else B
def aLook (c : Cf) (stay : Nat → Bool) (n : Nat) : BS := aLoop c stay n 601 0 ([(aBegin c, 0, 0, 0, 0)], false)
def aPend (c : Cf) (a : AS) : Nat := ((List.range (cNF c)).filter (fun f => decide ((sC a).getD f 0 = 0))).length + ((sR a).map List.length).sum
/-- the places of the ENDS among the STATES -/
def aIsEnd (c : Cf) (L : List AE) (x : AS) : Bool := decide (aPend c x = 0) && !(L.any (fun e => decide (aPend c e.1 = 0) && decide (sV e.1 = sV x)))
def aEnds (c : Cf) : List AE → List AE → Nat → List Nat
  | _, [], _ => []
  | seen, e :: l, k => (if aIsEnd c seen e.1 = true then [k] else []) ++ aEnds c (seen ++ [e]) l (k + 1)
def aDead (c : Cf) (L : List AE) : Nat := (L.filter (fun e => decide (aPend c e.1 = 0))).length
def aMost (c : Cf) (L : List AE) : Nat := L.foldl (fun k e => if k < aPend c e.1 then aPend c e.1 else k) 0
/-! a STATE that can be: the lengths and bounds -/
def sOK (c : Cf) (a : AS) : Prop := (sV a).length = 5 ∧ (sS a).length = 5 ∧ (sC a).length = 4 ∧ (sR a).length = 8 ∧ (∀ d ∈ sV a, d < 16) ∧ (∀ d ∈ sS a, d ≤ 16) ∧ (∀ d ∈ sC a, d < 2) ∧ sD a ≤ 2 ∧
  (∀ i, cNF c ≤ i → (sC a).getD i 0 = 0) ∧ (∀ r ∈ sR a, ∀ d ∈ r, d < 16) ∧ (∀ i, i < cNA c → ((sR a).getD i []).length ≤ (sS a).getD (cFr c i) 0) ∧ (∀ i, cNA c ≤ i → (sR a).getD i [] = [])
end
section
/-! the class's STATE in longs -/
def eH2 (a : AS) : Nat := dig 2 (sC a) + 2 ^ 4 * sD a
def eH1 (a : AS) : Nat := dig 32 (sS a) + 2 ^ 25 * eH2 a
def eHead (a : AS) : Nat := dig 16 (sV a) + 2 ^ 20 * eH1 a
def eLen (a : AS) : Nat := dig 32 ((sR a).map List.length)
def eRow (a : AS) (i : Nat) : Nat := dig 16 ((sR a).getD i [])
def cRep (a : AS) (hd ln : Int64) (rw : Nat → Int64) : Prop := hd = lN (eHead a) ∧ ln = lN (eLen a) ∧ ∀ i, i < 8 → rw i = lN (eRow a i)
/-! what sOK gives -/
section SOK
variable {c : Cf} {a : AS}
theorem sOK.lV (h : sOK c a) : (sV a).length = 5 := h.1
theorem sOK.lS (h : sOK c a) : (sS a).length = 5 := h.2.1
theorem sOK.lC (h : sOK c a) : (sC a).length = 4 := h.2.2.1
theorem sOK.lR (h : sOK c a) : (sR a).length = 8 := h.2.2.2.1
theorem sOK.bV (h : sOK c a) : ∀ d ∈ sV a, d < 16 := h.2.2.2.2.1
theorem sOK.bS (h : sOK c a) : ∀ d ∈ sS a, d ≤ 16 := h.2.2.2.2.2.1
theorem sOK.bC (h : sOK c a) : ∀ d ∈ sC a, d < 2 := h.2.2.2.2.2.2.1
theorem sOK.bD (h : sOK c a) : sD a ≤ 2 := h.2.2.2.2.2.2.2.1
theorem sOK.cHi (h : sOK c a) : ∀ i, cNF c ≤ i → (sC a).getD i 0 = 0 := h.2.2.2.2.2.2.2.2.1
theorem sOK.bR (h : sOK c a) : ∀ r ∈ sR a, ∀ d ∈ r, d < 16 := h.2.2.2.2.2.2.2.2.2.1
theorem sOK.rS (h : sOK c a) : ∀ i, i < cNA c → ((sR a).getD i []).length ≤ (sS a).getD (cFr c i) 0 := h.2.2.2.2.2.2.2.2.2.2.1
theorem sOK.rHi (h : sOK c a) : ∀ i, cNA c ≤ i → (sR a).getD i [] = [] := h.2.2.2.2.2.2.2.2.2.2.2
end SOK
theorem getD_mem {α : Type} {l : List α} {i : Nat} {d : α} (h : i < l.length) : l.getD i d ∈ l := by
  rw [List.getD_eq_getElem?_getD, List.getElem?_eq_getElem h]
  exact List.getElem_mem h
theorem getD_all {l : List Nat} {B : Nat} (h : ∀ d ∈ l, d < B) (hB : 0 < B) (i : Nat) : l.getD i 0 < B := by
  by_cases hi : i < l.length
  · exact h _ (getD_mem hi)
  · rw [List.getD_eq_getElem?_getD, List.getElem?_eq_none (by omega)]
    exact hB
theorem getD_le {l : List Nat} {B : Nat} (h : ∀ d ∈ l, d ≤ B) (i : Nat) : l.getD i 0 ≤ B := by
  by_cases hi : i < l.length
  · exact h _ (getD_mem hi)
  · rw [List.getD_eq_getElem?_getD, List.getElem?_eq_none (by omega)]
    exact Nat.zero_le _
theorem getD_set_eq {α : Type} {l : List α} {i : Nat} {x d : α} (h : i < l.length) : (l.set i x).getD i d = x := by
  rw [List.getD_eq_getElem?_getD, List.getElem?_set_self h]; rfl
theorem getD_set_ne {α : Type} {l : List α} {i j : Nat} {x d : α} (h : i ≠ j) : (l.set i x).getD j d = l.getD j d := by
  rw [List.getD_eq_getElem?_getD, List.getElem?_set_ne h, ← List.getD_eq_getElem?_getD]
section EH
variable {c : Cf} {a : AS}
theorem sOK.b32 (h : sOK c a) : ∀ d ∈ sS a, d < 32 := fun d hd => by have := h.bS d hd; omega
theorem sOK.rw16 (h : sOK c a) (i : Nat) : ∀ d ∈ (sR a).getD i [], d < 16 := by
  intro d hd
  by_cases hi : i < (sR a).length
  · exact h.bR _ (getD_mem hi) d hd
  · rw [List.getD_eq_getElem?_getD, List.getElem?_eq_none (by omega)] at hd
    cases hd
theorem sOK.len16 (h : sOK c a) (i : Nat) : ((sR a).getD i []).length ≤ 16 := by
  by_cases hi : i < cNA c
  · exact Nat.le_trans (h.rS i hi) (getD_le h.bS _)
  · rw [h.rHi i (by omega)]; exact Nat.zero_le _
theorem eV_lt (h : sOK c a) : dig 16 (sV a) < 2 ^ 20 := by
  have := dig_lt (B := 16) (by decide) (sV a) h.bV
  rw [h.lV] at this; exact this
theorem eS_lt (h : sOK c a) : dig 32 (sS a) < 2 ^ 25 := by
  have := dig_lt (B := 32) (by decide) (sS a) h.b32
  rw [h.lS] at this; exact this
theorem eC_lt (h : sOK c a) : dig 2 (sC a) < 2 ^ 4 := by
  have := dig_lt (B := 2) (by decide) (sC a) h.bC
  rw [h.lC] at this; exact this
theorem eH_lt (h : sOK c a) : eHead a < 2 ^ 51 := by
  have h1 := eV_lt h
  have h2 := eS_lt h
  have h3 := eC_lt h
  have h4 := h.bD
  unfold eHead eH1 eH2
  omega
theorem eH_d1 (h : sOK c a) : eHead a / 2 ^ 20 = eH1 a := by
  have h1 := eV_lt h
  unfold eHead
  omega
theorem eH_d2 (h : sOK c a) : eHead a / 2 ^ 45 = eH2 a := by
  have h1 := eV_lt h
  have h2 := eS_lt h
  unfold eHead eH1
  omega
theorem pow4 (v : Nat) : 2 ^ (4 * v) = 16 ^ v := by rw [Nat.pow_mul]
theorem pow5 (v : Nat) : 2 ^ (5 * v) = 32 ^ v := by rw [Nat.pow_mul]
theorem eH_val (h : sOK c a) {v : Nat} (hv : v < 5) : eHead a / 2 ^ (4 * v) % 16 = (sV a).getD v 0 := by
  have := dig_get (B := 16) (by decide) (sV a) (eH1 a) v h.bV (by rw [h.lV]; exact hv)
  rw [h.lV] at this
  rw [pow4]; exact this
theorem eH_sent (h : sOK c a) {v : Nat} (hv : v < 5) : eHead a / 2 ^ (20 + 5 * v) % 32 = (sS a).getD v 0 := by
  have := dig_get (B := 32) (by decide) (sS a) (eH2 a) v h.b32 (by rw [h.lS]; exact hv)
  rw [h.lS] at this
  rw [Nat.pow_add, ← Nat.div_div_eq_div_mul, eH_d1 h, pow5]; exact this
theorem eH_came (h : sOK c a) {f : Nat} (hf : f < 4) : eHead a / 2 ^ (45 + f) % 2 = (sC a).getD f 0 := by
  have := dig_get (B := 2) (by decide) (sC a) (sD a) f h.bC (by rw [h.lC]; exact hf)
  rw [h.lC] at this
  rw [Nat.pow_add, ← Nat.div_div_eq_div_mul, eH_d2 h]; exact this
theorem eH_dbl (h : sOK c a) : eHead a / 2 ^ 49 % 4 = sD a := by
  have h3 := eC_lt h
  have h4 := h.bD
  have : eHead a / 2 ^ 49 = sD a := by
    rw [show (49 : Nat) = 45 + 4 from rfl, Nat.pow_add, ← Nat.div_div_eq_div_mul, eH_d2 h]
    unfold eH2
    omega
  rw [this]; omega
theorem eH_vals (h : sOK c a) : eHead a % 2 ^ 20 = dig 16 (sV a) := by
  have h1 := eV_lt h
  unfold eHead
  omega
theorem lens_lt (h : sOK c a) : ∀ d ∈ (sR a).map List.length, d < 32 := by
  intro d hd
  obtain ⟨r, hr, rfl⟩ := List.mem_map.mp hd
  obtain ⟨i, hi, rfl⟩ := List.getElem_of_mem hr
  have := h.len16 i
  rw [List.getD_eq_getElem?_getD, List.getElem?_eq_getElem hi] at this
  exact Nat.lt_of_le_of_lt this (by decide)
theorem map_getD_len (l : List (List Nat)) (i : Nat) : (l.map List.length).getD i 0 = (l.getD i []).length := by
  rw [List.getD_eq_getElem?_getD, List.getElem?_map, List.getD_eq_getElem?_getD]
  cases l[i]? <;> rfl
theorem eL_lt (h : sOK c a) : eLen a < 2 ^ 40 := by
  have := dig_lt (B := 32) (by decide) _ (lens_lt h)
  rw [List.length_map, h.lR] at this; exact this
theorem eL_get (h : sOK c a) {i : Nat} (hi : i < 8) : eLen a / 2 ^ (5 * i) % 32 = ((sR a).getD i []).length := by
  have := dig_get0 (B := 32) (by decide) (i := i) (lens_lt h) (by rw [List.length_map, h.lR]; exact hi)
  rw [map_getD_len] at this
  rw [pow5]; exact this
theorem eR_lt (h : sOK c a) (i : Nat) : eRow a i < 2 ^ 64 := by
  have h1 := dig_lt (B := 16) (by decide) _ (h.rw16 i)
  have h2 := h.len16 i
  refine Nat.lt_of_lt_of_le h1 ?_
  rw [← pow4]
  exact Nat.pow_le_pow_right (by decide) (by omega)
theorem eR_get (h : sOK c a) {i p : Nat} (hp : p < ((sR a).getD i []).length) : eRow a i / 2 ^ (4 * p) % 16 = ((sR a).getD i []).getD p 0 := by
  rw [pow4]; exact dig_get0 (by decide) (h.rw16 i) hp
end EH
/-! bits -/
theorem fld_get {h k w : Nat} {M : Int32} (hh : h < 2 ^ 64) (hk : k < 64) (hw : w ≤ 32) (hM : M.toBitVec.toNat = 2 ^ w - 1) : (((lN h).toUInt64 >>> ((nI k).toInt64.toUInt64 &&& Int64.toUInt64 63)).toInt64).toInt32 &&& M = nI (h / 2 ^ k % 2 ^ w) := by
  rw [wb_shr hh hk, lN_i, ni_and _ w hw hM]
theorem xor_dig {h k x y : Nat} (hx : h / 2 ^ k % 16 = x) (hy : y < 16) : (h ^^^ ((x ^^^ y) * 2 ^ k)) + x * 2 ^ k = h + y * 2 ^ k := by
  have e : h = 2 ^ k * (2 ^ 4 * (h / 2 ^ k / 16) + x) + h % 2 ^ k := by
    have h1 := Nat.div_add_mod h (2 ^ k)
    have h2 := Nat.div_add_mod (h / 2 ^ k) 16
    rw [hx] at h2
    rw [show (2 : Nat) ^ 4 = 16 from rfl, h2]
    omega
  have hx16 : x < 16 := by rw [← hx]; exact Nat.mod_lt _ (by decide)
  have hlo : h % 2 ^ k < 2 ^ k := Nat.mod_lt _ (Nat.pow_pos (by decide))
  have hz : (x ^^^ y) < 2 ^ 4 := Nat.xor_lt_two_pow (n := 4) hx16 hy
  have e2 : h ^^^ ((x ^^^ y) * 2 ^ k) = 2 ^ k * (2 ^ 4 * (h / 2 ^ k / 16) + y) + h % 2 ^ k := by
    conv => lhs; lhs; rw [e]
    rw [Nat.mul_comm (x ^^^ y), nat_xor_hi hlo, nat_xor_lo hx16 hz, ← Nat.xor_assoc, Nat.xor_self, Nat.zero_xor]
  rw [e2]
  conv => rhs; lhs; rw [e]
  rw [Nat.mul_add (2 ^ k), Nat.mul_add (2 ^ k), Nat.mul_comm x, Nat.mul_comm y]
  omega
theorem or_dig {h k w b : Nat} (h0 : h / 2 ^ k % 2 ^ w = 0) (hb : b < 2 ^ w) : h ||| (b * 2 ^ k) = h + b * 2 ^ k := by
  have hlo : h % 2 ^ k < 2 ^ k := Nat.mod_lt _ (Nat.pow_pos (by decide))
  have e : h = 2 ^ (k + w) * (h / 2 ^ k / 2 ^ w) + h % 2 ^ k := by
    have h1 := Nat.div_add_mod h (2 ^ k)
    have h2 := Nat.div_add_mod (h / 2 ^ k) (2 ^ w)
    rw [h0, Nat.add_zero] at h2
    rw [Nat.pow_add, Nat.mul_assoc, h2]
    omega
  have hs : 2 ^ k * b + h % 2 ^ k < 2 ^ (k + w) := by
    rw [Nat.pow_add]
    have : 2 ^ k * (b + 1) ≤ 2 ^ k * 2 ^ w := Nat.mul_le_mul_left _ hb
    rw [Nat.mul_add, Nat.mul_one] at this
    omega
  have hlo2 : h % 2 ^ k < 2 ^ (k + w) := Nat.lt_of_lt_of_le hlo (Nat.pow_le_pow_right (by decide) (by omega))
  have e1 := Nat.two_pow_add_eq_or_of_lt hlo2 (h / 2 ^ k / 2 ^ w)
  have e2 := Nat.two_pow_add_eq_or_of_lt hlo b
  have e3 := Nat.two_pow_add_eq_or_of_lt hs (h / 2 ^ k / 2 ^ w)
  conv => lhs; lhs; rw [e, e1]
  rw [Nat.mul_comm b, Nat.or_assoc, Nat.or_comm (h % 2 ^ k), ← e2, ← e3]
  omega
end
section
/-! the methods of State, in the picture's words -/
theorem mul4 (v : Nat) : (4 : Int32) * nI v = nI (4 * v) := pk_mul 4 v
theorem mul5 (v : Nat) : (5 : Int32) * nI v = nI (5 * v) := pk_mul 5 v
theorem add20 (v : Nat) : (20 : Int32) + (5 : Int32) * nI v = nI (20 + 5 * v) := by rw [mul5]; exact nI_add 20 _
theorem add45 (f : Nat) : (45 : Int32) + nI f = nI (45 + f) := nI_add 45 f
theorem fld15 {h k : Nat} (hh : h < 2 ^ 64) (hk : k < 64) : (((lN h).toUInt64 >>> ((nI k).toInt64.toUInt64 &&& Int64.toUInt64 63)).toInt64).toInt32 &&& 15 = nI (h / 2 ^ k % 16) := fld_get (w := 4) hh hk (by decide) (by decide)
theorem fld31 {h k : Nat} (hh : h < 2 ^ 64) (hk : k < 64) : (((lN h).toUInt64 >>> ((nI k).toInt64.toUInt64 &&& Int64.toUInt64 63)).toInt64).toInt32 &&& 31 = nI (h / 2 ^ k % 32) := fld_get (w := 5) hh hk (by decide) (by decide)
theorem fld3 {h k : Nat} (hh : h < 2 ^ 64) (hk : k < 64) : (((lN h).toUInt64 >>> ((nI k).toInt64.toUInt64 &&& Int64.toUInt64 63)).toInt64).toInt32 &&& 3 = nI (h / 2 ^ k % 4) := fld_get (w := 2) hh hk (by decide) (by decide)
theorem lg_eq (x y : Int64) : lg_cmp x y = 0 ↔ x = y := by
  unfold lg_cmp
  constructor
  · intro h
    by_cases h1 : x > y
    · rw [if_pos h1] at h; exact absurd h (by decide)
    · rw [if_neg h1] at h
      by_cases h2 : x = y
      · exact h2
      · rw [if_neg h2] at h; exact absurd h (by decide)
  · intro h
    subst h
    by_cases h1 : x > x
    · exact absurd h1 Int64.lt_irrefl
    · rw [if_neg h1, if_pos rfl]
def popc (b : Nat) : Nat := b % 2 + b / 2 % 2 + b / 4 % 2 + b / 8 % 2
theorem w_bitCount {b : Nat} (hb : b < 16) {post : Int32 → Prop} (hp : post (nI (popc b))) : wp_J13_bitCount_95d88 (lN b) post := by
  show wp_J13_bitCount_95d88_0 post (lN b)
  unfold wp_J13_bitCount_95d88_0
  rintro _ rfl _ rfl _ rfl _ rfl _ rfl _ rfl
  have key : ∀ k : Fin 16, (let x0 := lN k.val; let y1 := (x0 - (((x0.toUInt64 >>> ((1 : Int32).toInt64.toUInt64 &&& Int64.toUInt64 63)).toInt64) &&& 6148914691236517205)); let y2 := ((y1 &&& 3689348814741910323) + (((y1.toUInt64 >>> ((2 : Int32).toInt64.toUInt64 &&& Int64.toUInt64 63)).toInt64) &&& 3689348814741910323)); let y3 := ((y2 + ((y2.toUInt64 >>> ((4 : Int32).toInt64.toUInt64 &&& Int64.toUInt64 63)).toInt64)) &&& 1085102592571150095); let y4 := (y3 + ((y3.toUInt64 >>> ((8 : Int32).toInt64.toUInt64 &&& Int64.toUInt64 63)).toInt64)); let y5 := (y4 + ((y4.toUInt64 >>> ((16 : Int32).toInt64.toUInt64 &&& Int64.toUInt64 63)).toInt64)); let y6 := (y5 + ((y5.toUInt64 >>> ((32 : Int32).toInt64.toUInt64 &&& Int64.toUInt64 63)).toInt64)); (y6.toInt32 &&& 127)) = nI (popc k.val) := by decide +kernel
  exact (key ⟨b, hb⟩).symm ▸ hp
theorem came_countF : ∀ (nf : Fin 5) (x0 x1 x2 x3 : Fin 2), (∀ i : Fin 4, nf.val ≤ i.val → [x0.val, x1.val, x2.val, x3.val].getD i.val 0 = 0) → popc (dig 2 [x0.val, x1.val, x2.val, x3.val]) + ((List.range nf.val).filter (fun f => decide ([x0.val, x1.val, x2.val, x3.val].getD f 0 = 0))).length = nf.val := by decide +kernel
theorem came_count {nf : Nat} (hn : nf ≤ 4) : ∀ {l : List Nat}, l.length = 4 → (∀ d ∈ l, d < 2) → (∀ i, nf ≤ i → l.getD i 0 = 0) → popc (dig 2 l) + ((List.range nf).filter (fun f => decide (l.getD f 0 = 0))).length = nf
  | [x0, x1, x2, x3], _, hb, hz => came_countF ⟨nf, by omega⟩ ⟨x0, hb x0 (by simp)⟩ ⟨x1, hb x1 (by simp)⟩ ⟨x2, hb x2 (by simp)⟩ ⟨x3, hb x3 (by simp)⟩ (fun i hi => hz i.val hi)
section CS
variable {c : Cf} {a : AS} {hd ln : Int64} {rw : Nat → Int64}
theorem eH_64 (h : sOK c a) : eHead a < 2 ^ 64 := Nat.lt_trans (eH_lt h) (by decide)
theorem eL_64 (h : sOK c a) : eLen a < 2 ^ 64 := Nat.lt_trans (eL_lt h) (by decide)
theorem w_valueOf (h : sOK c a) (hr : hd = lN (eHead a)) {v : Nat} (hv : v < 5) {post : Int32 → Prop} (hp : post (nI ((sV a).getD v 0))) : wp_X4_valueOf hd (nI v) post := by
  show wp_X4_valueOf_0 hd post (nI v)
  unfold wp_X4_valueOf_0
  rw [hr, mul4, fld15 (eH_64 h) (by omega), eH_val h hv]
  exact hp
theorem w_sentBy (h : sOK c a) (hr : hd = lN (eHead a)) {v : Nat} (hv : v < 5) {post : Int32 → Prop} (hp : post (nI ((sS a).getD v 0))) : wp_X4_sentBy hd (nI v) post := by
  show wp_X4_sentBy_0 hd post (nI v)
  unfold wp_X4_sentBy_0
  rw [hr, add20, fld31 (eH_64 h) (by omega), eH_sent h hv]
  exact hp
theorem w_doublesLeft (h : sOK c a) (hr : hd = lN (eHead a)) {post : Int32 → Prop} (hp : post (nI (sD a))) : wp_X4_doublesLeft hd post := by
  show wp_X4_doublesLeft_0 hd post
  unfold wp_X4_doublesLeft_0
  rw [hr, show (49 : Int32) = nI 49 from rfl, fld3 (eH_64 h) (by omega), eH_dbl h]
  exact hp
theorem w_allValues (h : sOK c a) (hr : hd = lN (eHead a)) {post : Int32 → Prop} (hp : post (nI (dig 16 (sV a)))) : wp_X4_allValues hd post := by
  show wp_X4_allValues_0 hd post
  unfold wp_X4_allValues_0
  rw [hr, lN_i, ni_and _ 20 (by decide) (by decide), eH_vals h]
  exact hp
theorem w_hasCome (h : sOK c a) (hr : hd = lN (eHead a)) {f : Nat} (hf : f < 4) {post : Int32 → Prop} (hp : post (if (sC a).getD f 0 = 0 then 0 else 1)) : wp_X4_hasCome hd (nI f) post := by
  show wp_X4_hasCome_0 hd post (nI f)
  unfold wp_X4_hasCome_0
  rw [hr, add45, wb_bit (eH_64 h) (by omega), eH_came h hf, show (0 : Int64) = lN 0 from rfl]
  have hb := getD_all h.bC (by decide) f
  constructor
  · intro q
    have := (lN_eq (by omega) (by decide)).mp ((lg_eq _ _).mp q)
    rw [if_pos this] at hp; exact hp
  · intro q
    have : ¬ (sC a).getD f 0 = 0 := fun z => q (by rw [z]; exact (lg_eq _ _).mpr rfl)
    rw [if_neg this] at hp; exact hp
theorem w_underWay (h : sOK c a) (hr : ln = lN (eLen a)) {i : Nat} (hi : i < 8) {post : Int32 → Prop} (hp : post (nI ((sR a).getD i []).length)) : wp_X4_underWay ln (nI i) post := by
  show wp_X4_underWay_0 ln post (nI i)
  unfold wp_X4_underWay_0
  rw [hr, mul5, fld31 (eL_64 h) (by omega), eL_get h hi]
  exact hp
theorem w_messageAt (h : sOK c a) (hr : ∀ i, i < 8 → rw i = lN (eRow a i)) {i p : Nat} (hi : i < 8) (hp0 : p < ((sR a).getD i []).length) {post : Int32 → Prop} (hp : post (nI (((sR a).getD i []).getD p 0))) : wp_X4_messageAt rw (nI i) (nI p) post := by
  show wp_X4_messageAt_0 rw post (nI i) (nI p)
  unfold wp_X4_messageAt_0
  have h16 := h.len16 i
  refine ⟨vp_in_nI hi (by decide), ?_⟩
  rw [nI_clamp (by omega), hr i hi, mul4, fld15 (eR_lt h i) (by omega), eR_get h hp0]
  exact hp
theorem w_change (h : sOK c a) (hr : hd = lN (eHead a)) {v y : Nat} (hv : v < 5) (hy : y < 16) {post : Int64 → Prop} (hp : post (lN (eHead ((sV a).set v y, sS a, sC a, sD a, sR a)))) : wp_X4_change hd (nI v) (nI y) post := by
  show wp_X4_change_0 post (nI v) (nI y) hd
  unfold wp_X4_change_0
  refine w_valueOf h hr hv ?_
  have hx := getD_all h.bV (by decide) v
  have hxy : ((sV a).getD v 0 ^^^ y) < 2 ^ 4 := Nat.xor_lt_two_pow (n := 4) hx hy
  have hk : ((sV a).getD v 0 ^^^ y) * 2 ^ (4 * v) < 2 ^ 64 := by
    have h1 : ((sV a).getD v 0 ^^^ y) * 2 ^ (4 * v) < 2 ^ 4 * 2 ^ (4 * v) := Nat.mul_lt_mul_of_pos_right hxy (Nat.pow_pos (by decide))
    rw [← Nat.pow_add] at h1
    exact Nat.lt_of_lt_of_le h1 (Nat.pow_le_pow_right (by decide) (by omega))
  rw [hr, nx_xor, nI_l (by omega), mul4, wb_shl _ (by omega), lx_xor (eH_64 h) hk]
  have e1 := xor_dig (eH_val h hv) hy
  have e2 := dig_set 16 (sV a) v y (by rw [h.lV]; exact hv)
  have e3 : eHead ((sV a).set v y, sS a, sC a, sD a, sR a) = eHead a ^^^ (((sV a).getD v 0 ^^^ y) * 2 ^ (4 * v)) := by
    have e4 : eHead ((sV a).set v y, sS a, sC a, sD a, sR a) = dig 16 ((sV a).set v y) + 2 ^ 20 * eH1 a := rfl
    have e5 : eHead a = dig 16 (sV a) + 2 ^ 20 * eH1 a := rfl
    rw [← pow4] at e2
    omega
  rw [← e3]
  exact hp
theorem w_countSend (h : sOK c a) (hr : hd = lN (eHead a)) {v : Nat} (hv : v < 5) {post : Int64 → Prop} (hp : post (lN (eHead (sV a, (sS a).set v ((sS a).getD v 0 + 1), sC a, sD a, sR a)))) : wp_X4_countSend hd (nI v) post := by
  show wp_X4_countSend_0 post (nI v) hd
  unfold wp_X4_countSend_0
  rw [hr, add20, show (1 : Int64) = lN 1 from rfl, wb_shl _ (by omega), lN_add]
  have e2 := dig_set 32 (sS a) v ((sS a).getD v 0 + 1) (by rw [h.lS]; exact hv)
  have e3 : eHead (sV a, (sS a).set v ((sS a).getD v 0 + 1), sC a, sD a, sR a) = eHead a + 1 * 2 ^ (20 + 5 * v) := by
    have e4 : eHead (sV a, (sS a).set v ((sS a).getD v 0 + 1), sC a, sD a, sR a) = dig 16 (sV a) + 2 ^ 20 * (dig 32 ((sS a).set v ((sS a).getD v 0 + 1)) + 2 ^ 25 * eH2 a) := rfl
    have e5 : eHead a = dig 16 (sV a) + 2 ^ 20 * (dig 32 (sS a) + 2 ^ 25 * eH2 a) := rfl
    rw [← pow5, Nat.add_mul, Nat.one_mul] at e2
    rw [Nat.one_mul, Nat.pow_add]
    omega
  rw [← e3]
  exact hp
theorem w_markCome (h : sOK c a) (hr : hd = lN (eHead a)) {f : Nat} (hf : f < 4) (h0 : (sC a).getD f 0 = 0) {post : Int64 → Prop} (hp : post (lN (eHead (sV a, sS a, (sC a).set f 1, sD a, sR a)))) : wp_X4_markCome hd (nI f) post := by
  show wp_X4_markCome_0 post (nI f) hd
  unfold wp_X4_markCome_0
  have hk : 1 * 2 ^ (45 + f) < 2 ^ 64 := by rw [Nat.one_mul]; exact Nat.pow_lt_pow_right (by decide) (by omega)
  rw [hr, add45, show (1 : Int64) = lN 1 from rfl, wb_shl _ (by omega), wb_or (eH_64 h) hk, or_dig (w := 1) (by rw [show (2 : Nat) ^ 1 = 2 from rfl, eH_came h hf, h0]) (by decide)]
  have e2 := dig_set 2 (sC a) f 1 (by rw [h.lC]; exact hf)
  have e3 : eHead (sV a, sS a, (sC a).set f 1, sD a, sR a) = eHead a + 1 * 2 ^ (45 + f) := by
    have e4 : eHead (sV a, sS a, (sC a).set f 1, sD a, sR a) = dig 16 (sV a) + 2 ^ 20 * (dig 32 (sS a) + 2 ^ 25 * (dig 2 ((sC a).set f 1) + 2 ^ 4 * sD a)) := rfl
    have e5 : eHead a = dig 16 (sV a) + 2 ^ 20 * (dig 32 (sS a) + 2 ^ 25 * (dig 2 (sC a) + 2 ^ 4 * sD a)) := rfl
    rw [h0] at e2
    rw [Nat.one_mul, Nat.pow_add]
    omega
  rw [← e3]
  exact hp
theorem w_useDouble (h : sOK c a) (hr : hd = lN (eHead a)) (h0 : 0 < sD a) {post : Int64 → Prop} (hp : post (lN (eHead (sV a, sS a, sC a, sD a - 1, sR a)))) : wp_X4_useDouble hd post := by
  show wp_X4_useDouble_0 post hd
  unfold wp_X4_useDouble_0
  have e5 : eHead a = dig 16 (sV a) + 2 ^ 20 * (dig 32 (sS a) + 2 ^ 25 * (dig 2 (sC a) + 2 ^ 4 * sD a)) := rfl
  have e4 : eHead (sV a, sS a, sC a, sD a - 1, sR a) = dig 16 (sV a) + 2 ^ 20 * (dig 32 (sS a) + 2 ^ 25 * (dig 2 (sC a) + 2 ^ 4 * (sD a - 1))) := rfl
  rw [hr, show (562949953421312 : Int64) = lN 562949953421312 from rfl, lN_sub (by omega)]
  have e3 : eHead (sV a, sS a, sC a, sD a - 1, sR a) = eHead a - 562949953421312 := by omega
  rw [← e3]
  exact hp
end CS
end
section
/-! State: loops and rows -/
theorem nI_inc (i : Nat) : nI i + 1 = nI (i + 1) := nI_1 i
theorem nI_dec {i : Nat} (h : 0 < i) : nI i + (-1) = nI (i - 1) := sb_m1 h
theorem nI_s1 {i : Nat} (h : 0 < i) : nI i - 1 = nI (i - 1) := by
  rw [show (1 : Int32) = nI 1 from rfl, pk_sub (by omega)]
theorem w_fillL {n : Nat} (hn : n < 2 ^ 31) {f : Nat → Int64} {x : Int64} {post : (Nat → Int64) → Prop} (hp : ∀ g : Nat → Int64, (∀ j, j < n → g j = x) → post g) : wp_J7_fill_d0a16 n f x post := by
  show wp_J7_fill_d0a16_0 n post x f
  unfold wp_J7_fill_d0a16_0 wp_J7_fill_d0a16_6
  refine ⟨fun k x3 g => ∃ i, i ≤ n ∧ k = n - i ∧ x3 = nI i ∧ ∀ j, j < i → g j = x, n, ⟨0, by omega, rfl, rfl, fun j h => absurd h (Nat.not_lt_zero _)⟩, ?_⟩
  rintro k x3 g ⟨i, hi, rfl, rfl, hg⟩
  unfold bd_J7_fill_d0a16_6
  refine pk_le n i (fun h => ?_) (fun h => ?_) (show Int32.ofNat n = nI n from rfl) rfl hn (by omega)
  · exact hp g (fun j hj => hg j (by omega))
  · refine ⟨vp_in_nI h hn, n - (i + 1), by omega, i + 1, by omega, rfl, nI_inc i, fun j hj => ?_⟩
    rw [nI_clamp (by omega)]
    by_cases e : j = i
    · subst e; exact pk_uLs
    · rw [pk_uLn e]; exact hg j (by omega)
theorem w_fillI {n : Nat} (hn : n < 2 ^ 31) {f : Nat → Int32} {x : Int32} {post : (Nat → Int32) → Prop} (hp : ∀ g : Nat → Int32, (∀ j, j < n → g j = x) → post g) : wp_J7_fill_53178 n f x post := by
  show wp_J7_fill_53178_0 n post x f
  unfold wp_J7_fill_53178_0 wp_J7_fill_53178_5
  refine ⟨fun k x3 g => ∃ i, i ≤ n ∧ k = n - i ∧ x3 = nI i ∧ ∀ j, j < i → g j = x, n, ⟨0, by omega, rfl, rfl, fun j h => absurd h (Nat.not_lt_zero _)⟩, ?_⟩
  rintro k x3 g ⟨i, hi, rfl, rfl, hg⟩
  unfold bd_J7_fill_53178_5
  refine pk_le n i (fun h => ?_) (fun h => ?_) (show Int32.ofNat n = nI n from rfl) rfl hn (by omega)
  · exact hp g (fun j hj => hg j (by omega))
  · refine ⟨vp_in_nI h hn, n - (i + 1), by omega, i + 1, by omega, rfl, nI_inc i, fun j hj => ?_⟩
    rw [nI_clamp (by omega)]
    by_cases e : j = i
    · subst e; exact pk_us
    · rw [pk_un e]; exact hg j (by omega)
def cHi (rw : Nat → Int64) (x : Int64) : Nat → Int64
  | 0 => x
  | i + 1 => ((cHi rw x i ^^^ (((cHi rw x i).toUInt64 >>> ((29 : Int32).toInt64.toUInt64 &&& Int64.toUInt64 63)).toInt64)) ^^^ (rw i)) * (-7046029254386353131)
def cHash (hd ln : Int64) (rw : Nat → Int64) : Int32 := ((cHi rw ((hd ^^^ (ln * (-7046029254386353131))) * (-7046029254386353131)) 8).toUInt64 >>> ((33 : Int32).toInt64.toUInt64 &&& Int64.toUInt64 63)).toInt64.toInt32
theorem cHi_congr {rw rw' : Nat → Int64} (x : Int64) : ∀ {n : Nat}, (∀ i, i < n → rw i = rw' i) → cHi rw x n = cHi rw' x n
  | 0, _ => rfl
  | n + 1, h => by
    unfold cHi
    rw [cHi_congr x (n := n) (fun i hi => h i (by omega)), h n (by omega)]
theorem cHash_congr {hd ln : Int64} {rw rw' : Nat → Int64} (h : ∀ i, i < 8 → rw i = rw' i) : cHash hd ln rw = cHash hd ln rw' := by
  unfold cHash
  rw [cHi_congr _ h]
theorem w_hash {hd ln : Int64} {rw : Nat → Int64} {post : Int32 → Prop} (hp : post (cHash hd ln rw)) : wp_X4_hash hd ln rw post := by
  show wp_X4_hash_0 hd ln rw post
  unfold wp_X4_hash_0
  rintro y1 rfl
  unfold wp_X4_hash_20
  refine ⟨fun k x1 x3 => ∃ i, i ≤ 8 ∧ k = 8 - i ∧ x3 = nI i ∧ x1 = cHi rw ((hd ^^^ (ln * (-7046029254386353131))) * (-7046029254386353131)) i, 8, ⟨0, by omega, rfl, rfl, rfl⟩, ?_⟩
  rintro k x1 x3 ⟨i, hi, rfl, rfl, rfl⟩
  unfold bd_X4_hash_20
  refine pk_le 8 i (fun h => ?_) (fun h => ?_) rfl rfl (by decide) (by omega)
  · have : i = 8 := by omega
    subst this
    exact hp
  · refine ⟨vp_in_nI h (by decide), ?_⟩
    rintro y3 rfl
    rw [nI_clamp (by omega)]
    exact ⟨8 - (i + 1), by omega, i + 1, by omega, rfl, nI_inc i, rfl⟩
theorem sum_take {l : List (List Nat)} {i : Nat} (h : i < l.length) : ((l.take (i + 1)).map List.length).sum = ((l.take i).map List.length).sum + (l.getD i []).length := by
  rw [List.take_add_one, List.getElem?_eq_getElem h, List.map_append, List.sum_append, List.getD_eq_getElem?_getD, List.getElem?_eq_getElem h]
  simp
section CT
variable {c : Cf} {a : AS} {hd ln : Int64} {rw : Nat → Int64}
theorem sum_len_le (h : sOK c a) : ∀ {i : Nat}, i ≤ 8 → (((sR a).take i).map List.length).sum ≤ 16 * i
  | 0, _ => by simp
  | i + 1, hi => by
    rw [sum_take (by rw [h.lR]; omega)]
    have := sum_len_le h (i := i) (by omega)
    have := h.len16 i
    omega
theorem w_pending (hc : cOK c) (h : sOK c a) (hr : hd = lN (eHead a)) (hr2 : ln = lN (eLen a)) {post : Int32 → Prop} (hp : post (nI (aPend c a))) : wp_X4_pending hd ln (nI (cNF c)) post := by
  show wp_X4_pending_0 hd ln post (nI (cNF c))
  unfold wp_X4_pending_0
  have hC := eC_lt h
  have e1 : (((hd.toUInt64 >>> ((45 : Int32).toInt64.toUInt64 &&& Int64.toUInt64 63)).toInt64) &&& 15) = lN (dig 2 (sC a)) := by
    rw [hr, show (45 : Int32) = nI 45 from rfl, wb_shr (eH_64 h) (by omega), eH_d2 h, show (15 : Int64) = lN (2 ^ 4 - 1) from rfl, wb_mask (by unfold eH2; have := h.bD; omega) (by omega)]
    congr 1
    unfold eH2
    omega
  rw [e1]
  refine w_bitCount hC ?_
  have cc := came_count hc.1.2.2 h.lC h.bC h.cHi
  rw [pk_sub (by omega)]
  have e0 : ((List.range (cNF c)).filter (fun f => decide ((sC a).getD f 0 = 0))).length = cNF c - popc (dig 2 (sC a)) := by omega
  unfold wp_X4_pending_19
  refine ⟨fun k x2 x3 => ∃ i, i ≤ 8 ∧ k = 8 - i ∧ x3 = nI i ∧ x2 = nI (cNF c - popc (dig 2 (sC a)) + (((sR a).take i).map List.length).sum), 8, ⟨0, by omega, rfl, rfl, by simp⟩, ?_⟩
  rintro k x2 x3 ⟨i, hi, rfl, rfl, rfl⟩
  unfold bd_X4_pending_19
  refine pk_le 8 i (fun h8 => ?_) (fun h8 => ?_) rfl rfl (by decide) (by omega)
  · have : i = 8 := by omega
    subst this
    rw [List.take_of_length_le (by rw [h.lR]; omega), ← e0]
    exact hp
  · refine w_underWay h hr2 h8 ?_
    refine ⟨8 - (i + 1), by omega, i + 1, by omega, rfl, nI_inc i, ?_⟩
    rw [nI_add, sum_take (by rw [h.lR]; omega), Nat.add_assoc]
theorem map_set_len (l : List (List Nat)) (i : Nat) (r : List Nat) : (l.set i r).map List.length = (l.map List.length).set i r.length := by rw [List.map_set]
theorem rows_set (h : sOK c a) {i j : Nat} (hi : i < 8) (r : List Nat) : (sR a |>.set i r).getD j [] = if j = i then r else (sR a).getD j [] := by
  by_cases e : j = i
  · subst e; rw [if_pos rfl, getD_set_eq (by rw [h.lR]; exact hi)]
  · rw [if_neg e, getD_set_ne (fun z => e z.symm)]
theorem w_take (h : sOK c a) (hr : cRep a hd ln rw) {i p : Nat} (hi : i < 8) (hp0 : p < ((sR a).getD i []).length) {post : Int64 → (Nat → Int64) → Prop}
    (hp : ∀ ln' rw', cRep (sV a, sS a, sC a, sD a, (sR a).set i (aDel ((sR a).getD i []) p)) hd ln' rw' → post ln' rw') : wp_X4_take ln rw (nI i) (nI p) post := by
  show wp_X4_take_0 post (nI i) (nI p) ln rw
  unfold wp_X4_take_0
  have h16 := h.len16 i
  have hin : vp_in (nI i) 8 := vp_in_nI hi (by decide)
  refine ⟨hin, ?_⟩
  rintro y2 e2 y3 e3 y4 e4
  refine ⟨hin, ?_⟩
  rw [nI_clamp (by omega), hr.2.2 i hi] at e2
  have hR := eR_lt h i
  have hP : 2 ^ (4 * p) < 2 ^ 64 := Nat.pow_lt_pow_right (by decide) (by omega)
  have hP1 : 1 ≤ 2 ^ (4 * p) := Nat.one_le_two_pow
  have f3 : y3 = lN (dig 16 (((sR a).getD i []).take p)) := by
    rw [e3, e2, mul4, show (1 : Int64) = lN 1 from rfl, wb_shl _ (by omega), Nat.one_mul, lN_sub hP1, wb_mask hR (by omega), pow4]
    exact congrArg lN (dig_mod (by decide) (h.rw16 i) (by omega))
  have hdr : eRow a i / 2 ^ (4 * p) / 2 ^ 4 = dig 16 (((sR a).getD i []).drop (p + 1)) := by
    rw [Nat.div_div_eq_div_mul, ← Nat.pow_add, show 4 * p + 4 = 4 * (p + 1) by omega, pow4]
    exact dig_div (by decide) (h.rw16 i) (by omega)
  have f4 : y4 = lN (dig 16 (((sR a).getD i []).drop (p + 1)) * 2 ^ (4 * p)) := by
    rw [e4, e2, mul4, wb_shr hR (by omega), show (4 : Int32) = nI 4 from rfl, wb_shr (Nat.lt_of_le_of_lt (Nat.div_le_self _ _) hR) (by omega), wb_shl _ (by omega), hdr]
  have hb3 := dig_lt (B := 16) (by decide) (((sR a).getD i []).take p) (fun d hd => h.rw16 i d (List.mem_of_mem_take hd))
  rw [List.length_take, Nat.min_eq_left (by omega), ← pow4] at hb3
  have hsum : dig 16 (aDel ((sR a).getD i []) p) = dig 16 (((sR a).getD i []).take p) + dig 16 (((sR a).getD i []).drop (p + 1)) * 2 ^ (4 * p) := by
    unfold aDel
    rw [dig_del _ (by omega), pow4, Nat.mul_comm]
  have hlt : dig 16 (((sR a).getD i []).drop (p + 1)) * 2 ^ (4 * p) < 2 ^ 64 := by
    rw [← hdr]
    refine Nat.lt_of_le_of_lt (Nat.le_trans (Nat.mul_le_mul_right _ (Nat.div_le_self _ _)) ?_) hR
    exact Nat.div_mul_le_self _ _
  have f5 : y3 ||| y4 = lN (dig 16 (aDel ((sR a).getD i []) p)) := by
    rw [f3, f4, wb_or (Nat.lt_trans hb3 hP) hlt, nat_or_add hb3, hsum]
  refine hp _ _ ⟨hr.1, ?_, fun j hj => ?_⟩
  · have hl := eL_get h hi
    have e6 := dig_set 32 ((sR a).map List.length) i (aDel ((sR a).getD i []) p).length (by rw [List.length_map, h.lR]; exact hi)
    rw [map_getD_len, ← map_set_len] at e6
    have e7 : (aDel ((sR a).getD i []) p).length + 1 = ((sR a).getD i []).length := by
      unfold aDel
      rw [List.length_append, List.length_take, List.length_drop]
      omega
    rw [← e7, Nat.add_mul, Nat.one_mul, ← pow5] at e6
    rw [hr.2.1, mul5, show (1 : Int64) = lN 1 from rfl, wb_shl _ (by omega), Nat.one_mul, lN_sub (by unfold eLen; omega)]
    congr 1
    unfold eLen
    show dig 32 ((sR a).map List.length) - _ = dig 32 (((sR a).set i (aDel ((sR a).getD i []) p)).map List.length)
    omega
  · rw [nI_clamp (by omega)]
    show _ = lN (dig 16 (((sR a).set i (aDel ((sR a).getD i []) p)).getD j []))
    rw [rows_set h hi]
    by_cases e : j = i
    · subst e; rw [if_pos rfl, pk_uLs, f5]
    · rw [if_neg e, pk_uLn e]; exact hr.2.2 j hj
theorem w_put47 (h : sOK c a) (hr : cRep a hd ln rw) {i p m : Nat} (hi : i < 8) (hl15 : ((sR a).getD i []).length ≤ 15) (hp0 : p ≤ ((sR a).getD i []).length) (hm : m < 16) {post : Int64 → (Nat → Int64) → Prop}
    (hp : ∀ ln' rw', cRep (sV a, sS a, sC a, sD a, (sR a).set i (((sR a).getD i []).take p ++ m :: ((sR a).getD i []).drop p)) hd ln' rw' → post ln' rw') : wp_X4_put_47 post (nI i) (nI m) (nI p) ln rw := by
  unfold wp_X4_put_47
  have hin : vp_in (nI i) 8 := vp_in_nI hi (by decide)
  refine ⟨hin, ?_⟩
  rintro y4 e4 y5 e5 y6 e6
  refine ⟨hin, ?_⟩
  rw [nI_clamp (by omega), hr.2.2 i hi] at e4
  have hR := eR_lt h i
  have hP : 2 ^ (4 * p) < 2 ^ 64 := Nat.pow_lt_pow_right (by decide) (by omega)
  have hP1 : 1 ≤ 2 ^ (4 * p) := Nat.one_le_two_pow
  have f5 : y5 = lN (dig 16 (((sR a).getD i []).take p)) := by
    rw [e5, e4, mul4, show (1 : Int64) = lN 1 from rfl, wb_shl _ (by omega), Nat.one_mul, lN_sub hP1, wb_mask hR (by omega), pow4]
    exact congrArg lN (dig_mod (by decide) (h.rw16 i) (by omega))
  have hdr : eRow a i / 2 ^ (4 * p) = dig 16 (((sR a).getD i []).drop p) := by
    rw [pow4]; exact dig_div (by decide) (h.rw16 i) (by omega)
  have f6 : y6 = lN (dig 16 (((sR a).getD i []).drop p) * 2 ^ (4 * p + 4)) := by
    rw [e6, e4, mul4, wb_shr hR (by omega), wb_shl _ (by omega), show (4 : Int32) = nI 4 from rfl, wb_shl _ (by omega), hdr, Nat.mul_assoc, ← Nat.pow_add]
  have hb5 := dig_lt (B := 16) (by decide) (((sR a).getD i []).take p) (fun d hd => h.rw16 i d (List.mem_of_mem_take hd))
  rw [List.length_take, Nat.min_eq_left (by omega), ← pow4] at hb5
  have hmP : m * 2 ^ (4 * p) < 2 ^ 64 := by
    have h1 : m * 2 ^ (4 * p) < 2 ^ 4 * 2 ^ (4 * p) := Nat.mul_lt_mul_of_pos_right hm (Nat.pow_pos (by decide))
    rw [← Nat.pow_add] at h1
    exact Nat.lt_of_lt_of_le h1 (Nat.pow_le_pow_right (by decide) (by omega))
  have hb2 : dig 16 (((sR a).getD i []).take p) + m * 2 ^ (4 * p) < 2 ^ (4 * p + 4) := by
    have : (m + 1) * 2 ^ (4 * p) ≤ 2 ^ 4 * 2 ^ (4 * p) := Nat.mul_le_mul_right _ hm
    rw [Nat.add_mul, Nat.one_mul] at this
    rw [Nat.pow_add, Nat.mul_comm (2 ^ (4 * p))]
    omega
  have hdl := dig_lt (B := 16) (by decide) (((sR a).getD i []).drop p) (fun d hd => h.rw16 i d (List.mem_of_mem_drop hd))
  rw [List.length_drop, ← pow4] at hdl
  have hlt : dig 16 (((sR a).getD i []).drop p) * 2 ^ (4 * p + 4) < 2 ^ 64 := by
    have h1 : dig 16 (((sR a).getD i []).drop p) * 2 ^ (4 * p + 4) < 2 ^ (4 * (((sR a).getD i []).length - p)) * 2 ^ (4 * p + 4) := Nat.mul_lt_mul_of_pos_right hdl (Nat.pow_pos (by decide))
    rw [← Nat.pow_add] at h1
    exact Nat.lt_of_lt_of_le h1 (Nat.pow_le_pow_right (by decide) (by omega))
  have hP4 : 2 ^ (4 * p + 4) ≤ 2 ^ 64 := Nat.pow_le_pow_right (by decide) (by omega)
  have f7 : (y5 ||| ((nI m).toInt64 <<< (((4 : Int32) * nI p).toInt64 &&& 63))) ||| y6 = lN (dig 16 (((sR a).getD i []).take p ++ m :: ((sR a).getD i []).drop p)) := by
    rw [f5, f6, nI_l (by omega), mul4, wb_shl _ (by omega), wb_or (Nat.lt_trans hb5 hP) hmP, nat_or_add hb5, wb_or (Nat.lt_of_lt_of_le hb2 hP4) hlt, nat_or_add hb2, dig_ins _ _ hp0]
    congr 1
    rw [show 4 * p + 4 = 4 * (p + 1) by omega, pow4, pow4, Nat.mul_comm (16 ^ (p + 1))]
  refine hp _ _ ⟨hr.1, ?_, fun j hj => ?_⟩
  · have e8 := dig_set 32 ((sR a).map List.length) i (((sR a).getD i []).take p ++ m :: ((sR a).getD i []).drop p).length (by rw [List.length_map, h.lR]; exact hi)
    rw [map_getD_len, ← map_set_len] at e8
    have e7 : (((sR a).getD i []).take p ++ m :: ((sR a).getD i []).drop p).length = ((sR a).getD i []).length + 1 := by
      rw [List.length_append, List.length_cons, List.length_take, List.length_drop]
      omega
    rw [e7, Nat.add_mul, Nat.one_mul, ← pow5] at e8
    rw [hr.2.1, mul5, show (1 : Int64) = lN 1 from rfl, wb_shl _ (by omega), Nat.one_mul, lN_add]
    congr 1
    show dig 32 ((sR a).map List.length) + _ = dig 32 (((sR a).set i (((sR a).getD i []).take p ++ m :: ((sR a).getD i []).drop p)).map List.length)
    omega
  · rw [nI_clamp (by omega)]
    show _ = lN (dig 16 (((sR a).set i (((sR a).getD i []).take p ++ m :: ((sR a).getD i []).drop p)).getD j []))
    rw [rows_set h hi]
    by_cases e : j = i
    · subst e; rw [if_pos rfl, pk_uLs, f7]
    · rw [if_neg e, pk_uLn e]; exact hr.2.2 j hj
theorem insP_le (row : List Nat) (m : Nat) : ∀ p, insP row m p ≤ p
  | 0 => Nat.le_refl _
  | p + 1 => by
    unfold insP
    by_cases h : m < row.getD p 0
    · rw [if_pos h]; exact Nat.le_succ_of_le (insP_le row m p)
    · rw [if_neg h]; exact Nat.le_refl _
theorem w_put (h : sOK c a) (hr : cRep a hd ln rw) {i m mode : Nat} (hi : i < 8) (hl15 : ((sR a).getD i []).length ≤ 15) (hm : m < 16) {x3 : Int32} (hx3 : x3 = if mode = 1 then 1 else 0) {post : Int64 → (Nat → Int64) → Prop}
    (hp : ∀ ln' rw', cRep (sV a, sS a, sC a, sD a, (sR a).set i (aPut mode ((sR a).getD i []) m)) hd ln' rw' → post ln' rw') : wp_X4_put ln rw (nI i) (nI m) x3 post := by
  show wp_X4_put_0 post (nI i) (nI m) x3 ln rw
  unfold wp_X4_put_0
  refine w_underWay h hr.2.1 hi ?_
  refine ⟨fun _ => ⟨fun q => ?_, fun q => ?_⟩, fun q => absurd (nI_lt (show ((sR a).getD i []).length < 16 by omega) (by decide)) q⟩
  · have hmode : mode = 1 := by
      by_cases e : mode = 1
      · exact e
      · rw [if_neg e] at hx3; exact absurd hx3 q
    refine w_put47 h hr hi hl15 (Nat.le_refl _) hm (fun ln' rw' hc' => hp ln' rw' ?_)
    unfold aPut aPutP
    rw [if_pos hmode]; exact hc'
  · have hmode : ¬ mode = 1 := by
      intro e
      rw [if_pos e] at hx3; rw [hx3] at q; exact absurd q (by decide)
    unfold wp_X4_put_23
    refine ⟨fun k x5 => ∃ p, p ≤ ((sR a).getD i []).length ∧ k = p ∧ x5 = nI p ∧ insP ((sR a).getD i []) m p = insP ((sR a).getD i []) m ((sR a).getD i []).length, ((sR a).getD i []).length, ⟨_, Nat.le_refl _, rfl, rfl, rfl⟩, ?_⟩
    rintro k x5 ⟨p, hpl, rfl, rfl, hI⟩
    unfold bd_X4_put_23
    have fin : insP ((sR a).getD i []) m k = k → wp_X4_put_47 post (nI i) (nI m) (nI k) ln rw := by
      intro ek
      refine w_put47 h hr hi hl15 hpl hm (fun ln' rw' hc' => hp ln' rw' ?_)
      unfold aPut aPutP
      rw [if_neg hmode, ← hI, ek]; exact hc'
    refine pk_le k 0 (fun h0 => ?_) (fun h0 => ?_) rfl rfl (by omega) (by decide)
    · have : k = 0 := by omega
      subst this
      exact fin rfl
    · rw [nI_s1 h0]
      refine w_messageAt h hr.2.2 hi (by omega) ?_
      have hb := getD_all (h.rw16 i) (by decide) (k - 1)
      have es : insP ((sR a).getD i []) m k = if m < ((sR a).getD i []).getD (k - 1) 0 then insP ((sR a).getD i []) m (k - 1) else k := by
        obtain ⟨q, rfl⟩ : ∃ q, k = q + 1 := ⟨k - 1, by omega⟩
        rfl
      refine pk_le (((sR a).getD i []).getD (k - 1) 0) m (fun h1 => ?_) (fun h1 => ?_) rfl rfl (by omega) (by omega)
      · exact fin (by rw [es, if_neg (by omega)])
      · refine ⟨k - 1, by omega, k - 1, by omega, rfl, nI_dec h0, ?_⟩
        rw [← hI, es, if_pos h1]
end CT
end
section
/-! FOLD, OUT and the laws, on both sides -/
def gRep (c : Cf) (gv ga gf : Int32) (beg fr to wt ft fv : Nat → Int32) : Prop := gv = nI (cNV c) ∧ ga = nI (cNA c) ∧ gf = nI (cNF c) ∧ (∀ i, i < cNV c → beg i = nI (cBeg c i)) ∧ (∀ i, i < cNA c → fr i = nI (cFr c i) ∧ to i = nI (cTo c i) ∧ wt i = nI (cWt c i)) ∧ (∀ i, i < cNF c → ft i = nI (cFT c i) ∧ fv i = nI (cFV c i))
def rRep (c : Cf) (st told : Nat → Int32) : Prop := (∀ i, i < 6 → st i = nI (cSet c i)) ∧ (∀ i, i < 256 → told i = nI (cTab c i))
theorem nx_or (a b : Nat) : nI a ||| nI b = nI (a ||| b) := by
  apply Int32.toBitVec_inj.mp
  show BitVec.ofNat 32 a ||| BitVec.ofNat 32 b = BitVec.ofNat 32 (a ||| b)
  apply BitVec.eq_of_toNat_eq
  rw [BitVec.toNat_or, BitVec.toNat_ofNat, BitVec.toNat_ofNat, BitVec.toNat_ofNat, Nat.or_mod_two_pow]
theorem sw_no {p q : Prop} {x k : Int32} (h : ¬ x = k) (hq : q) : (x = k → p) ∧ (¬ x = k → q) := ⟨fun e => absurd e h, fun _ => hq⟩
theorem sw_yes {p q : Prop} {x k : Int32} (h : x = k) (hp : p) : (x = k → p) ∧ (¬ x = k → q) := ⟨fun _ => hp, fun e => absurd h e⟩
theorem ns_no {p q : Prop} {x k : Int32} (h : ¬ x = k) (hp : p) : (¬ x = k → p) ∧ (x = k → q) := ⟨fun _ => hp, fun e => absurd e h⟩
theorem ns_yes {p q : Prop} {x k : Int32} (h : x = k) (hq : q) : (¬ x = k → p) ∧ (x = k → q) := ⟨fun e => absurd h e, fun _ => hq⟩
theorem rem16 {n : Nat} (h : n < 2 ^ 31) : nI n - nI n / 16 * 16 = nI (n % 16) := pk_rem (d := 16) h (by decide) (by decide)
theorem nmin {a b : Nat} (ha : a < 2 ^ 31) (hb : b < 2 ^ 31) : (if nI b < nI a then nI b else nI a) = nI (if b < a then b else a) := by
  by_cases h : b < a
  · rw [if_pos h, if_pos (nI_lt h ha)]
  · rw [if_neg h, if_neg (nI_nlt (by omega) hb)]
theorem nmax {a b : Nat} (ha : a < 2 ^ 31) (hb : b < 2 ^ 31) : (if nI a < nI b then nI b else nI a) = nI (if a < b then b else a) := by
  by_cases h : a < b
  · rw [if_pos h, if_pos (nI_lt h hb)]
  · rw [if_neg h, if_neg (nI_nlt (by omega) ha)]
theorem aFold_lt {c : Cf} (hc : cOK c) {a b : Nat} (ha : a < 16) (hb : b < 16) : aFold c a b < 16 := by
  unfold aFold
  have ht := hc.2.2.2.2.2 (16 * a + b) (by omega)
  have h1 : a ^^^ b < 2 ^ 4 := Nat.xor_lt_two_pow (n := 4) ha hb
  have h2 : a &&& b < 2 ^ 4 := Nat.and_lt_two_pow a (n := 4) hb
  have h3 : a ||| b < 2 ^ 4 := Nat.or_lt_two_pow (n := 4) ha hb
  repeat' split
  all_goals omega
theorem aOut_lt {c : Cf} {y w : Nat} (ha : y < 16) (hb : w < 16) : aOut c y w < 16 := by
  unfold aOut
  repeat' split
  all_goals omega
section RR
variable {c : Cf} {st told : Nat → Int32}
theorem w_folded (hc : cOK c) (hr : rRep c st told) {a b : Nat} (ha : a < 16) (hb : b < 16) {post : Int32 → Prop} (hp : post (nI (aFold c a b))) : wp_X2_folded st told (nI a) (nI b) post := by
  show wp_X2_folded_0 st told post (nI a) (nI b)
  unfold wp_X2_folded_0
  refine ⟨by unfold vp_in; decide, ?_⟩
  have hs : st (0 : Int32).toNatClampNeg = nI (cSet c 0) := hr.1 0 (by decide)
  rw [hs]
  have hk := hc.2.2.2.2.1.1
  unfold aFold at hp
  rcases (show cSet c 0 = 0 ∨ cSet c 0 = 1 ∨ cSet c 0 = 2 ∨ cSet c 0 = 3 ∨ cSet c 0 = 4 ∨ cSet c 0 = 5 ∨ cSet c 0 = 6 ∨ cSet c 0 = 7 ∨ cSet c 0 = 8 ∨ cSet c 0 = 9 by omega) with e | e | e | e | e | e | e | e | e | e <;> rw [e] at hp ⊢ <;>
    (repeat (first | refine sw_yes (by decide) ?_ | refine sw_no (by decide) ?_))
  · rw [nI_add, ni_and _ 4 (by decide) (by decide)]; exact hp
  · rw [nmin (a := a) (b := b) (by omega) (by omega)]; exact hp
  · rw [nmax (a := a) (b := b) (by omega) (by omega)]; exact hp
  · rw [nx_xor]; exact hp
  · exact hp
  · exact hp
  · rw [show (2 : Int32) = nI 2 from rfl, pk_mul, nI_add, ni_and _ 4 (by decide) (by decide)]; exact hp
  · rw [nx_and]; exact hp
  · rw [nx_or]; exact hp
  · show wp_X2_cell_0 _ (nI a) (nI b)
    unfold wp_X2_cell_0
    have e1 : (((nI a &&& 15) <<< ((4 : Int32) &&& 31)) ||| (nI b &&& 15)) = nI (16 * a + b) := by
      rw [ni_and _ 4 (by decide) (by decide), ni_and _ 4 (by decide) (by decide), Nat.mod_eq_of_lt ha, Nat.mod_eq_of_lt hb, pk_shlN _ 4 (by decide) (by omega), nx_or, Nat.or_comm, nat_or_add hb]
      congr 1; omega
    rw [e1]
    refine ⟨vp_in_nI (by omega) (by decide), ?_⟩
    rw [nI_clamp (by omega), hr.2 _ (by omega)]
    exact hp
theorem m_folded (hc : cOK c) (hr : rRep c st told) {a b : Nat} (ha : a < 16) (hb : b < 16) {post : Int32 → Prop} (hp : post (nI (aFold c a b))) : wp_X8_folded st told (nI a) (nI b) post := by
  show wp_X8_folded_0 st told post (nI a) (nI b)
  unfold wp_X8_folded_0
  refine ⟨by unfold vp_in; decide, ?_⟩
  have hs : st (0 : Int32).toNatClampNeg = nI (cSet c 0) := hr.1 0 (by decide)
  rw [hs]
  have hk := hc.2.2.2.2.1.1
  unfold aFold at hp
  rcases (show cSet c 0 = 0 ∨ cSet c 0 = 1 ∨ cSet c 0 = 2 ∨ cSet c 0 = 3 ∨ cSet c 0 = 4 ∨ cSet c 0 = 5 ∨ cSet c 0 = 6 ∨ cSet c 0 = 7 ∨ cSet c 0 = 8 ∨ cSet c 0 = 9 by omega) with e | e | e | e | e | e | e | e | e | e <;> rw [e] at hp ⊢ <;>
    (repeat (first | refine sw_yes (by decide) ?_ | refine sw_no (by decide) ?_))
  · rw [nI_add, rem16 (by omega)]; exact hp
  · refine pk_le b a (fun h => ?_) (fun h => ?_) rfl rfl (by omega) (by omega)
    · by_cases h2 : b < a
      · rw [if_pos h2] at hp; exact hp
      · have e2 : b = a := by omega
        subst e2; rw [if_neg h2] at hp; exact hp
    · rw [if_neg (show ¬ b < a by omega)] at hp; exact hp
  · refine pk_le a b (fun h => ?_) (fun h => ?_) rfl rfl (by omega) (by omega)
    · by_cases h2 : a < b
      · rw [if_pos h2] at hp; exact hp
      · have e2 : b = a := by omega
        subst e2; rw [if_neg h2] at hp; exact hp
    · rw [if_neg (show ¬ a < b by omega)] at hp; exact hp
  · rw [nx_xor]; exact hp
  · exact hp
  · exact hp
  · rw [show (2 : Int32) = nI 2 from rfl, pk_mul, nI_add, rem16 (by omega)]; exact hp
  · rw [nx_and]; exact hp
  · rw [nx_or]; exact hp
  · rw [show (16 : Int32) = nI 16 from rfl, pk_mul, nI_add]
    refine ⟨vp_in_nI (by omega) (by decide), ?_⟩
    rw [nI_clamp (by omega), hr.2 _ (by omega)]
    exact hp
theorem w_sentOut (hc : cOK c) (hr : ∀ i, i < 6 → st i = nI (cSet c i)) {a b : Nat} (ha : a < 16) (hb : b < 16) {post : Int32 → Prop} (hp : post (nI (aOut c a b))) : wp_X2_sentOut st (nI a) (nI b) post := by
  show wp_X2_sentOut_0 st post (nI a) (nI b)
  unfold wp_X2_sentOut_0
  refine ⟨by unfold vp_in; decide, ?_⟩
  have hs : st (1 : Int32).toNatClampNeg = nI (cSet c 1) := hr 1 (by decide)
  rw [hs]
  have hk := hc.2.2.2.2.1.2.1
  unfold aOut at hp
  have hm : a * b < 256 := by
    have := Nat.mul_le_mul (show a ≤ 15 by omega) (show b ≤ 15 by omega)
    omega
  rcases (show cSet c 1 = 0 ∨ cSet c 1 = 1 ∨ cSet c 1 = 2 ∨ cSet c 1 = 3 ∨ cSet c 1 = 4 by omega) with e | e | e | e | e <;> rw [e] at hp ⊢ <;>
    (repeat (first | refine sw_yes (by decide) ?_ | refine sw_no (by decide) ?_))
  · exact hp
  · rw [nI_add, ni_and _ 4 (by decide) (by decide)]; exact hp
  · rw [nmin (a := a) (b := b) (by omega) (by omega)]; exact hp
  · rw [nmax (a := a) (b := b) (by omega) (by omega)]; exact hp
  · rw [pk_mul, ni_and _ 4 (by decide) (by decide)]; exact hp
theorem m_outOf (hc : cOK c) (hr : ∀ i, i < 6 → st i = nI (cSet c i)) {a b : Nat} (ha : a < 16) (hb : b < 16) {post : Int32 → Prop} (hp : post (nI (aOut c a b))) : wp_X8_outOf st (nI a) (nI b) post := by
  show wp_X8_outOf_0 st post (nI a) (nI b)
  unfold wp_X8_outOf_0
  refine ⟨by unfold vp_in; decide, ?_⟩
  have hs : st (1 : Int32).toNatClampNeg = nI (cSet c 1) := hr 1 (by decide)
  rw [hs]
  have hk := hc.2.2.2.2.1.2.1
  unfold aOut at hp
  have hm : a * b < 256 := by
    have := Nat.mul_le_mul (show a ≤ 15 by omega) (show b ≤ 15 by omega)
    omega
  rcases (show cSet c 1 = 0 ∨ cSet c 1 = 1 ∨ cSet c 1 = 2 ∨ cSet c 1 = 3 ∨ cSet c 1 = 4 by omega) with e | e | e | e | e <;> rw [e] at hp ⊢ <;>
    (repeat (first | refine sw_yes (by decide) ?_ | refine sw_no (by decide) ?_))
  · exact hp
  · rw [nI_add, rem16 (by omega)]; exact hp
  · refine pk_le b a (fun h => ?_) (fun h => ?_) rfl rfl (by omega) (by omega)
    · by_cases h2 : b < a
      · rw [if_pos h2] at hp; exact hp
      · have e2 : b = a := by omega
        subst e2; rw [if_neg h2] at hp; exact hp
    · rw [if_neg (show ¬ b < a by omega)] at hp; exact hp
  · refine pk_le a b (fun h => ?_) (fun h => ?_) rfl rfl (by omega) (by omega)
    · by_cases h2 : a < b
      · rw [if_pos h2] at hp; exact hp
      · have e2 : b = a := by omega
        subst e2; rw [if_neg h2] at hp; exact hp
    · rw [if_neg (show ¬ a < b by omega)] at hp; exact hp
  · rw [pk_mul, rem16 (by omega)]; exact hp
end RR
end
section
/-! the laws of FOLD, on both sides -/
def aHolds (c : Cf) (w a b x : Nat) : Bool :=
  if w = 0 then decide (aFold c (aFold c a b) x = aFold c a (aFold c b x)) else if w = 1 then decide (aFold c a b = aFold c b a) else if w = 2 then decide (aFold c a a = a)
  else if w = 3 then decide (aFold c (aFold c a b) x = aFold c (aFold c a x) b) else if w = 4 then decide (aFold c (aFold c a b) b = aFold c a b) else if w = 5 then (decide (b < a) || decide (aFold c a x ≤ aFold c b x)) else decide (aFold c a b ≤ a)
theorem b_eq {x y : Nat} (hx : x < 16) (hy : y < 16) {post : Int32 → Prop} (hp : post (if decide (x = y) = true then 1 else 0)) : (¬ nI x = nI y → post 0) ∧ (nI x = nI y → post 1) := by
  by_cases h : x = y
  · rw [if_pos (by simpa using h)] at hp; exact ⟨fun q => absurd (by rw [h]) q, fun _ => hp⟩
  · rw [if_neg (by simpa using h)] at hp; exact ⟨fun _ => hp, fun q => absurd ((nI_eq (by omega) (by omega)).mp q) h⟩
theorem b_le {x y : Nat} (hx : x < 16) (hy : y < 16) {post : Int32 → Prop} (hp : post (if decide (x ≤ y) = true then 1 else 0)) : (nI y < nI x → post 0) ∧ (¬ nI y < nI x → post 1) := by
  by_cases h : x ≤ y
  · rw [if_pos (by simpa using h)] at hp; exact ⟨fun q => absurd q (nI_nlt h (by omega)), fun _ => hp⟩
  · rw [if_neg (by simpa using h)] at hp; exact ⟨fun _ => hp, fun q => absurd (nI_lt (by omega) (by omega)) q⟩
/-- the first answer of f at i, i + 1, .. (k of them) -/
def fst (f : Nat → Option Nat) : Nat → Nat → Option Nat
  | 0, _ => none
  | k + 1, i => match f i with
    | some r => some r
    | none => fst f k (i + 1)
theorem fst_s {f : Nat → Option Nat} {k i : Nat} (h : i < k) : fst f (k - i) i = match f i with | some r => some r | none => fst f (k - (i + 1)) (i + 1) := by
  obtain ⟨j, hj⟩ : ∃ j, k - i = j + 1 := ⟨k - i - 1, by omega⟩
  rw [hj, show k - (i + 1) = j by omega]
  rfl
def lawC (c : Cf) (w a b : Nat) (x : Nat) : Option Nat := if aHolds c w a b x = true then none else some (256 * a + 16 * b + x)
def lawB (c : Cf) (w nc a : Nat) (b : Nat) : Option Nat := fst (lawC c w a b) nc 0
def lawA (c : Cf) (w nb nc : Nat) (a : Nat) : Option Nat := fst (lawB c w nc a) nb 0
def lawNb (w : Nat) : Nat := if w = 2 then 1 else 16
def lawNc (w : Nat) : Nat := if w = 0 ∨ w = 3 ∨ w = 5 then 16 else 1
def aLaw (c : Cf) (w : Nat) : Int32 := match fst (lawA c w (lawNb w) (lawNc w)) 16 0 with
  | some r => nI r
  | none => -1
section LW
variable {c : Cf} {st told : Nat → Int32}
theorem w_holds (hc : cOK c) (hr : rRep c st told) {w a b x : Nat} (hw : w ≤ 6) (ha : a < 16) (hb : b < 16) (hx : x < 16) {post : Int32 → Prop} (hp : post (if aHolds c w a b x = true then 1 else 0)) : wp_X2_lawHolds st told (nI w) (nI a) (nI b) (nI x) post := by
  show wp_X2_lawHolds_0 st told post (nI w) (nI a) (nI b) (nI x)
  unfold wp_X2_lawHolds_0
  unfold aHolds at hp
  have fl : ∀ {p q : Nat}, p < 16 → q < 16 → aFold c p q < 16 := fun h1 h2 => aFold_lt hc h1 h2
  rcases (show w = 0 ∨ w = 1 ∨ w = 2 ∨ w = 3 ∨ w = 4 ∨ w = 5 ∨ w = 6 by omega) with e | e | e | e | e | e | e <;> subst e <;>
    (repeat (first | refine sw_yes (by decide) ?_ | refine sw_no (by decide) ?_))
  · refine w_folded hc hr ha hb (w_folded hc hr (fl ha hb) hx (w_folded hc hr hb hx (w_folded hc hr ha (fl hb hx) ?_)))
    exact b_eq (fl (fl ha hb) hx) (fl ha (fl hb hx)) hp
  · refine w_folded hc hr ha hb (w_folded hc hr hb ha ?_)
    exact b_eq (fl ha hb) (fl hb ha) hp
  · refine w_folded hc hr ha ha ?_
    exact b_eq (fl ha ha) ha hp
  · refine w_folded hc hr ha hb (w_folded hc hr (fl ha hb) hx (w_folded hc hr ha hx (w_folded hc hr (fl ha hx) hb ?_)))
    exact b_eq (fl (fl ha hb) hx) (fl (fl ha hx) hb) hp
  · refine w_folded hc hr ha hb (w_folded hc hr (fl ha hb) hb (w_folded hc hr ha hb ?_))
    exact b_eq (fl (fl ha hb) hb) (fl ha hb) hp
  · have hp : post (if (decide (b < a) || decide (aFold c a x ≤ aFold c b x)) = true then 1 else 0) := hp
    refine pk_lt b a (fun h => ?_) (fun h => ?_) rfl rfl (by omega) (by omega)
    · rw [if_pos (by simp [h])] at hp; exact hp
    · refine w_folded hc hr ha hx (w_folded hc hr hb hx ?_)
      have hp : post (if decide (aFold c a x ≤ aFold c b x) = true then 1 else 0) := by
        simpa [show ¬ b < a by omega] using hp
      exact b_le (fl ha hx) (fl hb hx) hp
  · refine w_folded hc hr ha hb ?_
    exact b_le (fl ha hb) ha hp
theorem m_holds (hc : cOK c) (hr : rRep c st told) {w a b x : Nat} (hw : w ≤ 6) (ha : a < 16) (hb : b < 16) (hx : x < 16) {post : Int32 → Prop} (hp : post (if aHolds c w a b x = true then 1 else 0)) : wp_X8_holds st told (nI w) (nI a) (nI b) (nI x) post := by
  show wp_X8_holds_0 st told post (nI w) (nI a) (nI b) (nI x)
  unfold wp_X8_holds_0
  unfold aHolds at hp
  have fl : ∀ {p q : Nat}, p < 16 → q < 16 → aFold c p q < 16 := fun h1 h2 => aFold_lt hc h1 h2
  rcases (show w = 0 ∨ w = 1 ∨ w = 2 ∨ w = 3 ∨ w = 4 ∨ w = 5 ∨ w = 6 by omega) with e | e | e | e | e | e | e <;> subst e <;>
    (repeat (first | refine sw_yes (by decide) ?_ | refine sw_no (by decide) ?_))
  · refine m_folded hc hr ha hb (m_folded hc hr (fl ha hb) hx (m_folded hc hr hb hx (m_folded hc hr ha (fl hb hx) ?_)))
    exact b_eq (fl (fl ha hb) hx) (fl ha (fl hb hx)) hp
  · refine m_folded hc hr ha hb (m_folded hc hr hb ha ?_)
    exact b_eq (fl ha hb) (fl hb ha) hp
  · refine m_folded hc hr ha ha ?_
    exact b_eq (fl ha ha) ha hp
  · refine m_folded hc hr ha hb (m_folded hc hr (fl ha hb) hx (m_folded hc hr ha hx (m_folded hc hr (fl ha hx) hb ?_)))
    exact b_eq (fl (fl ha hb) hx) (fl (fl ha hx) hb) hp
  · refine m_folded hc hr ha hb (m_folded hc hr (fl ha hb) hb (m_folded hc hr ha hb ?_))
    exact b_eq (fl (fl ha hb) hb) (fl ha hb) hp
  · have hp : post (if (decide (b < a) || decide (aFold c a x ≤ aFold c b x)) = true then 1 else 0) := hp
    refine pk_lt b a (fun h => ?_) (fun h => ?_) rfl rfl (by omega) (by omega)
    · rw [if_pos (by simp [h])] at hp; exact hp
    · refine m_folded hc hr ha hx (m_folded hc hr hb hx ?_)
      have hp : post (if decide (aFold c a x ≤ aFold c b x) = true then 1 else 0) := by
        simpa [show ¬ b < a by omega] using hp
      exact b_le (fl ha hx) (fl hb hx) hp
  · refine m_folded hc hr ha hb ?_
    exact b_le (fl ha hb) ha hp
theorem w_law3 (hc : cOK c) (hr : rRep c st told) {w a b nb nc : Nat} (hw : w ≤ 6) (ha : a < 16) (hb : b < 16) (hnc : 1 ≤ nc ∧ nc ≤ 16) {post : Int32 → Prop} {K1 K2 : Int32 → Prop} (h0 : lawB c w nc a b = none → K2 (nI b + 1)) (h1 : ∀ r, lawB c w nc a b = some r → post (nI r)) : wp_X7_law_67 st told post K1 K2 (nI w) (nI (nb - 1)) (nI (nc - 1)) (nI a) (nI b) 0 := by
  unfold wp_X7_law_67
  refine ⟨fun k x6 => ∃ i, i ≤ nc ∧ k = nc - i ∧ x6 = nI i ∧ fst (lawC c w a b) (nc - i) i = lawB c w nc a b, nc, ⟨0, by omega, rfl, rfl, rfl⟩, ?_⟩
  rintro k x6 ⟨i, hi, rfl, rfl, hI⟩
  unfold bd_X7_law_67
  refine pk_lt (nc - 1) i (fun h => ?_) (fun h => ?_) rfl rfl (by omega) (by omega)
  · have e : i = nc := by omega
    subst e
    rw [Nat.sub_self] at hI
    exact h0 hI.symm
  · refine w_holds hc hr hw ha hb (show i < 16 by omega) ?_
    have hlt : i < nc := by omega
    rw [fst_s hlt] at hI
    unfold lawC at hI
    by_cases q : aHolds c w a b i = true
    · rw [if_pos q] at hI ⊢
      exact ns_no (by decide) ⟨nc - (i + 1), by omega, i + 1, by omega, rfl, nI_inc i, hI⟩
    · rw [if_neg q] at hI ⊢
      refine ns_yes rfl ?_
      have := h1 _ hI.symm
      rw [show (256 : Int32) = nI 256 from rfl, show (16 : Int32) = nI 16 from rfl, pk_mul, pk_mul, nI_add, nI_add]
      exact this
theorem w_law2 (hc : cOK c) (hr : rRep c st told) {w a nb nc : Nat} (hw : w ≤ 6) (ha : a < 16) (hnb : 1 ≤ nb ∧ nb ≤ 16) (hnc : 1 ≤ nc ∧ nc ≤ 16) {post : Int32 → Prop} {K1 : Int32 → Prop} (h0 : lawA c w nb nc a = none → K1 (nI a + 1)) (h1 : ∀ r, lawA c w nb nc a = some r → post (nI r)) : wp_X7_law_58 st told post K1 (nI w) (nI (nb - 1)) (nI (nc - 1)) (nI a) 0 := by
  unfold wp_X7_law_58
  refine ⟨fun k x5 => ∃ i, i ≤ nb ∧ k = nb - i ∧ x5 = nI i ∧ fst (lawB c w nc a) (nb - i) i = lawA c w nb nc a, nb, ⟨0, by omega, rfl, rfl, rfl⟩, ?_⟩
  rintro k x5 ⟨i, hi, rfl, rfl, hI⟩
  unfold bd_X7_law_58
  refine pk_lt (nb - 1) i (fun h => ?_) (fun h => ?_) rfl rfl (by omega) (by omega)
  · have e : i = nb := by omega
    subst e
    rw [Nat.sub_self] at hI
    exact h0 hI.symm
  · have hlt : i < nb := by omega
    rw [fst_s hlt] at hI
    refine w_law3 hc hr hw ha (by omega) hnc (fun q => ?_) (fun r q => ?_)
    · rw [q] at hI
      exact ⟨nb - (i + 1), by omega, i + 1, by omega, rfl, nI_inc i, hI⟩
    · rw [q] at hI
      exact h1 r hI.symm
theorem w_law1 (hc : cOK c) (hr : rRep c st told) {w nb nc : Nat} (hw : w ≤ 6) (hnb : 1 ≤ nb ∧ nb ≤ 16) (hnc : 1 ≤ nc ∧ nc ≤ 16) {post : Int32 → Prop} (h0 : fst (lawA c w nb nc) 16 0 = none → post (-1)) (h1 : ∀ r, fst (lawA c w nb nc) 16 0 = some r → post (nI r)) : wp_X7_law_48 st told post (nI w) (nI (nb - 1)) (nI (nc - 1)) 0 := by
  unfold wp_X7_law_48
  refine ⟨fun k x4 => ∃ i, i ≤ 16 ∧ k = 16 - i ∧ x4 = nI i ∧ fst (lawA c w nb nc) (16 - i) i = fst (lawA c w nb nc) 16 0, 16, ⟨0, by omega, rfl, rfl, rfl⟩, ?_⟩
  rintro k x4 ⟨i, hi, rfl, rfl, hI⟩
  unfold bd_X7_law_48
  refine pk_lt 15 i (fun h => ?_) (fun h => ?_) rfl rfl (by omega) (by omega)
  · have e : i = 16 := by omega
    subst e
    exact h0 hI.symm
  · have hlt : i < 16 := by omega
    rw [fst_s hlt] at hI
    refine w_law2 hc hr hw (by omega) hnb hnc (fun q => ?_) (fun r q => ?_)
    · rw [q] at hI
      exact ⟨16 - (i + 1), by omega, i + 1, by omega, rfl, nI_inc i, hI⟩
    · rw [q] at hI
      exact h1 r hI.symm
theorem m_law3 (hc : cOK c) (hr : rRep c st told) {w a b nb nc : Nat} (hw : w ≤ 6) (ha : a < 16) (hb : b < 16) (hnc : 1 ≤ nc ∧ nc ≤ 16) {post : Int32 → Prop} {K1 K2 : Int32 → Prop} (h0 : lawB c w nc a b = none → K2 (nI b + 1)) (h1 : ∀ r, lawB c w nc a b = some r → post (nI r)) : wp_X8_law_68 st told post K1 K2 (nI w) (nI nb) (nI nc) (nI a) (nI b) 0 := by
  unfold wp_X8_law_68
  refine ⟨fun k x6 => ∃ i, i ≤ nc ∧ k = nc - i ∧ x6 = nI i ∧ fst (lawC c w a b) (nc - i) i = lawB c w nc a b, nc, ⟨0, by omega, rfl, rfl, rfl⟩, ?_⟩
  rintro k x6 ⟨i, hi, rfl, rfl, hI⟩
  unfold bd_X8_law_68
  refine pk_le nc i (fun h => ?_) (fun h => ?_) rfl rfl (by omega) (by omega)
  · have e : i = nc := by omega
    subst e
    rw [Nat.sub_self] at hI
    exact h0 hI.symm
  · refine m_holds hc hr hw ha hb (show i < 16 by omega) ?_
    have hlt : i < nc := by omega
    rw [fst_s hlt] at hI
    unfold lawC at hI
    by_cases q : aHolds c w a b i = true
    · rw [if_pos q] at hI ⊢
      exact ns_no (by decide) ⟨nc - (i + 1), by omega, i + 1, by omega, rfl, nI_inc i, hI⟩
    · rw [if_neg q] at hI ⊢
      refine ns_yes rfl ?_
      have := h1 _ hI.symm
      rw [show (256 : Int32) = nI 256 from rfl, show (16 : Int32) = nI 16 from rfl, pk_mul, pk_mul, nI_add, nI_add]
      exact this
theorem m_law2 (hc : cOK c) (hr : rRep c st told) {w a nb nc : Nat} (hw : w ≤ 6) (ha : a < 16) (hnb : 1 ≤ nb ∧ nb ≤ 16) (hnc : 1 ≤ nc ∧ nc ≤ 16) {post : Int32 → Prop} {K1 : Int32 → Prop} (h0 : lawA c w nb nc a = none → K1 (nI a + 1)) (h1 : ∀ r, lawA c w nb nc a = some r → post (nI r)) : wp_X8_law_59 st told post K1 (nI w) (nI nb) (nI nc) (nI a) 0 := by
  unfold wp_X8_law_59
  refine ⟨fun k x5 => ∃ i, i ≤ nb ∧ k = nb - i ∧ x5 = nI i ∧ fst (lawB c w nc a) (nb - i) i = lawA c w nb nc a, nb, ⟨0, by omega, rfl, rfl, rfl⟩, ?_⟩
  rintro k x5 ⟨i, hi, rfl, rfl, hI⟩
  unfold bd_X8_law_59
  refine pk_le nb i (fun h => ?_) (fun h => ?_) rfl rfl (by omega) (by omega)
  · have e : i = nb := by omega
    subst e
    rw [Nat.sub_self] at hI
    exact h0 hI.symm
  · have hlt : i < nb := by omega
    rw [fst_s hlt] at hI
    refine m_law3 hc hr hw ha (by omega) hnc (fun q => ?_) (fun r q => ?_)
    · rw [q] at hI
      exact ⟨nb - (i + 1), by omega, i + 1, by omega, rfl, nI_inc i, hI⟩
    · rw [q] at hI
      exact h1 r hI.symm
theorem m_law1 (hc : cOK c) (hr : rRep c st told) {w nb nc : Nat} (hw : w ≤ 6) (hnb : 1 ≤ nb ∧ nb ≤ 16) (hnc : 1 ≤ nc ∧ nc ≤ 16) {post : Int32 → Prop} (h0 : fst (lawA c w nb nc) 16 0 = none → post (-1)) (h1 : ∀ r, fst (lawA c w nb nc) 16 0 = some r → post (nI r)) : wp_X8_law_49 st told post (nI w) (nI nb) (nI nc) 0 := by
  unfold wp_X8_law_49
  refine ⟨fun k x4 => ∃ i, i ≤ 16 ∧ k = 16 - i ∧ x4 = nI i ∧ fst (lawA c w nb nc) (16 - i) i = fst (lawA c w nb nc) 16 0, 16, ⟨0, by omega, rfl, rfl, rfl⟩, ?_⟩
  rintro k x4 ⟨i, hi, rfl, rfl, hI⟩
  unfold bd_X8_law_49
  refine pk_le 16 i (fun h => ?_) (fun h => ?_) rfl rfl (by omega) (by omega)
  · have e : i = 16 := by omega
    subst e
    exact h0 hI.symm
  · have hlt : i < 16 := by omega
    rw [fst_s hlt] at hI
    refine m_law2 hc hr hw (by omega) hnb hnc (fun q => ?_) (fun r q => ?_)
    · rw [q] at hI
      exact ⟨16 - (i + 1), by omega, i + 1, by omega, rfl, nI_inc i, hI⟩
    · rw [q] at hI
      exact h1 r hI.symm
theorem isWithin_i {x lo hi : Int32} {post : Int32 → Prop} (h1 : ¬ x < lo → ¬ hi < x → post 1) (h0 : x < lo ∨ hi < x → post 0) : wp_X7_isWithin x lo hi post := by
  show wp_X7_isWithin_0 post x lo hi
  unfold wp_X7_isWithin_0 wp_X7_isWithin_14
  exact ⟨fun q => h0 (Or.inl q), fun q => ⟨fun q2 => h0 (Or.inr q2), fun q2 => h1 q q2⟩⟩
theorem in_i {x lo hi : Int32} {post : Int32 → Prop} (h1 : ¬ x < lo → ¬ hi < x → post 1) (h0 : x < lo ∨ hi < x → post 0) : wp_X8_in x lo hi post := by
  show wp_X8_in_0 post x lo hi
  unfold wp_X8_in_0 wp_X8_in_14
  exact ⟨fun q => h0 (Or.inl q), fun q => ⟨fun q2 => h0 (Or.inr q2), fun q2 => h1 q q2⟩⟩
theorem isValue_i {x : Int32} {post : Int32 → Prop} (h1 : ¬ x < 0 → ¬ 15 < x → post 1) (h0 : x < 0 ∨ 15 < x → post 0) : wp_X7_isValue x post := by
  show wp_X7_isValue_0 post x
  unfold wp_X7_isValue_0 wp_X7_isValue_14
  exact ⟨fun q => h0 (Or.inl q), fun q => ⟨fun q2 => h0 (Or.inr q2), fun q2 => h1 q q2⟩⟩
/-- a number within, as a natural one -/
theorem within_n {x : Int32} {M : Int32} {n : Nat} (hM : M.toInt = n) (h : ¬ x < 0) (h2 : ¬ M < x) : ∃ j : Nat, j ≤ n ∧ x = nI j := nI_of2 hM h (Int32.not_lt.mp h2)
theorem w_law (hc : cOK c) (hr : rRep c st told) {x : Int32} {post : Int32 → Prop} (h1 : ∀ w : Nat, w ≤ 6 → x = nI w → post (aLaw c w)) (h0 : x < 0 ∨ 6 < x → post (-102)) : wp_X7_law st told x post := by
  show wp_X7_law_0 st told post x
  unfold wp_X7_law_0
  refine isWithin_i (fun a b => ns_no (by decide) ?_) (fun q => ns_yes rfl (h0 q))
  obtain ⟨w, hw, rfl⟩ := within_n (n := 6) (by decide) a b
  refine ⟨vp_in_nI (by omega) (by decide), ?_⟩
  have h2 := h1 w hw rfl
  have fin : ∀ nb nc : Nat, nb = lawNb w → nc = lawNc w → 1 ≤ nb ∧ nb ≤ 16 → 1 ≤ nc ∧ nc ≤ 16 → wp_X7_law_48 st told post (nI w) (nI (nb - 1)) (nI (nc - 1)) 0 := by
    intro nb nc e1 e2 b1 b2
    subst e1; subst e2
    unfold aLaw at h2
    exact w_law1 hc hr hw b1 b2 (fun q => by rw [q] at h2; exact h2) (fun r q => by rw [q] at h2; exact h2)
  rcases (show w = 0 ∨ w = 1 ∨ w = 2 ∨ w = 3 ∨ w = 4 ∨ w = 5 ∨ w = 6 by omega) with e | e | e | e | e | e | e <;> subst e
  · refine ⟨fun q => absurd q (by decide), fun _ => ⟨by unfold vp_in; decide, fun q => absurd q (by decide), fun _ => fin 16 16 rfl rfl (by decide) (by decide)⟩⟩
  · refine ⟨fun q => absurd q (by decide), fun _ => ⟨by unfold vp_in; decide, fun _ => fin 16 1 rfl rfl (by decide) (by decide), fun q => absurd (by decide) q⟩⟩
  · refine ⟨fun _ => ⟨by unfold vp_in; decide, fun _ => fin 1 1 rfl rfl (by decide) (by decide), fun q => absurd (by decide) q⟩, fun q => absurd (by decide) q⟩
  · refine ⟨fun q => absurd q (by decide), fun _ => ⟨by unfold vp_in; decide, fun q => absurd q (by decide), fun _ => fin 16 16 rfl rfl (by decide) (by decide)⟩⟩
  · refine ⟨fun q => absurd q (by decide), fun _ => ⟨by unfold vp_in; decide, fun _ => fin 16 1 rfl rfl (by decide) (by decide), fun q => absurd (by decide) q⟩⟩
  · refine ⟨fun q => absurd q (by decide), fun _ => ⟨by unfold vp_in; decide, fun q => absurd q (by decide), fun _ => fin 16 16 rfl rfl (by decide) (by decide)⟩⟩
  · refine ⟨fun q => absurd q (by decide), fun _ => ⟨by unfold vp_in; decide, fun _ => fin 16 1 rfl rfl (by decide) (by decide), fun q => absurd (by decide) q⟩⟩
theorem m_law (hc : cOK c) (hr : rRep c st told) {x : Int32} {post : Int32 → Prop} (h1 : ∀ w : Nat, w ≤ 6 → x = nI w → post (aLaw c w)) (h0 : x < 0 ∨ 6 < x → post (-102)) : wp_X8_law st told x post := by
  show wp_X8_law_0 st told post x
  unfold wp_X8_law_0
  refine in_i (fun a b => ns_no (by decide) ?_) (fun q => ns_yes rfl (h0 q))
  obtain ⟨w, hw, rfl⟩ := within_n (n := 6) (by decide) a b
  have h2 := h1 w hw rfl
  have fin : ∀ nb nc : Nat, nb = lawNb w → nc = lawNc w → 1 ≤ nb ∧ nb ≤ 16 → 1 ≤ nc ∧ nc ≤ 16 → wp_X8_law_49 st told post (nI w) (nI nb) (nI nc) 0 := by
    intro nb nc e1 e2 b1 b2
    subst e1; subst e2
    unfold aLaw at h2
    exact m_law1 hc hr hw b1 b2 (fun q => by rw [q] at h2; exact h2) (fun r q => by rw [q] at h2; exact h2)
  rcases (show w = 0 ∨ w = 1 ∨ w = 2 ∨ w = 3 ∨ w = 4 ∨ w = 5 ∨ w = 6 by omega) with e | e | e | e | e | e | e <;> subst e
  · exact ns_no (by decide) (sw_yes rfl (fin 16 16 rfl rfl (by decide) (by decide)))
  · exact ns_no (by decide) (sw_no (by decide) (sw_no (by decide) (ns_no (by decide) (fin 16 1 rfl rfl (by decide) (by decide)))))
  · exact ns_yes rfl (sw_no (by decide) (sw_no (by decide) (ns_no (by decide) (fin 1 1 rfl rfl (by decide) (by decide)))))
  · exact ns_no (by decide) (sw_no (by decide) (sw_yes rfl (fin 16 16 rfl rfl (by decide) (by decide))))
  · exact ns_no (by decide) (sw_no (by decide) (sw_no (by decide) (ns_no (by decide) (fin 16 1 rfl rfl (by decide) (by decide)))))
  · exact ns_no (by decide) (sw_no (by decide) (sw_no (by decide) (ns_yes rfl (fin 16 16 rfl rfl (by decide) (by decide)))))
  · exact ns_no (by decide) (sw_no (by decide) (sw_no (by decide) (ns_no (by decide) (fin 16 1 rfl rfl (by decide) (by decide)))))
end LW
end
