theorem dX0_init_0 : decode cX0_init 0 = .ok (.aload_n 0, 1) := by decide +kernel
theorem dX0_init_1 : decode cX0_init 1 = .ok (.invokespecial 3, 3) := by decide +kernel
theorem dX0_init_4 : decode cX0_init 4 = .ok (.aload_n 0, 1) := by decide +kernel
theorem dX0_init_5 : decode cX0_init 5 = .ok (.sipush 600, 3) := by decide +kernel
theorem dX0_init_8 : decode cX0_init 8 = .ok (.newarray .int, 2) := by decide +kernel
theorem dX0_init_10 : decode cX0_init 10 = .ok (.putfield 9, 3) := by decide +kernel
theorem dX0_init_13 : decode cX0_init 13 = .ok (.aload_n 0, 1) := by decide +kernel
theorem dX0_init_14 : decode cX0_init 14 = .ok (.sipush 600, 3) := by decide +kernel
theorem dX0_init_17 : decode cX0_init 17 = .ok (.newarray .int, 2) := by decide +kernel
theorem dX0_init_19 : decode cX0_init 19 = .ok (.putfield 15, 3) := by decide +kernel
theorem dX0_init_22 : decode cX0_init 22 = .ok (.aload_n 0, 1) := by decide +kernel
theorem dX0_init_23 : decode cX0_init 23 = .ok (.sipush 600, 3) := by decide +kernel
theorem dX0_init_26 : decode cX0_init 26 = .ok (.newarray .int, 2) := by decide +kernel
theorem dX0_init_28 : decode cX0_init 28 = .ok (.putfield 18, 3) := by decide +kernel
theorem dX0_init_31 : decode cX0_init 31 = .ok (.aload_n 0, 1) := by decide +kernel
theorem dX0_init_32 : decode cX0_init 32 = .ok (.sipush 600, 3) := by decide +kernel
theorem dX0_init_35 : decode cX0_init 35 = .ok (.newarray .int, 2) := by decide +kernel
theorem dX0_init_37 : decode cX0_init 37 = .ok (.putfield 21, 3) := by decide +kernel
theorem dX0_init_40 : decode cX0_init 40 = .ok (.return_, 1) := by decide +kernel
theorem dX0_clear_0 : decode cX0_clear 0 = .ok (.aload_n 0, 1) := by decide +kernel
theorem dX0_clear_1 : decode cX0_clear 1 = .ok (.iconst 0, 1) := by decide +kernel
theorem dX0_clear_2 : decode cX0_clear 2 = .ok (.putfield 24, 3) := by decide +kernel
theorem dX0_clear_5 : decode cX0_clear 5 = .ok (.aload_n 0, 1) := by decide +kernel
theorem dX0_clear_6 : decode cX0_clear 6 = .ok (.iload_n 1, 1) := by decide +kernel
theorem dX0_clear_7 : decode cX0_clear 7 = .ok (.putfield 28, 3) := by decide +kernel
theorem dX0_clear_10 : decode cX0_clear 10 = .ok (.aload_n 0, 1) := by decide +kernel
theorem dX0_clear_11 : decode cX0_clear 11 = .ok (.iconst 0, 1) := by decide +kernel
theorem dX0_clear_12 : decode cX0_clear 12 = .ok (.putfield 31, 3) := by decide +kernel
theorem dX0_clear_15 : decode cX0_clear 15 = .ok (.aload_n 0, 1) := by decide +kernel
theorem dX0_clear_16 : decode cX0_clear 16 = .ok (.iconst 0, 1) := by decide +kernel
theorem dX0_clear_17 : decode cX0_clear 17 = .ok (.putfield 34, 3) := by decide +kernel
theorem dX0_clear_20 : decode cX0_clear 20 = .ok (.aload_n 0, 1) := by decide +kernel
theorem dX0_clear_21 : decode cX0_clear 21 = .ok (.iconst 0, 1) := by decide +kernel
theorem dX0_clear_22 : decode cX0_clear 22 = .ok (.putfield 37, 3) := by decide +kernel
theorem dX0_clear_25 : decode cX0_clear 25 = .ok (.aload_n 0, 1) := by decide +kernel
theorem dX0_clear_26 : decode cX0_clear 26 = .ok (.iconst 0, 1) := by decide +kernel
theorem dX0_clear_27 : decode cX0_clear 27 = .ok (.putfield 40, 3) := by decide +kernel
theorem dX0_clear_30 : decode cX0_clear 30 = .ok (.return_, 1) := by decide +kernel
set_option maxRecDepth 20000 in
theorem ggX0_note_X0_noteEnd : GoodIn wsX0_note wsX0_noteEnd := goodIn_r _ [14, 15, 16, 17, 1, 18, 19, 20, 21, 22, 23, 24, 25, 26, 27] (by decide +kernel) (by decide +kernel)
set_option maxRecDepth 20000 in
theorem gX0_note_X0_noteEnd : GoodIn wsX0_note (wsV RX0 50 RX0 yX0_noteEnd wsX0_noteEnd) := goodIn_app (goodIn_of _ (by decide +kernel)) ggX0_note_X0_noteEnd
theorem dX0_note_0 : decode cX0_note 0 = .ok (.aload_n 0, 1) := by decide +kernel
theorem dX0_note_1 : decode cX0_note 1 = .ok (.getfield 24, 3) := by decide +kernel
theorem dX0_note_4 : decode cX0_note 4 = .ok (.sipush 600, 3) := by decide +kernel
theorem dX0_note_7 : decode cX0_note 7 = .ok (.if_icmp .lt 4, 3) := by decide +kernel
theorem dX0_note_10 : decode cX0_note 10 = .ok (.return_, 1) := by decide +kernel
theorem dX0_note_11 : decode cX0_note 11 = .ok (.aload_n 0, 1) := by decide +kernel
theorem dX0_note_12 : decode cX0_note 12 = .ok (.getfield 18, 3) := by decide +kernel
theorem dX0_note_15 : decode cX0_note 15 = .ok (.aload_n 0, 1) := by decide +kernel
theorem dX0_note_16 : decode cX0_note 16 = .ok (.getfield 24, 3) := by decide +kernel
theorem dX0_note_19 : decode cX0_note 19 = .ok (.iload_n 1, 1) := by decide +kernel
theorem dX0_note_20 : decode cX0_note 20 = .ok (.iastore, 1) := by decide +kernel
theorem dX0_note_21 : decode cX0_note 21 = .ok (.aload_n 0, 1) := by decide +kernel
theorem dX0_note_22 : decode cX0_note 22 = .ok (.getfield 21, 3) := by decide +kernel
theorem dX0_note_25 : decode cX0_note 25 = .ok (.aload_n 0, 1) := by decide +kernel
theorem dX0_note_26 : decode cX0_note 26 = .ok (.getfield 24, 3) := by decide +kernel
theorem dX0_note_29 : decode cX0_note 29 = .ok (.iload_n 2, 1) := by decide +kernel
theorem dX0_note_30 : decode cX0_note 30 = .ok (.iastore, 1) := by decide +kernel
theorem dX0_note_31 : decode cX0_note 31 = .ok (.aload_n 0, 1) := by decide +kernel
theorem dX0_note_32 : decode cX0_note 32 = .ok (.aload_n 0, 1) := by decide +kernel
theorem dX0_note_33 : decode cX0_note 33 = .ok (.getfield 37, 3) := by decide +kernel
theorem dX0_note_36 : decode cX0_note 36 = .ok (.iload_n 3, 1) := by decide +kernel
theorem dX0_note_37 : decode cX0_note 37 = .ok (.invokestatic 44, 3) := by decide +kernel
theorem dX0_note_40 : decode cX0_note 40 = .ok (.putfield 37, 3) := by decide +kernel
theorem dX0_note_43 : decode cX0_note 43 = .ok (.iload_n 3, 1) := by decide +kernel
theorem dX0_note_44 : decode cX0_note 44 = .ok (.ifCond .ne 19, 3) := by decide +kernel
theorem dX0_note_47 : decode cX0_note 47 = .ok (.aload_n 0, 1) := by decide +kernel
theorem dX0_note_48 : decode cX0_note 48 = .ok (.dup, 1) := by decide +kernel
theorem dX0_note_49 : decode cX0_note 49 = .ok (.getfield 34, 3) := by decide +kernel
theorem dX0_note_52 : decode cX0_note 52 = .ok (.iconst 1, 1) := by decide +kernel
theorem dX0_note_53 : decode cX0_note 53 = .ok (.iadd, 1) := by decide +kernel
theorem dX0_note_54 : decode cX0_note 54 = .ok (.putfield 34, 3) := by decide +kernel
theorem dX0_note_57 : decode cX0_note 57 = .ok (.aload_n 0, 1) := by decide +kernel
theorem dX0_note_58 : decode cX0_note 58 = .ok (.iload 4, 2) := by decide +kernel
theorem dX0_note_60 : decode cX0_note 60 = .ok (.invokevirtual 50, 3) := by decide +kernel
theorem dX0_note_63 : decode cX0_note 63 = .ok (.aload_n 0, 1) := by decide +kernel
theorem dX0_note_64 : decode cX0_note 64 = .ok (.dup, 1) := by decide +kernel
theorem dX0_note_65 : decode cX0_note 65 = .ok (.getfield 24, 3) := by decide +kernel
theorem dX0_note_68 : decode cX0_note 68 = .ok (.iconst 1, 1) := by decide +kernel
theorem dX0_note_69 : decode cX0_note 69 = .ok (.iadd, 1) := by decide +kernel
theorem dX0_note_70 : decode cX0_note 70 = .ok (.putfield 24, 3) := by decide +kernel
theorem dX0_note_73 : decode cX0_note 73 = .ok (.return_, 1) := by decide +kernel
theorem dX0_noteEnd_0 : decode cX0_noteEnd 0 = .ok (.iconst 0, 1) := by decide +kernel
theorem dX0_noteEnd_1 : decode cX0_noteEnd 1 = .ok (.istore_n 2, 1) := by decide +kernel
theorem dX0_noteEnd_2 : decode cX0_noteEnd 2 = .ok (.iload_n 2, 1) := by decide +kernel
theorem dX0_noteEnd_3 : decode cX0_noteEnd 3 = .ok (.aload_n 0, 1) := by decide +kernel
theorem dX0_noteEnd_4 : decode cX0_noteEnd 4 = .ok (.getfield 31, 3) := by decide +kernel
theorem dX0_noteEnd_7 : decode cX0_noteEnd 7 = .ok (.if_icmp .ge 20, 3) := by decide +kernel
theorem dX0_noteEnd_10 : decode cX0_noteEnd 10 = .ok (.aload_n 0, 1) := by decide +kernel
theorem dX0_noteEnd_11 : decode cX0_noteEnd 11 = .ok (.getfield 9, 3) := by decide +kernel
theorem dX0_noteEnd_14 : decode cX0_noteEnd 14 = .ok (.iload_n 2, 1) := by decide +kernel
theorem dX0_noteEnd_15 : decode cX0_noteEnd 15 = .ok (.iaload, 1) := by decide +kernel
theorem dX0_noteEnd_16 : decode cX0_noteEnd 16 = .ok (.iload_n 1, 1) := by decide +kernel
theorem dX0_noteEnd_17 : decode cX0_noteEnd 17 = .ok (.if_icmp .ne 4, 3) := by decide +kernel
theorem dX0_noteEnd_20 : decode cX0_noteEnd 20 = .ok (.return_, 1) := by decide +kernel
theorem dX0_noteEnd_21 : decode cX0_noteEnd 21 = .ok (.iinc 2 1, 3) := by decide +kernel
theorem dX0_noteEnd_24 : decode cX0_noteEnd 24 = .ok (.goto (-22), 3) := by decide +kernel
theorem dX0_noteEnd_27 : decode cX0_noteEnd 27 = .ok (.aload_n 0, 1) := by decide +kernel
theorem dX0_noteEnd_28 : decode cX0_noteEnd 28 = .ok (.getfield 31, 3) := by decide +kernel
theorem dX0_noteEnd_31 : decode cX0_noteEnd 31 = .ok (.sipush 600, 3) := by decide +kernel
theorem dX0_noteEnd_34 : decode cX0_noteEnd 34 = .ok (.if_icmp .ge 36, 3) := by decide +kernel
theorem dX0_noteEnd_37 : decode cX0_noteEnd 37 = .ok (.aload_n 0, 1) := by decide +kernel
theorem dX0_noteEnd_38 : decode cX0_noteEnd 38 = .ok (.getfield 9, 3) := by decide +kernel
theorem dX0_noteEnd_41 : decode cX0_noteEnd 41 = .ok (.aload_n 0, 1) := by decide +kernel
theorem dX0_noteEnd_42 : decode cX0_noteEnd 42 = .ok (.getfield 31, 3) := by decide +kernel
theorem dX0_noteEnd_45 : decode cX0_noteEnd 45 = .ok (.iload_n 1, 1) := by decide +kernel
theorem dX0_noteEnd_46 : decode cX0_noteEnd 46 = .ok (.iastore, 1) := by decide +kernel
theorem dX0_noteEnd_47 : decode cX0_noteEnd 47 = .ok (.aload_n 0, 1) := by decide +kernel
theorem dX0_noteEnd_48 : decode cX0_noteEnd 48 = .ok (.getfield 15, 3) := by decide +kernel
theorem dX0_noteEnd_51 : decode cX0_noteEnd 51 = .ok (.aload_n 0, 1) := by decide +kernel
theorem dX0_noteEnd_52 : decode cX0_noteEnd 52 = .ok (.getfield 31, 3) := by decide +kernel
theorem dX0_noteEnd_55 : decode cX0_noteEnd 55 = .ok (.aload_n 0, 1) := by decide +kernel
theorem dX0_noteEnd_56 : decode cX0_noteEnd 56 = .ok (.getfield 24, 3) := by decide +kernel
theorem dX0_noteEnd_59 : decode cX0_noteEnd 59 = .ok (.iastore, 1) := by decide +kernel
theorem dX0_noteEnd_60 : decode cX0_noteEnd 60 = .ok (.aload_n 0, 1) := by decide +kernel
theorem dX0_noteEnd_61 : decode cX0_noteEnd 61 = .ok (.dup, 1) := by decide +kernel
theorem dX0_noteEnd_62 : decode cX0_noteEnd 62 = .ok (.getfield 31, 3) := by decide +kernel
theorem dX0_noteEnd_65 : decode cX0_noteEnd 65 = .ok (.iconst 1, 1) := by decide +kernel
theorem dX0_noteEnd_66 : decode cX0_noteEnd 66 = .ok (.iadd, 1) := by decide +kernel
theorem dX0_noteEnd_67 : decode cX0_noteEnd 67 = .ok (.putfield 31, 3) := by decide +kernel
theorem dX0_noteEnd_70 : decode cX0_noteEnd 70 = .ok (.return_, 1) := by decide +kernel
theorem dX0_hasEnd_0 : decode cX0_hasEnd 0 = .ok (.iload_n 1, 1) := by decide +kernel
theorem dX0_hasEnd_1 : decode cX0_hasEnd 1 = .ok (.ifCond .lt 15, 3) := by decide +kernel
theorem dX0_hasEnd_4 : decode cX0_hasEnd 4 = .ok (.iload_n 1, 1) := by decide +kernel
theorem dX0_hasEnd_5 : decode cX0_hasEnd 5 = .ok (.aload_n 0, 1) := by decide +kernel
theorem dX0_hasEnd_6 : decode cX0_hasEnd 6 = .ok (.getfield 31, 3) := by decide +kernel
theorem dX0_hasEnd_9 : decode cX0_hasEnd 9 = .ok (.if_icmp .ge 7, 3) := by decide +kernel
theorem dX0_hasEnd_12 : decode cX0_hasEnd 12 = .ok (.iconst 1, 1) := by decide +kernel
theorem dX0_hasEnd_13 : decode cX0_hasEnd 13 = .ok (.goto 4, 3) := by decide +kernel
theorem dX0_hasEnd_16 : decode cX0_hasEnd 16 = .ok (.iconst 0, 1) := by decide +kernel
theorem dX0_hasEnd_17 : decode cX0_hasEnd 17 = .ok (.ireturn, 1) := by decide +kernel
theorem dX0_wayLength_0 : decode cX0_wayLength 0 = .ok (.iconst 0, 1) := by decide +kernel
theorem dX0_wayLength_1 : decode cX0_wayLength 1 = .ok (.istore_n 2, 1) := by decide +kernel
theorem dX0_wayLength_2 : decode cX0_wayLength 2 = .ok (.aload_n 0, 1) := by decide +kernel
theorem dX0_wayLength_3 : decode cX0_wayLength 3 = .ok (.getfield 15, 3) := by decide +kernel
theorem dX0_wayLength_6 : decode cX0_wayLength 6 = .ok (.iload_n 1, 1) := by decide +kernel
theorem dX0_wayLength_7 : decode cX0_wayLength 7 = .ok (.iaload, 1) := by decide +kernel
theorem dX0_wayLength_8 : decode cX0_wayLength 8 = .ok (.istore_n 3, 1) := by decide +kernel
theorem dX0_wayLength_9 : decode cX0_wayLength 9 = .ok (.iload_n 3, 1) := by decide +kernel
theorem dX0_wayLength_10 : decode cX0_wayLength 10 = .ok (.ifCond .le 23, 3) := by decide +kernel
theorem dX0_wayLength_13 : decode cX0_wayLength 13 = .ok (.iload_n 2, 1) := by decide +kernel
theorem dX0_wayLength_14 : decode cX0_wayLength 14 = .ok (.sipush 600, 3) := by decide +kernel
theorem dX0_wayLength_17 : decode cX0_wayLength 17 = .ok (.if_icmp .ge 16, 3) := by decide +kernel
theorem dX0_wayLength_20 : decode cX0_wayLength 20 = .ok (.aload_n 0, 1) := by decide +kernel
theorem dX0_wayLength_21 : decode cX0_wayLength 21 = .ok (.getfield 18, 3) := by decide +kernel
theorem dX0_wayLength_24 : decode cX0_wayLength 24 = .ok (.iload_n 3, 1) := by decide +kernel
theorem dX0_wayLength_25 : decode cX0_wayLength 25 = .ok (.iaload, 1) := by decide +kernel
theorem dX0_wayLength_26 : decode cX0_wayLength 26 = .ok (.istore_n 3, 1) := by decide +kernel
theorem dX0_wayLength_27 : decode cX0_wayLength 27 = .ok (.iinc 2 1, 3) := by decide +kernel
theorem dX0_wayLength_30 : decode cX0_wayLength 30 = .ok (.goto (-21), 3) := by decide +kernel
theorem dX0_wayLength_33 : decode cX0_wayLength 33 = .ok (.iload_n 2, 1) := by decide +kernel
theorem dX0_wayLength_34 : decode cX0_wayLength 34 = .ok (.ireturn, 1) := by decide +kernel
theorem dX0_stepBefore_0 : decode cX0_stepBefore 0 = .ok (.aload_n 0, 1) := by decide +kernel
theorem dX0_stepBefore_1 : decode cX0_stepBefore 1 = .ok (.getfield 15, 3) := by decide +kernel
theorem dX0_stepBefore_4 : decode cX0_stepBefore 4 = .ok (.iload_n 1, 1) := by decide +kernel
theorem dX0_stepBefore_5 : decode cX0_stepBefore 5 = .ok (.iaload, 1) := by decide +kernel
theorem dX0_stepBefore_6 : decode cX0_stepBefore 6 = .ok (.istore_n 3, 1) := by decide +kernel
theorem dX0_stepBefore_7 : decode cX0_stepBefore 7 = .ok (.iconst 0, 1) := by decide +kernel
theorem dX0_stepBefore_8 : decode cX0_stepBefore 8 = .ok (.istore 4, 2) := by decide +kernel
theorem dX0_stepBefore_10 : decode cX0_stepBefore 10 = .ok (.iload 4, 2) := by decide +kernel
theorem dX0_stepBefore_12 : decode cX0_stepBefore 12 = .ok (.iload_n 2, 1) := by decide +kernel
theorem dX0_stepBefore_13 : decode cX0_stepBefore 13 = .ok (.if_icmp .ge 20, 3) := by decide +kernel
theorem dX0_stepBefore_16 : decode cX0_stepBefore 16 = .ok (.iload_n 3, 1) := by decide +kernel
theorem dX0_stepBefore_17 : decode cX0_stepBefore 17 = .ok (.ifCond .le 16, 3) := by decide +kernel
theorem dX0_stepBefore_20 : decode cX0_stepBefore 20 = .ok (.aload_n 0, 1) := by decide +kernel
theorem dX0_stepBefore_21 : decode cX0_stepBefore 21 = .ok (.getfield 18, 3) := by decide +kernel
theorem dX0_stepBefore_24 : decode cX0_stepBefore 24 = .ok (.iload_n 3, 1) := by decide +kernel
theorem dX0_stepBefore_25 : decode cX0_stepBefore 25 = .ok (.iaload, 1) := by decide +kernel
theorem dX0_stepBefore_26 : decode cX0_stepBefore 26 = .ok (.istore_n 3, 1) := by decide +kernel
theorem dX0_stepBefore_27 : decode cX0_stepBefore 27 = .ok (.iinc 4 1, 3) := by decide +kernel
theorem dX0_stepBefore_30 : decode cX0_stepBefore 30 = .ok (.goto (-20), 3) := by decide +kernel
theorem dX0_stepBefore_33 : decode cX0_stepBefore 33 = .ok (.aload_n 0, 1) := by decide +kernel
theorem dX0_stepBefore_34 : decode cX0_stepBefore 34 = .ok (.getfield 21, 3) := by decide +kernel
theorem dX0_stepBefore_37 : decode cX0_stepBefore 37 = .ok (.iload_n 3, 1) := by decide +kernel
theorem dX0_stepBefore_38 : decode cX0_stepBefore 38 = .ok (.iaload, 1) := by decide +kernel
theorem dX0_stepBefore_39 : decode cX0_stepBefore 39 = .ok (.ireturn, 1) := by decide +kernel
theorem dX1_init_0 : decode cX1_init 0 = .ok (.aload_n 0, 1) := by decide +kernel
theorem dX1_init_1 : decode cX1_init 1 = .ok (.invokespecial 3, 3) := by decide +kernel
theorem dX1_init_4 : decode cX1_init 4 = .ok (.aload_n 0, 1) := by decide +kernel
theorem dX1_init_5 : decode cX1_init 5 = .ok (.iconst 5, 1) := by decide +kernel
theorem dX1_init_6 : decode cX1_init 6 = .ok (.newarray .int, 2) := by decide +kernel
theorem dX1_init_8 : decode cX1_init 8 = .ok (.putfield 9, 3) := by decide +kernel
theorem dX1_init_11 : decode cX1_init 11 = .ok (.aload_n 0, 1) := by decide +kernel
theorem dX1_init_12 : decode cX1_init 12 = .ok (.bipush 8, 2) := by decide +kernel
theorem dX1_init_14 : decode cX1_init 14 = .ok (.newarray .int, 2) := by decide +kernel
theorem dX1_init_16 : decode cX1_init 16 = .ok (.putfield 15, 3) := by decide +kernel
theorem dX1_init_19 : decode cX1_init 19 = .ok (.aload_n 0, 1) := by decide +kernel
theorem dX1_init_20 : decode cX1_init 20 = .ok (.bipush 8, 2) := by decide +kernel
theorem dX1_init_22 : decode cX1_init 22 = .ok (.newarray .int, 2) := by decide +kernel
theorem dX1_init_24 : decode cX1_init 24 = .ok (.putfield 18, 3) := by decide +kernel
theorem dX1_init_27 : decode cX1_init 27 = .ok (.aload_n 0, 1) := by decide +kernel
theorem dX1_init_28 : decode cX1_init 28 = .ok (.bipush 8, 2) := by decide +kernel
theorem dX1_init_30 : decode cX1_init 30 = .ok (.newarray .int, 2) := by decide +kernel
theorem dX1_init_32 : decode cX1_init 32 = .ok (.putfield 21, 3) := by decide +kernel
theorem dX1_init_35 : decode cX1_init 35 = .ok (.aload_n 0, 1) := by decide +kernel
theorem dX1_init_36 : decode cX1_init 36 = .ok (.iconst 4, 1) := by decide +kernel
theorem dX1_init_37 : decode cX1_init 37 = .ok (.newarray .int, 2) := by decide +kernel
theorem dX1_init_39 : decode cX1_init 39 = .ok (.putfield 24, 3) := by decide +kernel
theorem dX1_init_42 : decode cX1_init 42 = .ok (.aload_n 0, 1) := by decide +kernel
theorem dX1_init_43 : decode cX1_init 43 = .ok (.iconst 4, 1) := by decide +kernel
theorem dX1_init_44 : decode cX1_init 44 = .ok (.newarray .int, 2) := by decide +kernel
theorem dX1_init_46 : decode cX1_init 46 = .ok (.putfield 27, 3) := by decide +kernel
theorem dX1_init_49 : decode cX1_init 49 = .ok (.return_, 1) := by decide +kernel
theorem dX1_hasVertex_0 : decode cX1_hasVertex 0 = .ok (.iload_n 1, 1) := by decide +kernel
theorem dX1_hasVertex_1 : decode cX1_hasVertex 1 = .ok (.ifCond .lt 15, 3) := by decide +kernel
theorem dX1_hasVertex_4 : decode cX1_hasVertex 4 = .ok (.iload_n 1, 1) := by decide +kernel
theorem dX1_hasVertex_5 : decode cX1_hasVertex 5 = .ok (.aload_n 0, 1) := by decide +kernel
theorem dX1_hasVertex_6 : decode cX1_hasVertex 6 = .ok (.getfield 30, 3) := by decide +kernel
theorem dX1_hasVertex_9 : decode cX1_hasVertex 9 = .ok (.if_icmp .ge 7, 3) := by decide +kernel
theorem dX1_hasVertex_12 : decode cX1_hasVertex 12 = .ok (.iconst 1, 1) := by decide +kernel
theorem dX1_hasVertex_13 : decode cX1_hasVertex 13 = .ok (.goto 4, 3) := by decide +kernel
theorem dX1_hasVertex_16 : decode cX1_hasVertex 16 = .ok (.iconst 0, 1) := by decide +kernel
theorem dX1_hasVertex_17 : decode cX1_hasVertex 17 = .ok (.ireturn, 1) := by decide +kernel
theorem dX1_allArcs_0 : decode cX1_allArcs 0 = .ok (.iconst 1, 1) := by decide +kernel
theorem dX1_allArcs_1 : decode cX1_allArcs 1 = .ok (.aload_n 0, 1) := by decide +kernel
theorem dX1_allArcs_2 : decode cX1_allArcs 2 = .ok (.getfield 34, 3) := by decide +kernel
theorem dX1_allArcs_5 : decode cX1_allArcs 5 = .ok (.ishl, 1) := by decide +kernel
theorem dX1_allArcs_6 : decode cX1_allArcs 6 = .ok (.iconst 1, 1) := by decide +kernel
theorem dX1_allArcs_7 : decode cX1_allArcs 7 = .ok (.isub, 1) := by decide +kernel
theorem dX1_allArcs_8 : decode cX1_allArcs 8 = .ok (.ireturn, 1) := by decide +kernel
theorem dX1_addVertex_0 : decode cX1_addVertex 0 = .ok (.aload_n 0, 1) := by decide +kernel
theorem dX1_addVertex_1 : decode cX1_addVertex 1 = .ok (.getfield 30, 3) := by decide +kernel
theorem dX1_addVertex_4 : decode cX1_addVertex 4 = .ok (.iconst 5, 1) := by decide +kernel
theorem dX1_addVertex_5 : decode cX1_addVertex 5 = .ok (.if_icmp .lt 6, 3) := by decide +kernel
theorem dX1_addVertex_8 : decode cX1_addVertex 8 = .ok (.bipush (-104), 2) := by decide +kernel
theorem dX1_addVertex_10 : decode cX1_addVertex 10 = .ok (.ireturn, 1) := by decide +kernel
theorem dX1_addVertex_11 : decode cX1_addVertex 11 = .ok (.aload_n 0, 1) := by decide +kernel
theorem dX1_addVertex_12 : decode cX1_addVertex 12 = .ok (.getfield 9, 3) := by decide +kernel
theorem dX1_addVertex_15 : decode cX1_addVertex 15 = .ok (.aload_n 0, 1) := by decide +kernel
theorem dX1_addVertex_16 : decode cX1_addVertex 16 = .ok (.getfield 30, 3) := by decide +kernel
theorem dX1_addVertex_19 : decode cX1_addVertex 19 = .ok (.iload_n 1, 1) := by decide +kernel
theorem dX1_addVertex_20 : decode cX1_addVertex 20 = .ok (.iastore, 1) := by decide +kernel
theorem dX1_addVertex_21 : decode cX1_addVertex 21 = .ok (.aload_n 0, 1) := by decide +kernel
theorem dX1_addVertex_22 : decode cX1_addVertex 22 = .ok (.dup, 1) := by decide +kernel
theorem dX1_addVertex_23 : decode cX1_addVertex 23 = .ok (.getfield 30, 3) := by decide +kernel
theorem dX1_addVertex_26 : decode cX1_addVertex 26 = .ok (.iconst 1, 1) := by decide +kernel
theorem dX1_addVertex_27 : decode cX1_addVertex 27 = .ok (.iadd, 1) := by decide +kernel
theorem dX1_addVertex_28 : decode cX1_addVertex 28 = .ok (.putfield 30, 3) := by decide +kernel
theorem dX1_addVertex_31 : decode cX1_addVertex 31 = .ok (.aload_n 0, 1) := by decide +kernel
theorem dX1_addVertex_32 : decode cX1_addVertex 32 = .ok (.getfield 30, 3) := by decide +kernel
theorem dX1_addVertex_35 : decode cX1_addVertex 35 = .ok (.iconst 1, 1) := by decide +kernel
theorem dX1_addVertex_36 : decode cX1_addVertex 36 = .ok (.isub, 1) := by decide +kernel
theorem dX1_addVertex_37 : decode cX1_addVertex 37 = .ok (.ireturn, 1) := by decide +kernel
theorem dX1_addArc_0 : decode cX1_addArc 0 = .ok (.aload_n 0, 1) := by decide +kernel
theorem dX1_addArc_1 : decode cX1_addArc 1 = .ok (.getfield 34, 3) := by decide +kernel
theorem dX1_addArc_4 : decode cX1_addArc 4 = .ok (.bipush 8, 2) := by decide +kernel
theorem dX1_addArc_6 : decode cX1_addArc 6 = .ok (.if_icmp .lt 6, 3) := by decide +kernel
theorem dX1_addArc_9 : decode cX1_addArc 9 = .ok (.bipush (-104), 2) := by decide +kernel
theorem dX1_addArc_11 : decode cX1_addArc 11 = .ok (.ireturn, 1) := by decide +kernel
theorem dX1_addArc_12 : decode cX1_addArc 12 = .ok (.aload_n 0, 1) := by decide +kernel
theorem dX1_addArc_13 : decode cX1_addArc 13 = .ok (.getfield 15, 3) := by decide +kernel
theorem dX1_addArc_16 : decode cX1_addArc 16 = .ok (.aload_n 0, 1) := by decide +kernel
theorem dX1_addArc_17 : decode cX1_addArc 17 = .ok (.getfield 34, 3) := by decide +kernel
theorem dX1_addArc_20 : decode cX1_addArc 20 = .ok (.iload_n 1, 1) := by decide +kernel
theorem dX1_addArc_21 : decode cX1_addArc 21 = .ok (.iastore, 1) := by decide +kernel
theorem dX1_addArc_22 : decode cX1_addArc 22 = .ok (.aload_n 0, 1) := by decide +kernel
theorem dX1_addArc_23 : decode cX1_addArc 23 = .ok (.getfield 18, 3) := by decide +kernel
theorem dX1_addArc_26 : decode cX1_addArc 26 = .ok (.aload_n 0, 1) := by decide +kernel
theorem dX1_addArc_27 : decode cX1_addArc 27 = .ok (.getfield 34, 3) := by decide +kernel
theorem dX1_addArc_30 : decode cX1_addArc 30 = .ok (.iload_n 2, 1) := by decide +kernel
theorem dX1_addArc_31 : decode cX1_addArc 31 = .ok (.iastore, 1) := by decide +kernel
theorem dX1_addArc_32 : decode cX1_addArc 32 = .ok (.aload_n 0, 1) := by decide +kernel
theorem dX1_addArc_33 : decode cX1_addArc 33 = .ok (.getfield 21, 3) := by decide +kernel
theorem dX1_addArc_36 : decode cX1_addArc 36 = .ok (.aload_n 0, 1) := by decide +kernel
theorem dX1_addArc_37 : decode cX1_addArc 37 = .ok (.getfield 34, 3) := by decide +kernel
theorem dX1_addArc_40 : decode cX1_addArc 40 = .ok (.iload_n 3, 1) := by decide +kernel
theorem dX1_addArc_41 : decode cX1_addArc 41 = .ok (.iastore, 1) := by decide +kernel
theorem dX1_addArc_42 : decode cX1_addArc 42 = .ok (.aload_n 0, 1) := by decide +kernel
theorem dX1_addArc_43 : decode cX1_addArc 43 = .ok (.dup, 1) := by decide +kernel
theorem dX1_addArc_44 : decode cX1_addArc 44 = .ok (.getfield 34, 3) := by decide +kernel
theorem dX1_addArc_47 : decode cX1_addArc 47 = .ok (.iconst 1, 1) := by decide +kernel
theorem dX1_addArc_48 : decode cX1_addArc 48 = .ok (.iadd, 1) := by decide +kernel
theorem dX1_addArc_49 : decode cX1_addArc 49 = .ok (.putfield 34, 3) := by decide +kernel
theorem dX1_addArc_52 : decode cX1_addArc 52 = .ok (.aload_n 0, 1) := by decide +kernel
theorem dX1_addArc_53 : decode cX1_addArc 53 = .ok (.getfield 34, 3) := by decide +kernel
theorem dX1_addArc_56 : decode cX1_addArc 56 = .ok (.iconst 1, 1) := by decide +kernel
theorem dX1_addArc_57 : decode cX1_addArc 57 = .ok (.isub, 1) := by decide +kernel
theorem dX1_addArc_58 : decode cX1_addArc 58 = .ok (.ireturn, 1) := by decide +kernel
theorem dX1_addFirst_0 : decode cX1_addFirst 0 = .ok (.aload_n 0, 1) := by decide +kernel
theorem dX1_addFirst_1 : decode cX1_addFirst 1 = .ok (.getfield 37, 3) := by decide +kernel
theorem dX1_addFirst_4 : decode cX1_addFirst 4 = .ok (.iconst 4, 1) := by decide +kernel
theorem dX1_addFirst_5 : decode cX1_addFirst 5 = .ok (.if_icmp .lt 6, 3) := by decide +kernel
theorem dX1_addFirst_8 : decode cX1_addFirst 8 = .ok (.bipush (-104), 2) := by decide +kernel
theorem dX1_addFirst_10 : decode cX1_addFirst 10 = .ok (.ireturn, 1) := by decide +kernel
theorem dX1_addFirst_11 : decode cX1_addFirst 11 = .ok (.aload_n 0, 1) := by decide +kernel
theorem dX1_addFirst_12 : decode cX1_addFirst 12 = .ok (.getfield 24, 3) := by decide +kernel
theorem dX1_addFirst_15 : decode cX1_addFirst 15 = .ok (.aload_n 0, 1) := by decide +kernel
theorem dX1_addFirst_16 : decode cX1_addFirst 16 = .ok (.getfield 37, 3) := by decide +kernel
theorem dX1_addFirst_19 : decode cX1_addFirst 19 = .ok (.iload_n 1, 1) := by decide +kernel
theorem dX1_addFirst_20 : decode cX1_addFirst 20 = .ok (.iastore, 1) := by decide +kernel
theorem dX1_addFirst_21 : decode cX1_addFirst 21 = .ok (.aload_n 0, 1) := by decide +kernel
theorem dX1_addFirst_22 : decode cX1_addFirst 22 = .ok (.getfield 27, 3) := by decide +kernel
theorem dX1_addFirst_25 : decode cX1_addFirst 25 = .ok (.aload_n 0, 1) := by decide +kernel
theorem dX1_addFirst_26 : decode cX1_addFirst 26 = .ok (.getfield 37, 3) := by decide +kernel
theorem dX1_addFirst_29 : decode cX1_addFirst 29 = .ok (.iload_n 2, 1) := by decide +kernel
theorem dX1_addFirst_30 : decode cX1_addFirst 30 = .ok (.iastore, 1) := by decide +kernel
theorem dX1_addFirst_31 : decode cX1_addFirst 31 = .ok (.aload_n 0, 1) := by decide +kernel
theorem dX1_addFirst_32 : decode cX1_addFirst 32 = .ok (.dup, 1) := by decide +kernel
theorem dX1_addFirst_33 : decode cX1_addFirst 33 = .ok (.getfield 37, 3) := by decide +kernel
theorem dX1_addFirst_36 : decode cX1_addFirst 36 = .ok (.iconst 1, 1) := by decide +kernel
theorem dX1_addFirst_37 : decode cX1_addFirst 37 = .ok (.iadd, 1) := by decide +kernel
theorem dX1_addFirst_38 : decode cX1_addFirst 38 = .ok (.putfield 37, 3) := by decide +kernel
theorem dX1_addFirst_41 : decode cX1_addFirst 41 = .ok (.aload_n 0, 1) := by decide +kernel
theorem dX1_addFirst_42 : decode cX1_addFirst 42 = .ok (.getfield 37, 3) := by decide +kernel
theorem dX1_addFirst_45 : decode cX1_addFirst 45 = .ok (.iconst 1, 1) := by decide +kernel
theorem dX1_addFirst_46 : decode cX1_addFirst 46 = .ok (.isub, 1) := by decide +kernel
theorem dX1_addFirst_47 : decode cX1_addFirst 47 = .ok (.ireturn, 1) := by decide +kernel
theorem dX2_init_0 : decode cX2_init 0 = .ok (.aload_n 0, 1) := by decide +kernel
theorem dX2_init_1 : decode cX2_init 1 = .ok (.invokespecial 3, 3) := by decide +kernel
theorem dX2_init_4 : decode cX2_init 4 = .ok (.aload_n 0, 1) := by decide +kernel
theorem dX2_init_5 : decode cX2_init 5 = .ok (.bipush 6, 2) := by decide +kernel
theorem dX2_init_7 : decode cX2_init 7 = .ok (.newarray .int, 2) := by decide +kernel
theorem dX2_init_9 : decode cX2_init 9 = .ok (.dup, 1) := by decide +kernel
theorem dX2_init_10 : decode cX2_init 10 = .ok (.iconst 0, 1) := by decide +kernel
theorem dX2_init_11 : decode cX2_init 11 = .ok (.iconst 0, 1) := by decide +kernel
theorem dX2_init_12 : decode cX2_init 12 = .ok (.iastore, 1) := by decide +kernel
theorem dX2_init_13 : decode cX2_init 13 = .ok (.dup, 1) := by decide +kernel
theorem dX2_init_14 : decode cX2_init 14 = .ok (.iconst 1, 1) := by decide +kernel
theorem dX2_init_15 : decode cX2_init 15 = .ok (.iconst 0, 1) := by decide +kernel
theorem dX2_init_16 : decode cX2_init 16 = .ok (.iastore, 1) := by decide +kernel
theorem dX2_init_17 : decode cX2_init 17 = .ok (.dup, 1) := by decide +kernel
theorem dX2_init_18 : decode cX2_init 18 = .ok (.iconst 2, 1) := by decide +kernel
theorem dX2_init_19 : decode cX2_init 19 = .ok (.iconst 0, 1) := by decide +kernel
theorem dX2_init_20 : decode cX2_init 20 = .ok (.iastore, 1) := by decide +kernel
theorem dX2_init_21 : decode cX2_init 21 = .ok (.dup, 1) := by decide +kernel
theorem dX2_init_22 : decode cX2_init 22 = .ok (.iconst 3, 1) := by decide +kernel
theorem dX2_init_23 : decode cX2_init 23 = .ok (.iconst 1, 1) := by decide +kernel
theorem dX2_init_24 : decode cX2_init 24 = .ok (.iastore, 1) := by decide +kernel
theorem dX2_init_25 : decode cX2_init 25 = .ok (.dup, 1) := by decide +kernel
theorem dX2_init_26 : decode cX2_init 26 = .ok (.iconst 4, 1) := by decide +kernel
theorem dX2_init_27 : decode cX2_init 27 = .ok (.iconst 0, 1) := by decide +kernel
theorem dX2_init_28 : decode cX2_init 28 = .ok (.iastore, 1) := by decide +kernel
theorem dX2_init_29 : decode cX2_init 29 = .ok (.dup, 1) := by decide +kernel
theorem dX2_init_30 : decode cX2_init 30 = .ok (.iconst 5, 1) := by decide +kernel
theorem dX2_init_31 : decode cX2_init 31 = .ok (.iconst 0, 1) := by decide +kernel
theorem dX2_init_32 : decode cX2_init 32 = .ok (.iastore, 1) := by decide +kernel
theorem dX2_init_33 : decode cX2_init 33 = .ok (.putfield 9, 3) := by decide +kernel
theorem dX2_init_36 : decode cX2_init 36 = .ok (.aload_n 0, 1) := by decide +kernel
theorem dX2_init_37 : decode cX2_init 37 = .ok (.sipush 256, 3) := by decide +kernel
theorem dX2_init_40 : decode cX2_init 40 = .ok (.newarray .int, 2) := by decide +kernel
theorem dX2_init_42 : decode cX2_init 42 = .ok (.putfield 15, 3) := by decide +kernel
theorem dX2_init_45 : decode cX2_init 45 = .ok (.return_, 1) := by decide +kernel
theorem dX2_cell_0 : decode cX2_cell 0 = .ok (.iload_n 0, 1) := by decide +kernel
theorem dX2_cell_1 : decode cX2_cell 1 = .ok (.bipush 15, 2) := by decide +kernel
theorem dX2_cell_3 : decode cX2_cell 3 = .ok (.iand, 1) := by decide +kernel
theorem dX2_cell_4 : decode cX2_cell 4 = .ok (.iconst 4, 1) := by decide +kernel
theorem dX2_cell_5 : decode cX2_cell 5 = .ok (.ishl, 1) := by decide +kernel
theorem dX2_cell_6 : decode cX2_cell 6 = .ok (.iload_n 1, 1) := by decide +kernel
theorem dX2_cell_7 : decode cX2_cell 7 = .ok (.bipush 15, 2) := by decide +kernel
theorem dX2_cell_9 : decode cX2_cell 9 = .ok (.iand, 1) := by decide +kernel
theorem dX2_cell_10 : decode cX2_cell 10 = .ok (.ior, 1) := by decide +kernel
theorem dX2_cell_11 : decode cX2_cell 11 = .ok (.ireturn, 1) := by decide +kernel
set_option maxRecDepth 20000 in
theorem ggX2_tell_X2_cell : GoodIn wsX2_tell wsX2_cell := goodIn_r _ [5] (by decide +kernel) (by decide +kernel)
set_option maxRecDepth 20000 in
theorem gX2_tell_X2_cell : GoodIn wsX2_tell (va_wsS RX2 18 yX2_cell wsX2_cell) := goodIn_app (goodIn_of _ (by decide +kernel)) ggX2_tell_X2_cell
theorem dX2_tell_0 : decode cX2_tell 0 = .ok (.aload_n 0, 1) := by decide +kernel
theorem dX2_tell_1 : decode cX2_tell 1 = .ok (.getfield 15, 3) := by decide +kernel
theorem dX2_tell_4 : decode cX2_tell 4 = .ok (.iload_n 1, 1) := by decide +kernel
theorem dX2_tell_5 : decode cX2_tell 5 = .ok (.iload_n 2, 1) := by decide +kernel
theorem dX2_tell_6 : decode cX2_tell 6 = .ok (.invokestatic 18, 3) := by decide +kernel
theorem dX2_tell_9 : decode cX2_tell 9 = .ok (.iaload, 1) := by decide +kernel
theorem dX2_tell_10 : decode cX2_tell 10 = .ok (.istore 4, 2) := by decide +kernel
theorem dX2_tell_12 : decode cX2_tell 12 = .ok (.aload_n 0, 1) := by decide +kernel
theorem dX2_tell_13 : decode cX2_tell 13 = .ok (.getfield 15, 3) := by decide +kernel
theorem dX2_tell_16 : decode cX2_tell 16 = .ok (.iload_n 1, 1) := by decide +kernel
theorem dX2_tell_17 : decode cX2_tell 17 = .ok (.iload_n 2, 1) := by decide +kernel
theorem dX2_tell_18 : decode cX2_tell 18 = .ok (.invokestatic 18, 3) := by decide +kernel
theorem dX2_tell_21 : decode cX2_tell 21 = .ok (.iload_n 3, 1) := by decide +kernel
theorem dX2_tell_22 : decode cX2_tell 22 = .ok (.iastore, 1) := by decide +kernel
theorem dX2_tell_23 : decode cX2_tell 23 = .ok (.iload 4, 2) := by decide +kernel
theorem dX2_tell_25 : decode cX2_tell 25 = .ok (.ireturn, 1) := by decide +kernel
set_option maxRecDepth 20000 in
theorem ggX2_folded_X2_cell : GoodIn wsX2_folded wsX2_cell := goodIn_r _ [13] (by decide +kernel) (by decide +kernel)
set_option maxRecDepth 20000 in
theorem gX2_folded_X2_cell : GoodIn wsX2_folded (va_wsS RX2 18 yX2_cell wsX2_cell) := goodIn_app (goodIn_of _ (by decide +kernel)) ggX2_folded_X2_cell
theorem dX2_folded_0 : decode cX2_folded 0 = .ok (.aload_n 0, 1) := by decide +kernel
theorem dX2_folded_1 : decode cX2_folded 1 = .ok (.getfield 9, 3) := by decide +kernel
theorem dX2_folded_4 : decode cX2_folded 4 = .ok (.iconst 0, 1) := by decide +kernel
theorem dX2_folded_5 : decode cX2_folded 5 = .ok (.iaload, 1) := by decide +kernel
theorem dX2_folded_6 : decode cX2_folded 6 = .ok (.tableswitch 94 0 8 #[50, 57, 63, 69, 73, 75, 77, 86, 90], 50) := by decide +kernel
theorem dX2_folded_56 : decode cX2_folded 56 = .ok (.iload_n 1, 1) := by decide +kernel
theorem dX2_folded_57 : decode cX2_folded 57 = .ok (.iload_n 2, 1) := by decide +kernel
theorem dX2_folded_58 : decode cX2_folded 58 = .ok (.iadd, 1) := by decide +kernel
theorem dX2_folded_59 : decode cX2_folded 59 = .ok (.bipush 15, 2) := by decide +kernel
theorem dX2_folded_61 : decode cX2_folded 61 = .ok (.iand, 1) := by decide +kernel
theorem dX2_folded_62 : decode cX2_folded 62 = .ok (.ireturn, 1) := by decide +kernel
theorem dX2_folded_63 : decode cX2_folded 63 = .ok (.iload_n 1, 1) := by decide +kernel
theorem dX2_folded_64 : decode cX2_folded 64 = .ok (.iload_n 2, 1) := by decide +kernel
theorem dX2_folded_65 : decode cX2_folded 65 = .ok (.invokestatic 22, 3) := by decide +kernel
theorem dX2_folded_68 : decode cX2_folded 68 = .ok (.ireturn, 1) := by decide +kernel
theorem dX2_folded_69 : decode cX2_folded 69 = .ok (.iload_n 1, 1) := by decide +kernel
theorem dX2_folded_70 : decode cX2_folded 70 = .ok (.iload_n 2, 1) := by decide +kernel
theorem dX2_folded_71 : decode cX2_folded 71 = .ok (.invokestatic 27, 3) := by decide +kernel
theorem dX2_folded_74 : decode cX2_folded 74 = .ok (.ireturn, 1) := by decide +kernel
theorem dX2_folded_75 : decode cX2_folded 75 = .ok (.iload_n 1, 1) := by decide +kernel
theorem dX2_folded_76 : decode cX2_folded 76 = .ok (.iload_n 2, 1) := by decide +kernel
theorem dX2_folded_77 : decode cX2_folded 77 = .ok (.ixor, 1) := by decide +kernel
theorem dX2_folded_78 : decode cX2_folded 78 = .ok (.ireturn, 1) := by decide +kernel
theorem dX2_folded_79 : decode cX2_folded 79 = .ok (.iload_n 2, 1) := by decide +kernel
theorem dX2_folded_80 : decode cX2_folded 80 = .ok (.ireturn, 1) := by decide +kernel
theorem dX2_folded_81 : decode cX2_folded 81 = .ok (.iload_n 1, 1) := by decide +kernel
theorem dX2_folded_82 : decode cX2_folded 82 = .ok (.ireturn, 1) := by decide +kernel
theorem dX2_folded_83 : decode cX2_folded 83 = .ok (.iconst 2, 1) := by decide +kernel
theorem dX2_folded_84 : decode cX2_folded 84 = .ok (.iload_n 1, 1) := by decide +kernel
theorem dX2_folded_85 : decode cX2_folded 85 = .ok (.imul, 1) := by decide +kernel
theorem dX2_folded_86 : decode cX2_folded 86 = .ok (.iload_n 2, 1) := by decide +kernel
theorem dX2_folded_87 : decode cX2_folded 87 = .ok (.iadd, 1) := by decide +kernel
theorem dX2_folded_88 : decode cX2_folded 88 = .ok (.bipush 15, 2) := by decide +kernel
theorem dX2_folded_90 : decode cX2_folded 90 = .ok (.iand, 1) := by decide +kernel
theorem dX2_folded_91 : decode cX2_folded 91 = .ok (.ireturn, 1) := by decide +kernel
theorem dX2_folded_92 : decode cX2_folded 92 = .ok (.iload_n 1, 1) := by decide +kernel
theorem dX2_folded_93 : decode cX2_folded 93 = .ok (.iload_n 2, 1) := by decide +kernel
theorem dX2_folded_94 : decode cX2_folded 94 = .ok (.iand, 1) := by decide +kernel
theorem dX2_folded_95 : decode cX2_folded 95 = .ok (.ireturn, 1) := by decide +kernel
theorem dX2_folded_96 : decode cX2_folded 96 = .ok (.iload_n 1, 1) := by decide +kernel
theorem dX2_folded_97 : decode cX2_folded 97 = .ok (.iload_n 2, 1) := by decide +kernel
theorem dX2_folded_98 : decode cX2_folded 98 = .ok (.ior, 1) := by decide +kernel
theorem dX2_folded_99 : decode cX2_folded 99 = .ok (.ireturn, 1) := by decide +kernel
theorem dX2_folded_100 : decode cX2_folded 100 = .ok (.aload_n 0, 1) := by decide +kernel
theorem dX2_folded_101 : decode cX2_folded 101 = .ok (.getfield 15, 3) := by decide +kernel
theorem dX2_folded_104 : decode cX2_folded 104 = .ok (.iload_n 1, 1) := by decide +kernel
theorem dX2_folded_105 : decode cX2_folded 105 = .ok (.iload_n 2, 1) := by decide +kernel
theorem dX2_folded_106 : decode cX2_folded 106 = .ok (.invokestatic 18, 3) := by decide +kernel
theorem dX2_folded_109 : decode cX2_folded 109 = .ok (.iaload, 1) := by decide +kernel
theorem dX2_folded_110 : decode cX2_folded 110 = .ok (.ireturn, 1) := by decide +kernel
theorem dX2_sentOut_0 : decode cX2_sentOut 0 = .ok (.aload_n 0, 1) := by decide +kernel
theorem dX2_sentOut_1 : decode cX2_sentOut 1 = .ok (.getfield 9, 3) := by decide +kernel
theorem dX2_sentOut_4 : decode cX2_sentOut 4 = .ok (.iconst 1, 1) := by decide +kernel
theorem dX2_sentOut_5 : decode cX2_sentOut 5 = .ok (.iaload, 1) := by decide +kernel
theorem dX2_sentOut_6 : decode cX2_sentOut 6 = .ok (.tableswitch 51 0 3 #[30, 32, 39, 45], 30) := by decide +kernel
theorem dX2_sentOut_36 : decode cX2_sentOut 36 = .ok (.iload_n 1, 1) := by decide +kernel
theorem dX2_sentOut_37 : decode cX2_sentOut 37 = .ok (.ireturn, 1) := by decide +kernel
theorem dX2_sentOut_38 : decode cX2_sentOut 38 = .ok (.iload_n 1, 1) := by decide +kernel
theorem dX2_sentOut_39 : decode cX2_sentOut 39 = .ok (.iload_n 2, 1) := by decide +kernel
theorem dX2_sentOut_40 : decode cX2_sentOut 40 = .ok (.iadd, 1) := by decide +kernel
theorem dX2_sentOut_41 : decode cX2_sentOut 41 = .ok (.bipush 15, 2) := by decide +kernel
theorem dX2_sentOut_43 : decode cX2_sentOut 43 = .ok (.iand, 1) := by decide +kernel
theorem dX2_sentOut_44 : decode cX2_sentOut 44 = .ok (.ireturn, 1) := by decide +kernel
theorem dX2_sentOut_45 : decode cX2_sentOut 45 = .ok (.iload_n 1, 1) := by decide +kernel
theorem dX2_sentOut_46 : decode cX2_sentOut 46 = .ok (.iload_n 2, 1) := by decide +kernel
theorem dX2_sentOut_47 : decode cX2_sentOut 47 = .ok (.invokestatic 22, 3) := by decide +kernel
theorem dX2_sentOut_50 : decode cX2_sentOut 50 = .ok (.ireturn, 1) := by decide +kernel
theorem dX2_sentOut_51 : decode cX2_sentOut 51 = .ok (.iload_n 1, 1) := by decide +kernel
theorem dX2_sentOut_52 : decode cX2_sentOut 52 = .ok (.iload_n 2, 1) := by decide +kernel
theorem dX2_sentOut_53 : decode cX2_sentOut 53 = .ok (.invokestatic 27, 3) := by decide +kernel
theorem dX2_sentOut_56 : decode cX2_sentOut 56 = .ok (.ireturn, 1) := by decide +kernel
theorem dX2_sentOut_57 : decode cX2_sentOut 57 = .ok (.iload_n 1, 1) := by decide +kernel
theorem dX2_sentOut_58 : decode cX2_sentOut 58 = .ok (.iload_n 2, 1) := by decide +kernel
theorem dX2_sentOut_59 : decode cX2_sentOut 59 = .ok (.imul, 1) := by decide +kernel
theorem dX2_sentOut_60 : decode cX2_sentOut 60 = .ok (.bipush 15, 2) := by decide +kernel
theorem dX2_sentOut_62 : decode cX2_sentOut 62 = .ok (.iand, 1) := by decide +kernel
theorem dX2_sentOut_63 : decode cX2_sentOut 63 = .ok (.ireturn, 1) := by decide +kernel
set_option maxRecDepth 20000 in
theorem ggX2_lawHolds_X2_folded : GoodIn wsX2_lawHolds wsX2_folded := goodIn_r _ [5, 6, 7, 8, 9, 10, 11, 12, 13, 14, 15, 16, 4, 17, 18, 19] (by decide +kernel) (by decide +kernel)
set_option maxRecDepth 20000 in
theorem gX2_lawHolds_X2_folded : GoodIn wsX2_lawHolds (wsV RX2 30 RX2 yX2_folded wsX2_folded) := goodIn_app (goodIn_of _ (by decide +kernel)) ggX2_lawHolds_X2_folded
theorem dX2_lawHolds_0 : decode cX2_lawHolds 0 = .ok (.iload_n 1, 1) := by decide +kernel
theorem dX2_lawHolds_1 : decode cX2_lawHolds 1 = .ok (.tableswitch 196 0 5 #[39, 72, 93, 109, 142, 168], 39) := by decide +kernel
theorem dX2_lawHolds_40 : decode cX2_lawHolds 40 = .ok (.aload_n 0, 1) := by decide +kernel
theorem dX2_lawHolds_41 : decode cX2_lawHolds 41 = .ok (.aload_n 0, 1) := by decide +kernel
theorem dX2_lawHolds_42 : decode cX2_lawHolds 42 = .ok (.iload_n 2, 1) := by decide +kernel
theorem dX2_lawHolds_43 : decode cX2_lawHolds 43 = .ok (.iload_n 3, 1) := by decide +kernel
theorem dX2_lawHolds_44 : decode cX2_lawHolds 44 = .ok (.invokevirtual 30, 3) := by decide +kernel
theorem dX2_lawHolds_47 : decode cX2_lawHolds 47 = .ok (.iload 4, 2) := by decide +kernel
theorem dX2_lawHolds_49 : decode cX2_lawHolds 49 = .ok (.invokevirtual 30, 3) := by decide +kernel
theorem dX2_lawHolds_52 : decode cX2_lawHolds 52 = .ok (.aload_n 0, 1) := by decide +kernel
theorem dX2_lawHolds_53 : decode cX2_lawHolds 53 = .ok (.iload_n 2, 1) := by decide +kernel
theorem dX2_lawHolds_54 : decode cX2_lawHolds 54 = .ok (.aload_n 0, 1) := by decide +kernel
theorem dX2_lawHolds_55 : decode cX2_lawHolds 55 = .ok (.iload_n 3, 1) := by decide +kernel
theorem dX2_lawHolds_56 : decode cX2_lawHolds 56 = .ok (.iload 4, 2) := by decide +kernel
theorem dX2_lawHolds_58 : decode cX2_lawHolds 58 = .ok (.invokevirtual 30, 3) := by decide +kernel
theorem dX2_lawHolds_61 : decode cX2_lawHolds 61 = .ok (.invokevirtual 30, 3) := by decide +kernel
theorem dX2_lawHolds_64 : decode cX2_lawHolds 64 = .ok (.if_icmp .ne 7, 3) := by decide +kernel
theorem dX2_lawHolds_67 : decode cX2_lawHolds 67 = .ok (.iconst 1, 1) := by decide +kernel
theorem dX2_lawHolds_68 : decode cX2_lawHolds 68 = .ok (.goto 4, 3) := by decide +kernel
theorem dX2_lawHolds_71 : decode cX2_lawHolds 71 = .ok (.iconst 0, 1) := by decide +kernel
theorem dX2_lawHolds_72 : decode cX2_lawHolds 72 = .ok (.ireturn, 1) := by decide +kernel
theorem dX2_lawHolds_73 : decode cX2_lawHolds 73 = .ok (.aload_n 0, 1) := by decide +kernel
theorem dX2_lawHolds_74 : decode cX2_lawHolds 74 = .ok (.iload_n 2, 1) := by decide +kernel
theorem dX2_lawHolds_75 : decode cX2_lawHolds 75 = .ok (.iload_n 3, 1) := by decide +kernel
theorem dX2_lawHolds_76 : decode cX2_lawHolds 76 = .ok (.invokevirtual 30, 3) := by decide +kernel
theorem dX2_lawHolds_79 : decode cX2_lawHolds 79 = .ok (.aload_n 0, 1) := by decide +kernel
theorem dX2_lawHolds_80 : decode cX2_lawHolds 80 = .ok (.iload_n 3, 1) := by decide +kernel
theorem dX2_lawHolds_81 : decode cX2_lawHolds 81 = .ok (.iload_n 2, 1) := by decide +kernel
theorem dX2_lawHolds_82 : decode cX2_lawHolds 82 = .ok (.invokevirtual 30, 3) := by decide +kernel
theorem dX2_lawHolds_85 : decode cX2_lawHolds 85 = .ok (.if_icmp .ne 7, 3) := by decide +kernel
theorem dX2_lawHolds_88 : decode cX2_lawHolds 88 = .ok (.iconst 1, 1) := by decide +kernel
theorem dX2_lawHolds_89 : decode cX2_lawHolds 89 = .ok (.goto 4, 3) := by decide +kernel
theorem dX2_lawHolds_92 : decode cX2_lawHolds 92 = .ok (.iconst 0, 1) := by decide +kernel
theorem dX2_lawHolds_93 : decode cX2_lawHolds 93 = .ok (.ireturn, 1) := by decide +kernel
theorem dX2_lawHolds_94 : decode cX2_lawHolds 94 = .ok (.aload_n 0, 1) := by decide +kernel
theorem dX2_lawHolds_95 : decode cX2_lawHolds 95 = .ok (.iload_n 2, 1) := by decide +kernel
theorem dX2_lawHolds_96 : decode cX2_lawHolds 96 = .ok (.iload_n 2, 1) := by decide +kernel
theorem dX2_lawHolds_97 : decode cX2_lawHolds 97 = .ok (.invokevirtual 30, 3) := by decide +kernel
theorem dX2_lawHolds_100 : decode cX2_lawHolds 100 = .ok (.iload_n 2, 1) := by decide +kernel
theorem dX2_lawHolds_101 : decode cX2_lawHolds 101 = .ok (.if_icmp .ne 7, 3) := by decide +kernel
theorem dX2_lawHolds_104 : decode cX2_lawHolds 104 = .ok (.iconst 1, 1) := by decide +kernel
theorem dX2_lawHolds_105 : decode cX2_lawHolds 105 = .ok (.goto 4, 3) := by decide +kernel
theorem dX2_lawHolds_108 : decode cX2_lawHolds 108 = .ok (.iconst 0, 1) := by decide +kernel
theorem dX2_lawHolds_109 : decode cX2_lawHolds 109 = .ok (.ireturn, 1) := by decide +kernel
theorem dX2_lawHolds_110 : decode cX2_lawHolds 110 = .ok (.aload_n 0, 1) := by decide +kernel
theorem dX2_lawHolds_111 : decode cX2_lawHolds 111 = .ok (.aload_n 0, 1) := by decide +kernel
theorem dX2_lawHolds_112 : decode cX2_lawHolds 112 = .ok (.iload_n 2, 1) := by decide +kernel
theorem dX2_lawHolds_113 : decode cX2_lawHolds 113 = .ok (.iload_n 3, 1) := by decide +kernel
theorem dX2_lawHolds_114 : decode cX2_lawHolds 114 = .ok (.invokevirtual 30, 3) := by decide +kernel
theorem dX2_lawHolds_117 : decode cX2_lawHolds 117 = .ok (.iload 4, 2) := by decide +kernel
theorem dX2_lawHolds_119 : decode cX2_lawHolds 119 = .ok (.invokevirtual 30, 3) := by decide +kernel
theorem dX2_lawHolds_122 : decode cX2_lawHolds 122 = .ok (.aload_n 0, 1) := by decide +kernel
theorem dX2_lawHolds_123 : decode cX2_lawHolds 123 = .ok (.aload_n 0, 1) := by decide +kernel
theorem dX2_lawHolds_124 : decode cX2_lawHolds 124 = .ok (.iload_n 2, 1) := by decide +kernel
theorem dX2_lawHolds_125 : decode cX2_lawHolds 125 = .ok (.iload 4, 2) := by decide +kernel
theorem dX2_lawHolds_127 : decode cX2_lawHolds 127 = .ok (.invokevirtual 30, 3) := by decide +kernel
theorem dX2_lawHolds_130 : decode cX2_lawHolds 130 = .ok (.iload_n 3, 1) := by decide +kernel
theorem dX2_lawHolds_131 : decode cX2_lawHolds 131 = .ok (.invokevirtual 30, 3) := by decide +kernel
theorem dX2_lawHolds_134 : decode cX2_lawHolds 134 = .ok (.if_icmp .ne 7, 3) := by decide +kernel
theorem dX2_lawHolds_137 : decode cX2_lawHolds 137 = .ok (.iconst 1, 1) := by decide +kernel
theorem dX2_lawHolds_138 : decode cX2_lawHolds 138 = .ok (.goto 4, 3) := by decide +kernel
theorem dX2_lawHolds_141 : decode cX2_lawHolds 141 = .ok (.iconst 0, 1) := by decide +kernel
theorem dX2_lawHolds_142 : decode cX2_lawHolds 142 = .ok (.ireturn, 1) := by decide +kernel
theorem dX2_lawHolds_143 : decode cX2_lawHolds 143 = .ok (.aload_n 0, 1) := by decide +kernel
theorem dX2_lawHolds_144 : decode cX2_lawHolds 144 = .ok (.aload_n 0, 1) := by decide +kernel
theorem dX2_lawHolds_145 : decode cX2_lawHolds 145 = .ok (.iload_n 2, 1) := by decide +kernel
theorem dX2_lawHolds_146 : decode cX2_lawHolds 146 = .ok (.iload_n 3, 1) := by decide +kernel
theorem dX2_lawHolds_147 : decode cX2_lawHolds 147 = .ok (.invokevirtual 30, 3) := by decide +kernel
theorem dX2_lawHolds_150 : decode cX2_lawHolds 150 = .ok (.iload_n 3, 1) := by decide +kernel
theorem dX2_lawHolds_151 : decode cX2_lawHolds 151 = .ok (.invokevirtual 30, 3) := by decide +kernel
theorem dX2_lawHolds_154 : decode cX2_lawHolds 154 = .ok (.aload_n 0, 1) := by decide +kernel
theorem dX2_lawHolds_155 : decode cX2_lawHolds 155 = .ok (.iload_n 2, 1) := by decide +kernel
theorem dX2_lawHolds_156 : decode cX2_lawHolds 156 = .ok (.iload_n 3, 1) := by decide +kernel
theorem dX2_lawHolds_157 : decode cX2_lawHolds 157 = .ok (.invokevirtual 30, 3) := by decide +kernel
theorem dX2_lawHolds_160 : decode cX2_lawHolds 160 = .ok (.if_icmp .ne 7, 3) := by decide +kernel
theorem dX2_lawHolds_163 : decode cX2_lawHolds 163 = .ok (.iconst 1, 1) := by decide +kernel
theorem dX2_lawHolds_164 : decode cX2_lawHolds 164 = .ok (.goto 4, 3) := by decide +kernel
theorem dX2_lawHolds_167 : decode cX2_lawHolds 167 = .ok (.iconst 0, 1) := by decide +kernel
theorem dX2_lawHolds_168 : decode cX2_lawHolds 168 = .ok (.ireturn, 1) := by decide +kernel
theorem dX2_lawHolds_169 : decode cX2_lawHolds 169 = .ok (.iload_n 2, 1) := by decide +kernel
theorem dX2_lawHolds_170 : decode cX2_lawHolds 170 = .ok (.iload_n 3, 1) := by decide +kernel
theorem dX2_lawHolds_171 : decode cX2_lawHolds 171 = .ok (.if_icmp .gt 20, 3) := by decide +kernel
theorem dX2_lawHolds_174 : decode cX2_lawHolds 174 = .ok (.aload_n 0, 1) := by decide +kernel
theorem dX2_lawHolds_175 : decode cX2_lawHolds 175 = .ok (.iload_n 2, 1) := by decide +kernel
theorem dX2_lawHolds_176 : decode cX2_lawHolds 176 = .ok (.iload 4, 2) := by decide +kernel
theorem dX2_lawHolds_178 : decode cX2_lawHolds 178 = .ok (.invokevirtual 30, 3) := by decide +kernel
theorem dX2_lawHolds_181 : decode cX2_lawHolds 181 = .ok (.aload_n 0, 1) := by decide +kernel
theorem dX2_lawHolds_182 : decode cX2_lawHolds 182 = .ok (.iload_n 3, 1) := by decide +kernel
theorem dX2_lawHolds_183 : decode cX2_lawHolds 183 = .ok (.iload 4, 2) := by decide +kernel
theorem dX2_lawHolds_185 : decode cX2_lawHolds 185 = .ok (.invokevirtual 30, 3) := by decide +kernel
theorem dX2_lawHolds_188 : decode cX2_lawHolds 188 = .ok (.if_icmp .gt 7, 3) := by decide +kernel
theorem dX2_lawHolds_191 : decode cX2_lawHolds 191 = .ok (.iconst 1, 1) := by decide +kernel
theorem dX2_lawHolds_192 : decode cX2_lawHolds 192 = .ok (.goto 4, 3) := by decide +kernel
theorem dX2_lawHolds_195 : decode cX2_lawHolds 195 = .ok (.iconst 0, 1) := by decide +kernel
theorem dX2_lawHolds_196 : decode cX2_lawHolds 196 = .ok (.ireturn, 1) := by decide +kernel
theorem dX2_lawHolds_197 : decode cX2_lawHolds 197 = .ok (.aload_n 0, 1) := by decide +kernel
theorem dX2_lawHolds_198 : decode cX2_lawHolds 198 = .ok (.iload_n 2, 1) := by decide +kernel
theorem dX2_lawHolds_199 : decode cX2_lawHolds 199 = .ok (.iload_n 3, 1) := by decide +kernel
theorem dX2_lawHolds_200 : decode cX2_lawHolds 200 = .ok (.invokevirtual 30, 3) := by decide +kernel
theorem dX2_lawHolds_203 : decode cX2_lawHolds 203 = .ok (.iload_n 2, 1) := by decide +kernel
theorem dX2_lawHolds_204 : decode cX2_lawHolds 204 = .ok (.if_icmp .gt 7, 3) := by decide +kernel
theorem dX2_lawHolds_207 : decode cX2_lawHolds 207 = .ok (.iconst 1, 1) := by decide +kernel
theorem dX2_lawHolds_208 : decode cX2_lawHolds 208 = .ok (.goto 4, 3) := by decide +kernel
theorem dX2_lawHolds_211 : decode cX2_lawHolds 211 = .ok (.iconst 0, 1) := by decide +kernel
theorem dX2_lawHolds_212 : decode cX2_lawHolds 212 = .ok (.ireturn, 1) := by decide +kernel
set_option maxRecDepth 20000 in
theorem ggX3_init_X5_init : GoodIn wsX3_init wsX5_init := goodIn_r _ [17, 18, 2, 3, 19, 20, 21, 22, 23, 24, 29, 30, 31, 32, 33] (by decide +kernel) (by decide +kernel)
set_option maxRecDepth 20000 in
theorem gX3_init_X5_init_n11 : GoodIn wsX3_init (wsX5_init) := ggX3_init_X5_init
set_option maxRecDepth 20000 in
theorem ggX3_init_X4_init : GoodIn wsX3_init wsX4_init := goodIn_r _ [26, 27, 2, 3, 19, 28, 43, 44, 45] (by decide +kernel) (by decide +kernel)
set_option maxRecDepth 20000 in
theorem gX3_init_X4_init_n20 : GoodIn wsX3_init (wsX4_init) := ggX3_init_X4_init
theorem dX3_init_0 : decode cX3_init 0 = .ok (.aload_n 0, 1) := by decide +kernel
theorem dX3_init_1 : decode cX3_init 1 = .ok (.invokespecial 3, 3) := by decide +kernel
theorem dX3_init_4 : decode cX3_init 4 = .ok (.aload_n 0, 1) := by decide +kernel
theorem dX3_init_5 : decode cX3_init 5 = .ok (.new 9, 3) := by decide +kernel
theorem dX3_init_8 : decode cX3_init 8 = .ok (.dup, 1) := by decide +kernel
theorem dX3_init_9 : decode cX3_init 9 = .ok (.invokespecial 11, 3) := by decide +kernel
theorem dX3_init_12 : decode cX3_init 12 = .ok (.putfield 12, 3) := by decide +kernel
theorem dX3_init_15 : decode cX3_init 15 = .ok (.aload_n 0, 1) := by decide +kernel
theorem dX3_init_16 : decode cX3_init 16 = .ok (.new 18, 3) := by decide +kernel
theorem dX3_init_19 : decode cX3_init 19 = .ok (.dup, 1) := by decide +kernel
theorem dX3_init_20 : decode cX3_init 20 = .ok (.invokespecial 20, 3) := by decide +kernel
theorem dX3_init_23 : decode cX3_init 23 = .ok (.putfield 21, 3) := by decide +kernel
theorem dX3_init_26 : decode cX3_init 26 = .ok (.aload_n 0, 1) := by decide +kernel
theorem dX3_init_27 : decode cX3_init 27 = .ok (.new 18, 3) := by decide +kernel
theorem dX3_init_30 : decode cX3_init 30 = .ok (.dup, 1) := by decide +kernel
theorem dX3_init_31 : decode cX3_init 31 = .ok (.invokespecial 20, 3) := by decide +kernel
theorem dX3_init_34 : decode cX3_init 34 = .ok (.putfield 25, 3) := by decide +kernel
theorem dX3_init_37 : decode cX3_init 37 = .ok (.aload_n 0, 1) := by decide +kernel
theorem dX3_init_38 : decode cX3_init 38 = .ok (.aload_n 1, 1) := by decide +kernel
theorem dX3_init_39 : decode cX3_init 39 = .ok (.putfield 28, 3) := by decide +kernel
theorem dX3_init_42 : decode cX3_init 42 = .ok (.aload_n 0, 1) := by decide +kernel
theorem dX3_init_43 : decode cX3_init 43 = .ok (.aload_n 2, 1) := by decide +kernel
theorem dX3_init_44 : decode cX3_init 44 = .ok (.putfield 32, 3) := by decide +kernel
theorem dX3_init_47 : decode cX3_init 47 = .ok (.aload_n 0, 1) := by decide +kernel
theorem dX3_init_48 : decode cX3_init 48 = .ok (.aload_n 3, 1) := by decide +kernel
theorem dX3_init_49 : decode cX3_init 49 = .ok (.putfield 36, 3) := by decide +kernel
theorem dX3_init_52 : decode cX3_init 52 = .ok (.return_, 1) := by decide +kernel
set_option maxRecDepth 20000 in
theorem ggX3_run_X5_clear : GoodIn wsX3_run wsX5_clear := goodIn_r _ [17, 18, 19, 20, 21, 22, 23, 240, 241, 242, 243, 244] (by decide +kernel) (by decide +kernel)
set_option maxRecDepth 20000 in
theorem gX3_run_X5_clear : GoodIn wsX3_run (wsV RX3 51 RX5 yX5_clear wsX5_clear) := goodIn_app (goodIn_of _ (by decide +kernel)) ggX3_run_X5_clear
set_option maxRecDepth 20000 in
theorem ggX3_run_X0_clear : GoodIn wsX3_run wsX0_clear := goodIn_r _ [28, 29, 30, 31, 32, 33, 34, 245, 246, 247, 248, 249, 250, 251, 252, 253, 254] (by decide +kernel) (by decide +kernel)
set_option maxRecDepth 20000 in
theorem gX3_run_X0_clear : GoodIn wsX3_run (wsV RX3 59 RX0 yX0_clear wsX0_clear) := goodIn_app (goodIn_of _ (by decide +kernel)) ggX3_run_X0_clear
set_option maxRecDepth 20000 in
theorem ggX3_run_X4_begin : GoodIn wsX3_run wsX4_begin := goodIn_r _ [39, 40, 41, 42, 43, 44, 45, 46, 22, 47, 255, 256, 257, 229, 230, 231, 232, 233, 234, 235, 236, 237] (by decide +kernel) (by decide +kernel)
set_option maxRecDepth 20000 in
theorem gX3_run_X4_begin : GoodIn wsX3_run (wsV RX3 70 RX4 yX4_begin wsX4_begin) := goodIn_app (goodIn_of _ (by decide +kernel)) ggX3_run_X4_begin
set_option maxRecDepth 20000 in
theorem ggX3_run_X3_keepNext : GoodIn wsX3_run wsX3_keepNext := goodIn_r _ [52, 5, 8, 11, 2, 4, 1, 6, 53, 54, 55, 56, 16, 57, 19, 58, 59, 60, 38, 61, 40, 43, 62, 44, 63, 64, 65, 66, 67, 68, 69, 70, 71, 72, 73, 74, 75, 76, 18, 77, 78, 79, 80, 81, 82, 83, 84, 85, 86, 87, 88, 89, 90, 91, 92, 93, 94, 95, 96, 97, 98, 99, 100, 101, 102, 103, 104, 27, 105, 29, 106, 107, 33, 108, 109, 110, 111, 32, 112, 113, 114, 115, 31, 116, 117, 220, 221, 222, 223, 224, 225, 226, 227, 228, 240, 241, 242, 243, 244, 229, 230, 231, 232, 233, 234, 235, 236, 237, 255, 256, 257, 245, 246, 247, 248, 249, 250, 251, 252, 253, 254] (by decide +kernel) (by decide +kernel)
set_option maxRecDepth 20000 in
theorem gX3_run_X3_keepNext : GoodIn wsX3_run (wsV RX3 74 RX3 yX3_keepNext wsX3_keepNext) := goodIn_app (goodIn_of _ (by decide +kernel)) ggX3_run_X3_keepNext
set_option maxRecDepth 20000 in
theorem ggX3_run_X3_goThrough : GoodIn wsX3_run wsX3_goThrough := goodIn_r _ [121, 5, 122, 6, 53, 123, 124, 125, 126, 16, 127, 67, 68, 69, 70, 71, 72, 77, 78, 79, 80, 128, 129, 130, 38, 131, 40, 132, 133, 134, 135, 136, 137, 138, 51, 139, 4, 8, 140, 141, 142, 143, 144, 145, 146, 43, 44, 147, 148, 149, 150, 151, 152, 153, 154, 155, 156, 157, 158, 159, 160, 161, 162, 163, 164, 165, 166, 167, 168, 9, 10, 169, 3, 170, 171, 172, 173, 174, 175, 176, 177, 178, 179, 180, 181, 182, 110, 183, 184, 109, 111, 185, 186, 187, 188, 189, 190, 191, 192, 193, 194, 195, 196, 197, 198, 199, 200, 201, 202, 203, 204, 205, 206, 207, 208, 209, 93, 94, 95, 96, 210, 211, 212, 213, 214, 48, 49, 50, 52, 11, 2, 1, 54, 55, 56, 57, 19, 58, 59, 60, 61, 62, 63, 64, 65, 66, 73, 74, 75, 76, 18, 81, 82, 83, 84, 85, 86, 87, 88, 89, 90, 91, 92, 97, 98, 99, 100, 101, 102, 103, 104, 27, 105, 29, 106, 107, 33, 108, 32, 112, 113, 114, 115, 31, 116, 117, 215, 216, 217, 218, 219, 220, 221, 222, 223, 224, 225, 226, 227, 228, 229, 230, 231, 232, 233, 234, 235, 236, 237, 240, 241, 242, 243, 244, 255, 256, 257, 238, 239, 245, 246, 247, 248, 249, 250, 251, 252, 253, 254] (by decide +kernel) (by decide +kernel)
set_option maxRecDepth 20000 in
theorem gX3_run_X3_goThrough : GoodIn wsX3_run (wsV RX3 81 RX3 yX3_goThrough wsX3_goThrough) := goodIn_app (goodIn_of _ (by decide +kernel)) ggX3_run_X3_goThrough
theorem dX3_run_0 : decode cX3_run 0 = .ok (.aload_n 0, 1) := by decide +kernel
theorem dX3_run_1 : decode cX3_run 1 = .ok (.aload_n 3, 1) := by decide +kernel
theorem dX3_run_2 : decode cX3_run 2 = .ok (.putfield 36, 3) := by decide +kernel
theorem dX3_run_5 : decode cX3_run 5 = .ok (.aload_n 0, 1) := by decide +kernel
theorem dX3_run_6 : decode cX3_run 6 = .ok (.iload_n 1, 1) := by decide +kernel
theorem dX3_run_7 : decode cX3_run 7 = .ok (.putfield 40, 3) := by decide +kernel
theorem dX3_run_10 : decode cX3_run 10 = .ok (.aload_n 0, 1) := by decide +kernel
theorem dX3_run_11 : decode cX3_run 11 = .ok (.iload_n 2, 1) := by decide +kernel
theorem dX3_run_12 : decode cX3_run 12 = .ok (.putfield 44, 3) := by decide +kernel
theorem dX3_run_15 : decode cX3_run 15 = .ok (.aload_n 0, 1) := by decide +kernel
theorem dX3_run_16 : decode cX3_run 16 = .ok (.iconst 0, 1) := by decide +kernel
theorem dX3_run_17 : decode cX3_run 17 = .ok (.putfield 47, 3) := by decide +kernel
theorem dX3_run_20 : decode cX3_run 20 = .ok (.aload_n 0, 1) := by decide +kernel
theorem dX3_run_21 : decode cX3_run 21 = .ok (.getfield 12, 3) := by decide +kernel
theorem dX3_run_24 : decode cX3_run 24 = .ok (.invokevirtual 51, 3) := by decide +kernel
theorem dX3_run_27 : decode cX3_run 27 = .ok (.aload_n 3, 1) := by decide +kernel
theorem dX3_run_28 : decode cX3_run 28 = .ok (.aload_n 0, 1) := by decide +kernel
theorem dX3_run_29 : decode cX3_run 29 = .ok (.getfield 28, 3) := by decide +kernel
theorem dX3_run_32 : decode cX3_run 32 = .ok (.getfield 54, 3) := by decide +kernel
theorem dX3_run_35 : decode cX3_run 35 = .ok (.invokevirtual 59, 3) := by decide +kernel
theorem dX3_run_38 : decode cX3_run 38 = .ok (.aload_n 0, 1) := by decide +kernel
theorem dX3_run_39 : decode cX3_run 39 = .ok (.getfield 25, 3) := by decide +kernel
theorem dX3_run_42 : decode cX3_run 42 = .ok (.aload_n 0, 1) := by decide +kernel
theorem dX3_run_43 : decode cX3_run 43 = .ok (.getfield 28, 3) := by decide +kernel
theorem dX3_run_46 : decode cX3_run 46 = .ok (.aload_n 0, 1) := by decide +kernel
theorem dX3_run_47 : decode cX3_run 47 = .ok (.getfield 32, 3) := by decide +kernel
theorem dX3_run_50 : decode cX3_run 50 = .ok (.getfield 64, 3) := by decide +kernel
theorem dX3_run_53 : decode cX3_run 53 = .ok (.iconst 5, 1) := by decide +kernel
theorem dX3_run_54 : decode cX3_run 54 = .ok (.iaload, 1) := by decide +kernel
theorem dX3_run_55 : decode cX3_run 55 = .ok (.invokevirtual 70, 3) := by decide +kernel
theorem dX3_run_58 : decode cX3_run 58 = .ok (.aload_n 0, 1) := by decide +kernel
theorem dX3_run_59 : decode cX3_run 59 = .ok (.iconst 0, 1) := by decide +kernel
theorem dX3_run_60 : decode cX3_run 60 = .ok (.iconst 0, 1) := by decide +kernel
theorem dX3_run_61 : decode cX3_run 61 = .ok (.invokevirtual 74, 3) := by decide +kernel
theorem dX3_run_64 : decode cX3_run 64 = .ok (.iconst 0, 1) := by decide +kernel
theorem dX3_run_65 : decode cX3_run 65 = .ok (.istore 4, 2) := by decide +kernel
theorem dX3_run_67 : decode cX3_run 67 = .ok (.iload 4, 2) := by decide +kernel
theorem dX3_run_69 : decode cX3_run 69 = .ok (.aload_n 0, 1) := by decide +kernel
theorem dX3_run_70 : decode cX3_run 70 = .ok (.getfield 12, 3) := by decide +kernel
theorem dX3_run_73 : decode cX3_run 73 = .ok (.getfield 78, 3) := by decide +kernel
theorem dX3_run_76 : decode cX3_run 76 = .ok (.if_icmp .ge 30, 3) := by decide +kernel
theorem dX3_run_79 : decode cX3_run 79 = .ok (.iload 4, 2) := by decide +kernel
theorem dX3_run_81 : decode cX3_run 81 = .ok (.sipush 600, 3) := by decide +kernel
theorem dX3_run_84 : decode cX3_run 84 = .ok (.if_icmp .ge 22, 3) := by decide +kernel
theorem dX3_run_87 : decode cX3_run 87 = .ok (.aload_n 0, 1) := by decide +kernel
theorem dX3_run_88 : decode cX3_run 88 = .ok (.getfield 47, 3) := by decide +kernel
theorem dX3_run_91 : decode cX3_run 91 = .ok (.ifCond .ne 15, 3) := by decide +kernel
theorem dX3_run_94 : decode cX3_run 94 = .ok (.aload_n 0, 1) := by decide +kernel
theorem dX3_run_95 : decode cX3_run 95 = .ok (.iload 4, 2) := by decide +kernel
theorem dX3_run_97 : decode cX3_run 97 = .ok (.invokevirtual 81, 3) := by decide +kernel
theorem dX3_run_100 : decode cX3_run 100 = .ok (.iinc 4 1, 3) := by decide +kernel
theorem dX3_run_103 : decode cX3_run 103 = .ok (.goto (-36), 3) := by decide +kernel
theorem dX3_run_106 : decode cX3_run 106 = .ok (.aload_n 3, 1) := by decide +kernel
theorem dX3_run_107 : decode cX3_run 107 = .ok (.aload_n 0, 1) := by decide +kernel
theorem dX3_run_108 : decode cX3_run 108 = .ok (.getfield 47, 3) := by decide +kernel
theorem dX3_run_111 : decode cX3_run 111 = .ok (.ifCond .ne 7, 3) := by decide +kernel
theorem dX3_run_114 : decode cX3_run 114 = .ok (.iconst 1, 1) := by decide +kernel
theorem dX3_run_115 : decode cX3_run 115 = .ok (.goto 4, 3) := by decide +kernel
theorem dX3_run_118 : decode cX3_run 118 = .ok (.iconst 0, 1) := by decide +kernel
theorem dX3_run_119 : decode cX3_run 119 = .ok (.putfield 84, 3) := by decide +kernel
theorem dX3_run_122 : decode cX3_run 122 = .ok (.return_, 1) := by decide +kernel
set_option maxRecDepth 20000 in
theorem ggX3_goThrough_X5_load : GoodIn wsX3_goThrough wsX5_load := goodIn_r _ [10, 11, 12, 13, 14, 15, 16, 17, 18, 19, 20, 209, 210, 211, 212, 213, 214, 215, 216] (by decide +kernel) (by decide +kernel)
set_option maxRecDepth 20000 in
theorem gX3_goThrough_X5_load : GoodIn wsX3_goThrough (wsV RX3 87 RX5 yX5_load wsX5_load) := goodIn_app (goodIn_of _ (by decide +kernel)) ggX3_goThrough_X5_load
set_option maxRecDepth 20000 in
theorem ggX3_goThrough_X4_doublesLeft : GoodIn wsX3_goThrough wsX4_doublesLeft := goodIn_r _ [25, 26, 214, 215, 216] (by decide +kernel) (by decide +kernel)
set_option maxRecDepth 20000 in
theorem gX3_goThrough_X4_doublesLeft : GoodIn wsX3_goThrough (wsV RX3 91 RX4 yX4_doublesLeft wsX4_doublesLeft) := goodIn_app (goodIn_of _ (by decide +kernel)) ggX3_goThrough_X4_doublesLeft
set_option maxRecDepth 20000 in
theorem ggX3_goThrough_X4_hasCome : GoodIn wsX3_goThrough wsX4_hasCome := goodIn_r _ [30, 26, 214, 215, 216] (by decide +kernel) (by decide +kernel)
set_option maxRecDepth 20000 in
theorem gX3_goThrough_X4_hasCome : GoodIn wsX3_goThrough (wsV RX3 98 RX4 yX4_hasCome wsX4_hasCome) := goodIn_app (goodIn_of _ (by decide +kernel)) ggX3_goThrough_X4_hasCome
set_option maxRecDepth 20000 in
theorem ggX3_goThrough_X3_take : GoodIn wsX3_goThrough wsX3_take := goodIn_r _ [35, 36, 37, 2, 3, 38, 39, 40, 41, 42, 43, 24, 44, 26, 45, 46, 47, 18, 19, 20, 48, 49, 50, 51, 52, 53, 54, 55, 56, 57, 58, 59, 60, 61, 62, 63, 64, 65, 66, 67, 34, 68, 69, 70, 5, 71, 72, 73, 74, 75, 76, 77, 78, 79, 80, 81, 82, 83, 84, 85, 86, 87, 88, 89, 90, 91, 92, 93, 94, 95, 96, 97, 98, 99, 100, 101, 102, 103, 104, 105, 106, 107, 108, 109, 110, 111, 112, 113, 114, 115, 116, 117, 118, 119, 120, 121, 122, 123, 124, 125, 126, 127, 128, 1, 129, 130, 131, 4, 132, 133, 134, 9, 135, 136, 137, 138, 139, 140, 141, 142, 143, 144, 145, 11, 12, 13, 14, 15, 16, 146, 147, 148, 149, 150, 17, 151, 152, 153, 154, 155, 156, 157, 158, 159, 160, 161, 162, 163, 164, 165, 166, 167, 168, 169, 170, 171, 172, 173, 174, 175, 176, 177, 178, 179, 180, 181, 182, 183, 184, 185, 191, 192, 193, 194, 195, 196, 197, 198, 199, 200, 201, 202, 203, 204, 205, 206, 207, 208, 214, 215, 216, 217, 218, 209, 210, 211, 212, 213, 219, 220, 221, 222, 223, 224, 225, 226, 227, 228] (by decide +kernel) (by decide +kernel)
set_option maxRecDepth 20000 in
theorem gX3_goThrough_X3_take : GoodIn wsX3_goThrough (wsV RX3 102 RX3 yX3_take wsX3_take) := goodIn_app (goodIn_of _ (by decide +kernel)) ggX3_goThrough_X3_take
set_option maxRecDepth 20000 in
theorem ggX3_goThrough_X4_underWay : GoodIn wsX3_goThrough wsX4_underWay := goodIn_r _ [119, 45, 214, 215, 216] (by decide +kernel) (by decide +kernel)
set_option maxRecDepth 20000 in
theorem gX3_goThrough_X4_underWay : GoodIn wsX3_goThrough (wsV RX3 109 RX4 yX4_underWay wsX4_underWay) := goodIn_app (goodIn_of _ (by decide +kernel)) ggX3_goThrough_X4_underWay
set_option maxRecDepth 20000 in
theorem ggX3_goThrough_X3_isStep : GoodIn wsX3_goThrough wsX3_isStep := goodIn_r _ [190, 69, 70, 2, 61, 62, 63, 24, 64, 46, 191, 192, 193, 194, 195, 196, 197, 198, 199, 217, 218, 214, 215, 216] (by decide +kernel) (by decide +kernel)
set_option maxRecDepth 20000 in
theorem gX3_goThrough_X3_isStep : GoodIn wsX3_goThrough (wsV RX3 113 RX3 yX3_isStep wsX3_isStep) := goodIn_app (goodIn_of _ (by decide +kernel)) ggX3_goThrough_X3_isStep
theorem dX3_goThrough_0 : decode cX3_goThrough 0 = .ok (.aload_n 0, 1) := by decide +kernel
theorem dX3_goThrough_1 : decode cX3_goThrough 1 = .ok (.getfield 12, 3) := by decide +kernel
theorem dX3_goThrough_4 : decode cX3_goThrough 4 = .ok (.iload_n 1, 1) := by decide +kernel
theorem dX3_goThrough_5 : decode cX3_goThrough 5 = .ok (.aload_n 0, 1) := by decide +kernel
theorem dX3_goThrough_6 : decode cX3_goThrough 6 = .ok (.getfield 21, 3) := by decide +kernel
theorem dX3_goThrough_9 : decode cX3_goThrough 9 = .ok (.invokevirtual 87, 3) := by decide +kernel
theorem dX3_goThrough_12 : decode cX3_goThrough 12 = .ok (.aload_n 0, 1) := by decide +kernel
theorem dX3_goThrough_13 : decode cX3_goThrough 13 = .ok (.getfield 21, 3) := by decide +kernel
theorem dX3_goThrough_16 : decode cX3_goThrough 16 = .ok (.invokevirtual 91, 3) := by decide +kernel
theorem dX3_goThrough_19 : decode cX3_goThrough 19 = .ok (.ifCond .le 7, 3) := by decide +kernel
theorem dX3_goThrough_22 : decode cX3_goThrough 22 = .ok (.iconst 2, 1) := by decide +kernel
theorem dX3_goThrough_23 : decode cX3_goThrough 23 = .ok (.goto 4, 3) := by decide +kernel
theorem dX3_goThrough_26 : decode cX3_goThrough 26 = .ok (.iconst 1, 1) := by decide +kernel
theorem dX3_goThrough_27 : decode cX3_goThrough 27 = .ok (.istore_n 2, 1) := by decide +kernel
theorem dX3_goThrough_28 : decode cX3_goThrough 28 = .ok (.iconst 0, 1) := by decide +kernel
theorem dX3_goThrough_29 : decode cX3_goThrough 29 = .ok (.istore_n 3, 1) := by decide +kernel
theorem dX3_goThrough_30 : decode cX3_goThrough 30 = .ok (.iload_n 3, 1) := by decide +kernel
theorem dX3_goThrough_31 : decode cX3_goThrough 31 = .ok (.aload_n 0, 1) := by decide +kernel
theorem dX3_goThrough_32 : decode cX3_goThrough 32 = .ok (.getfield 28, 3) := by decide +kernel
theorem dX3_goThrough_35 : decode cX3_goThrough 35 = .ok (.getfield 95, 3) := by decide +kernel
theorem dX3_goThrough_38 : decode cX3_goThrough 38 = .ok (.if_icmp .ge 47, 3) := by decide +kernel
theorem dX3_goThrough_41 : decode cX3_goThrough 41 = .ok (.iconst 0, 1) := by decide +kernel
theorem dX3_goThrough_42 : decode cX3_goThrough 42 = .ok (.istore 4, 2) := by decide +kernel
theorem dX3_goThrough_44 : decode cX3_goThrough 44 = .ok (.iload 4, 2) := by decide +kernel
theorem dX3_goThrough_46 : decode cX3_goThrough 46 = .ok (.iload_n 2, 1) := by decide +kernel
theorem dX3_goThrough_47 : decode cX3_goThrough 47 = .ok (.if_icmp .ge 32, 3) := by decide +kernel
theorem dX3_goThrough_50 : decode cX3_goThrough 50 = .ok (.aload_n 0, 1) := by decide +kernel
theorem dX3_goThrough_51 : decode cX3_goThrough 51 = .ok (.getfield 21, 3) := by decide +kernel
theorem dX3_goThrough_54 : decode cX3_goThrough 54 = .ok (.iload_n 3, 1) := by decide +kernel
theorem dX3_goThrough_55 : decode cX3_goThrough 55 = .ok (.invokevirtual 98, 3) := by decide +kernel
theorem dX3_goThrough_58 : decode cX3_goThrough 58 = .ok (.ifCond .ne 21, 3) := by decide +kernel
theorem dX3_goThrough_61 : decode cX3_goThrough 61 = .ok (.aload_n 0, 1) := by decide +kernel
theorem dX3_goThrough_62 : decode cX3_goThrough 62 = .ok (.iload_n 1, 1) := by decide +kernel
theorem dX3_goThrough_63 : decode cX3_goThrough 63 = .ok (.bipush 100, 2) := by decide +kernel
theorem dX3_goThrough_65 : decode cX3_goThrough 65 = .ok (.iload_n 3, 1) := by decide +kernel
theorem dX3_goThrough_66 : decode cX3_goThrough 66 = .ok (.iadd, 1) := by decide +kernel
theorem dX3_goThrough_67 : decode cX3_goThrough 67 = .ok (.iconst 0, 1) := by decide +kernel
theorem dX3_goThrough_68 : decode cX3_goThrough 68 = .ok (.iload 4, 2) := by decide +kernel
theorem dX3_goThrough_70 : decode cX3_goThrough 70 = .ok (.invokevirtual 102, 3) := by decide +kernel
theorem dX3_goThrough_73 : decode cX3_goThrough 73 = .ok (.iinc 4 1, 3) := by decide +kernel
theorem dX3_goThrough_76 : decode cX3_goThrough 76 = .ok (.goto (-32), 3) := by decide +kernel
theorem dX3_goThrough_79 : decode cX3_goThrough 79 = .ok (.iinc 3 1, 3) := by decide +kernel
theorem dX3_goThrough_82 : decode cX3_goThrough 82 = .ok (.goto (-52), 3) := by decide +kernel
theorem dX3_goThrough_85 : decode cX3_goThrough 85 = .ok (.iconst 0, 1) := by decide +kernel
theorem dX3_goThrough_86 : decode cX3_goThrough 86 = .ok (.istore_n 3, 1) := by decide +kernel
theorem dX3_goThrough_87 : decode cX3_goThrough 87 = .ok (.iload_n 3, 1) := by decide +kernel
theorem dX3_goThrough_88 : decode cX3_goThrough 88 = .ok (.aload_n 0, 1) := by decide +kernel
theorem dX3_goThrough_89 : decode cX3_goThrough 89 = .ok (.getfield 28, 3) := by decide +kernel
theorem dX3_goThrough_92 : decode cX3_goThrough 92 = .ok (.getfield 106, 3) := by decide +kernel
theorem dX3_goThrough_95 : decode cX3_goThrough 95 = .ok (.if_icmp .ge 70, 3) := by decide +kernel
theorem dX3_goThrough_98 : decode cX3_goThrough 98 = .ok (.aload_n 0, 1) := by decide +kernel
theorem dX3_goThrough_99 : decode cX3_goThrough 99 = .ok (.getfield 21, 3) := by decide +kernel
theorem dX3_goThrough_102 : decode cX3_goThrough 102 = .ok (.iload_n 3, 1) := by decide +kernel
theorem dX3_goThrough_103 : decode cX3_goThrough 103 = .ok (.invokevirtual 109, 3) := by decide +kernel
theorem dX3_goThrough_106 : decode cX3_goThrough 106 = .ok (.istore 4, 2) := by decide +kernel
theorem dX3_goThrough_108 : decode cX3_goThrough 108 = .ok (.iconst 0, 1) := by decide +kernel
theorem dX3_goThrough_109 : decode cX3_goThrough 109 = .ok (.istore 5, 2) := by decide +kernel
theorem dX3_goThrough_111 : decode cX3_goThrough 111 = .ok (.iload 5, 2) := by decide +kernel
theorem dX3_goThrough_113 : decode cX3_goThrough 113 = .ok (.iload 4, 2) := by decide +kernel
theorem dX3_goThrough_115 : decode cX3_goThrough 115 = .ok (.if_icmp .ge 44, 3) := by decide +kernel
theorem dX3_goThrough_118 : decode cX3_goThrough 118 = .ok (.iconst 0, 1) := by decide +kernel
theorem dX3_goThrough_119 : decode cX3_goThrough 119 = .ok (.istore 6, 2) := by decide +kernel
theorem dX3_goThrough_121 : decode cX3_goThrough 121 = .ok (.iload 6, 2) := by decide +kernel
theorem dX3_goThrough_123 : decode cX3_goThrough 123 = .ok (.iload_n 2, 1) := by decide +kernel
theorem dX3_goThrough_124 : decode cX3_goThrough 124 = .ok (.if_icmp .ge 29, 3) := by decide +kernel
theorem dX3_goThrough_127 : decode cX3_goThrough 127 = .ok (.aload_n 0, 1) := by decide +kernel
theorem dX3_goThrough_128 : decode cX3_goThrough 128 = .ok (.iload_n 3, 1) := by decide +kernel
theorem dX3_goThrough_129 : decode cX3_goThrough 129 = .ok (.iload 5, 2) := by decide +kernel
theorem dX3_goThrough_131 : decode cX3_goThrough 131 = .ok (.invokevirtual 113, 3) := by decide +kernel
theorem dX3_goThrough_134 : decode cX3_goThrough 134 = .ok (.ifCond .eq 19, 3) := by decide +kernel
theorem dX3_goThrough_137 : decode cX3_goThrough 137 = .ok (.aload_n 0, 1) := by decide +kernel
theorem dX3_goThrough_138 : decode cX3_goThrough 138 = .ok (.iload_n 1, 1) := by decide +kernel
theorem dX3_goThrough_139 : decode cX3_goThrough 139 = .ok (.iload_n 3, 1) := by decide +kernel
theorem dX3_goThrough_140 : decode cX3_goThrough 140 = .ok (.iload 5, 2) := by decide +kernel
theorem dX3_goThrough_142 : decode cX3_goThrough 142 = .ok (.iload 6, 2) := by decide +kernel
theorem dX3_goThrough_144 : decode cX3_goThrough 144 = .ok (.invokevirtual 102, 3) := by decide +kernel
theorem dX3_goThrough_147 : decode cX3_goThrough 147 = .ok (.iinc 6 1, 3) := by decide +kernel
theorem dX3_goThrough_150 : decode cX3_goThrough 150 = .ok (.goto (-29), 3) := by decide +kernel
theorem dX3_goThrough_153 : decode cX3_goThrough 153 = .ok (.iinc 5 1, 3) := by decide +kernel
theorem dX3_goThrough_156 : decode cX3_goThrough 156 = .ok (.goto (-45), 3) := by decide +kernel
theorem dX3_goThrough_159 : decode cX3_goThrough 159 = .ok (.iinc 3 1, 3) := by decide +kernel
theorem dX3_goThrough_162 : decode cX3_goThrough 162 = .ok (.goto (-75), 3) := by decide +kernel
theorem dX3_goThrough_165 : decode cX3_goThrough 165 = .ok (.return_, 1) := by decide +kernel
set_option maxRecDepth 20000 in
theorem ggX3_isStep_X4_messageAt : GoodIn wsX3_isStep wsX4_messageAt := goodIn_r _ [8, 9, 21, 22, 23] (by decide +kernel) (by decide +kernel)
set_option maxRecDepth 20000 in
theorem gX3_isStep_X4_messageAt : GoodIn wsX3_isStep (wsV RX3 117 RX4 yX4_messageAt wsX4_messageAt) := goodIn_app (goodIn_of _ (by decide +kernel)) ggX3_isStep_X4_messageAt
theorem dX3_isStep_0 : decode cX3_isStep 0 = .ok (.iload_n 2, 1) := by decide +kernel
theorem dX3_isStep_1 : decode cX3_isStep 1 = .ok (.ifCond .ne 5, 3) := by decide +kernel
theorem dX3_isStep_4 : decode cX3_isStep 4 = .ok (.iconst 1, 1) := by decide +kernel
theorem dX3_isStep_5 : decode cX3_isStep 5 = .ok (.ireturn, 1) := by decide +kernel
theorem dX3_isStep_6 : decode cX3_isStep 6 = .ok (.aload_n 0, 1) := by decide +kernel
theorem dX3_isStep_7 : decode cX3_isStep 7 = .ok (.getfield 32, 3) := by decide +kernel
theorem dX3_isStep_10 : decode cX3_isStep 10 = .ok (.getfield 64, 3) := by decide +kernel
theorem dX3_isStep_13 : decode cX3_isStep 13 = .ok (.iconst 4, 1) := by decide +kernel
theorem dX3_isStep_14 : decode cX3_isStep 14 = .ok (.iaload, 1) := by decide +kernel
theorem dX3_isStep_15 : decode cX3_isStep 15 = .ok (.ifCond .ne 30, 3) := by decide +kernel
theorem dX3_isStep_18 : decode cX3_isStep 18 = .ok (.aload_n 0, 1) := by decide +kernel
theorem dX3_isStep_19 : decode cX3_isStep 19 = .ok (.getfield 21, 3) := by decide +kernel
theorem dX3_isStep_22 : decode cX3_isStep 22 = .ok (.iload_n 1, 1) := by decide +kernel
theorem dX3_isStep_23 : decode cX3_isStep 23 = .ok (.iload_n 2, 1) := by decide +kernel
theorem dX3_isStep_24 : decode cX3_isStep 24 = .ok (.invokevirtual 117, 3) := by decide +kernel
theorem dX3_isStep_27 : decode cX3_isStep 27 = .ok (.aload_n 0, 1) := by decide +kernel
theorem dX3_isStep_28 : decode cX3_isStep 28 = .ok (.getfield 21, 3) := by decide +kernel
theorem dX3_isStep_31 : decode cX3_isStep 31 = .ok (.iload_n 1, 1) := by decide +kernel
theorem dX3_isStep_32 : decode cX3_isStep 32 = .ok (.iload_n 2, 1) := by decide +kernel
theorem dX3_isStep_33 : decode cX3_isStep 33 = .ok (.iconst 1, 1) := by decide +kernel
theorem dX3_isStep_34 : decode cX3_isStep 34 = .ok (.isub, 1) := by decide +kernel
theorem dX3_isStep_35 : decode cX3_isStep 35 = .ok (.invokevirtual 117, 3) := by decide +kernel
theorem dX3_isStep_38 : decode cX3_isStep 38 = .ok (.if_icmp .eq 7, 3) := by decide +kernel
theorem dX3_isStep_41 : decode cX3_isStep 41 = .ok (.iconst 1, 1) := by decide +kernel
theorem dX3_isStep_42 : decode cX3_isStep 42 = .ok (.goto 4, 3) := by decide +kernel
theorem dX3_isStep_45 : decode cX3_isStep 45 = .ok (.iconst 0, 1) := by decide +kernel
theorem dX3_isStep_46 : decode cX3_isStep 46 = .ok (.ireturn, 1) := by decide +kernel
set_option maxRecDepth 20000 in
theorem ggX3_take_X4_copy : GoodIn wsX3_take wsX4_copy := goodIn_r _ [12, 13, 14, 15, 16, 17, 18, 19, 188, 189, 190] (by decide +kernel) (by decide +kernel)
set_option maxRecDepth 20000 in
theorem gX3_take_X4_copy : GoodIn wsX3_take (wsV RX3 121 RX4 yX4_copy wsX4_copy) := goodIn_app (goodIn_of _ (by decide +kernel)) ggX3_take_X4_copy
set_option maxRecDepth 20000 in
theorem ggX3_take_X4_useDouble : GoodIn wsX3_take wsX4_useDouble := goodIn_r _ [23, 13, 24, 188, 189, 190] (by decide +kernel) (by decide +kernel)
set_option maxRecDepth 20000 in
theorem gX3_take_X4_useDouble : GoodIn wsX3_take (wsV RX3 125 RX4 yX4_useDouble wsX4_useDouble) := goodIn_app (goodIn_of _ (by decide +kernel)) ggX3_take_X4_useDouble
set_option maxRecDepth 20000 in
theorem ggX3_take_X4_markCome : GoodIn wsX3_take wsX4_markCome := goodIn_r _ [28, 13, 188, 189, 190] (by decide +kernel) (by decide +kernel)
set_option maxRecDepth 20000 in
theorem gX3_take_X4_markCome : GoodIn wsX3_take (wsV RX3 128 RX4 yX4_markCome wsX4_markCome) := goodIn_app (goodIn_of _ (by decide +kernel)) ggX3_take_X4_markCome
set_option maxRecDepth 20000 in
theorem ggX3_take_X4_take : GoodIn wsX3_take wsX4_take := goodIn_r _ [32, 15, 14, 188, 189, 190] (by decide +kernel) (by decide +kernel)
set_option maxRecDepth 20000 in
theorem gX3_take_X4_take : GoodIn wsX3_take (wsV RX3 131 RX4 yX4_take wsX4_take) := goodIn_app (goodIn_of _ (by decide +kernel)) ggX3_take_X4_take
set_option maxRecDepth 20000 in
theorem ggX3_take_X4_messageAt : GoodIn wsX3_take wsX4_messageAt := goodIn_r _ [36, 15, 188, 189, 190] (by decide +kernel) (by decide +kernel)
set_option maxRecDepth 20000 in
theorem gX3_take_X4_messageAt : GoodIn wsX3_take (wsV RX3 117 RX4 yX4_messageAt wsX4_messageAt) := goodIn_app (goodIn_of _ (by decide +kernel)) ggX3_take_X4_messageAt
set_option maxRecDepth 20000 in
theorem ggX3_take_X3_deliver : GoodIn wsX3_take wsX3_deliver := goodIn_r _ [41, 2, 42, 43, 4, 44, 45, 46, 47, 48, 49, 50, 11, 51, 13, 52, 53, 54, 55, 56, 57, 58, 59, 60, 61, 62, 63, 64, 65, 66, 67, 68, 69, 70, 71, 72, 73, 74, 75, 76, 77, 78, 79, 80, 81, 82, 83, 84, 85, 86, 87, 88, 89, 15, 14, 90, 91, 92, 93, 94, 34, 35, 36, 170, 171, 172, 173, 174, 175, 176, 177, 178, 191, 192, 179, 180, 181, 182, 183, 184, 185, 186, 187, 188, 189, 190] (by decide +kernel) (by decide +kernel)
set_option maxRecDepth 20000 in
theorem gX3_take_X3_deliver : GoodIn wsX3_take (wsV RX3 142 RX3 yX3_deliver wsX3_deliver) := goodIn_app (goodIn_of _ (by decide +kernel)) ggX3_take_X3_deliver
set_option maxRecDepth 20000 in
theorem ggX3_take_X6_of : GoodIn wsX3_take wsX6_of := goodIn_r _ [98] (by decide +kernel) (by decide +kernel)
set_option maxRecDepth 20000 in
theorem gX3_take_X6_of : GoodIn wsX3_take (va_wsS RX3 145 yX6_of wsX6_of) := goodIn_app (goodIn_of _ (by decide +kernel)) ggX3_take_X6_of
set_option maxRecDepth 20000 in
theorem ggX3_take_X3_keepNext : GoodIn wsX3_take wsX3_keepNext := goodIn_r _ [102, 103, 2, 104, 105, 1, 106, 4, 107, 108, 109, 110, 111, 112, 113, 114, 115, 116, 11, 117, 13, 14, 118, 15, 119, 120, 121, 122, 123, 124, 125, 126, 127, 128, 129, 130, 131, 132, 133, 134, 17, 18, 19, 135, 136, 137, 138, 139, 140, 141, 142, 143, 144, 145, 146, 90, 91, 92, 93, 147, 148, 149, 150, 151, 152, 153, 154, 155, 156, 157, 158, 159, 160, 161, 63, 60, 64, 162, 163, 164, 165, 166, 167, 168, 169, 170, 171, 172, 173, 174, 175, 176, 177, 178, 193, 194, 195, 196, 197, 179, 180, 181, 182, 183, 184, 185, 186, 187, 188, 189, 190, 198, 199, 200, 201, 202, 203, 204, 205, 206, 207] (by decide +kernel) (by decide +kernel)
set_option maxRecDepth 20000 in
theorem gX3_take_X3_keepNext : GoodIn wsX3_take (wsV RX3 74 RX3 yX3_keepNext wsX3_keepNext) := goodIn_app (goodIn_of _ (by decide +kernel)) ggX3_take_X3_keepNext
theorem dX3_take_0 : decode cX3_take 0 = .ok (.aload_n 0, 1) := by decide +kernel
theorem dX3_take_1 : decode cX3_take 1 = .ok (.getfield 47, 3) := by decide +kernel
theorem dX3_take_4 : decode cX3_take 4 = .ok (.ifCond .eq 4, 3) := by decide +kernel
theorem dX3_take_7 : decode cX3_take 7 = .ok (.return_, 1) := by decide +kernel
theorem dX3_take_8 : decode cX3_take 8 = .ok (.aload_n 0, 1) := by decide +kernel
theorem dX3_take_9 : decode cX3_take 9 = .ok (.getfield 25, 3) := by decide +kernel
theorem dX3_take_12 : decode cX3_take 12 = .ok (.aload_n 0, 1) := by decide +kernel
theorem dX3_take_13 : decode cX3_take 13 = .ok (.getfield 21, 3) := by decide +kernel
theorem dX3_take_16 : decode cX3_take 16 = .ok (.invokevirtual 121, 3) := by decide +kernel
theorem dX3_take_19 : decode cX3_take 19 = .ok (.iload_n 2, 1) := by decide +kernel
theorem dX3_take_20 : decode cX3_take 20 = .ok (.bipush 100, 2) := by decide +kernel
theorem dX3_take_22 : decode cX3_take 22 = .ok (.isub, 1) := by decide +kernel
theorem dX3_take_23 : decode cX3_take 23 = .ok (.istore 5, 2) := by decide +kernel
theorem dX3_take_25 : decode cX3_take 25 = .ok (.iload 5, 2) := by decide +kernel
theorem dX3_take_27 : decode cX3_take 27 = .ok (.ifCond .lt 7, 3) := by decide +kernel
theorem dX3_take_30 : decode cX3_take 30 = .ok (.iconst 1, 1) := by decide +kernel
theorem dX3_take_31 : decode cX3_take 31 = .ok (.goto 4, 3) := by decide +kernel
theorem dX3_take_34 : decode cX3_take 34 = .ok (.iconst 0, 1) := by decide +kernel
theorem dX3_take_35 : decode cX3_take 35 = .ok (.istore 6, 2) := by decide +kernel
theorem dX3_take_37 : decode cX3_take 37 = .ok (.iload 4, 2) := by decide +kernel
theorem dX3_take_39 : decode cX3_take 39 = .ok (.iconst 1, 1) := by decide +kernel
theorem dX3_take_40 : decode cX3_take 40 = .ok (.if_icmp .ne 13, 3) := by decide +kernel
theorem dX3_take_43 : decode cX3_take 43 = .ok (.aload_n 0, 1) := by decide +kernel
theorem dX3_take_44 : decode cX3_take 44 = .ok (.getfield 25, 3) := by decide +kernel
theorem dX3_take_47 : decode cX3_take 47 = .ok (.invokevirtual 125, 3) := by decide +kernel
theorem dX3_take_50 : decode cX3_take 50 = .ok (.goto 29, 3) := by decide +kernel
theorem dX3_take_53 : decode cX3_take 53 = .ok (.iload 6, 2) := by decide +kernel
theorem dX3_take_55 : decode cX3_take 55 = .ok (.ifCond .eq 15, 3) := by decide +kernel
theorem dX3_take_58 : decode cX3_take 58 = .ok (.aload_n 0, 1) := by decide +kernel
theorem dX3_take_59 : decode cX3_take 59 = .ok (.getfield 25, 3) := by decide +kernel
theorem dX3_take_62 : decode cX3_take 62 = .ok (.iload 5, 2) := by decide +kernel
theorem dX3_take_64 : decode cX3_take 64 = .ok (.invokevirtual 128, 3) := by decide +kernel
theorem dX3_take_67 : decode cX3_take 67 = .ok (.goto 12, 3) := by decide +kernel
theorem dX3_take_70 : decode cX3_take 70 = .ok (.aload_n 0, 1) := by decide +kernel
theorem dX3_take_71 : decode cX3_take 71 = .ok (.getfield 25, 3) := by decide +kernel
theorem dX3_take_74 : decode cX3_take 74 = .ok (.iload_n 2, 1) := by decide +kernel
theorem dX3_take_75 : decode cX3_take 75 = .ok (.iload_n 3, 1) := by decide +kernel
theorem dX3_take_76 : decode cX3_take 76 = .ok (.invokevirtual 131, 3) := by decide +kernel
theorem dX3_take_79 : decode cX3_take 79 = .ok (.iload 6, 2) := by decide +kernel
theorem dX3_take_81 : decode cX3_take 81 = .ok (.ifCond .eq 16, 3) := by decide +kernel
theorem dX3_take_84 : decode cX3_take 84 = .ok (.aload_n 0, 1) := by decide +kernel
theorem dX3_take_85 : decode cX3_take 85 = .ok (.getfield 28, 3) := by decide +kernel
theorem dX3_take_88 : decode cX3_take 88 = .ok (.getfield 133, 3) := by decide +kernel
theorem dX3_take_91 : decode cX3_take 91 = .ok (.iload 5, 2) := by decide +kernel
theorem dX3_take_93 : decode cX3_take 93 = .ok (.iaload, 1) := by decide +kernel
theorem dX3_take_94 : decode cX3_take 94 = .ok (.goto 12, 3) := by decide +kernel
theorem dX3_take_97 : decode cX3_take 97 = .ok (.aload_n 0, 1) := by decide +kernel
theorem dX3_take_98 : decode cX3_take 98 = .ok (.getfield 21, 3) := by decide +kernel
theorem dX3_take_101 : decode cX3_take 101 = .ok (.iload_n 2, 1) := by decide +kernel
theorem dX3_take_102 : decode cX3_take 102 = .ok (.iload_n 3, 1) := by decide +kernel
theorem dX3_take_103 : decode cX3_take 103 = .ok (.invokevirtual 117, 3) := by decide +kernel
