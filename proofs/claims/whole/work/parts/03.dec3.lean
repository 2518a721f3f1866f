theorem dX8_table_56 : decode cX8_table 56 = .ok (.iload_n 3, 1) := by decide +kernel
theorem dX8_table_57 : decode cX8_table 57 = .ok (.iastore, 1) := by decide +kernel
theorem dX8_table_58 : decode cX8_table 58 = .ok (.iload 4, 2) := by decide +kernel
theorem dX8_table_60 : decode cX8_table 60 = .ok (.ireturn, 1) := by decide +kernel
set_option maxRecDepth 20000 in
theorem ggX8_value_X8_in : GoodIn wsX8_value wsX8_in := goodIn_r _ [6] (by decide +kernel) (by decide +kernel)
set_option maxRecDepth 20000 in
theorem gX8_value_X8_in : GoodIn wsX8_value (va_wsS RX8 67 yX8_in wsX8_in) := goodIn_app (goodIn_of _ (by decide +kernel)) ggX8_value_X8_in
theorem dX8_value_0 : decode cX8_value 0 = .ok (.iload_n 1, 1) := by decide +kernel
theorem dX8_value_1 : decode cX8_value 1 = .ok (.iconst 0, 1) := by decide +kernel
theorem dX8_value_2 : decode cX8_value 2 = .ok (.aload_n 0, 1) := by decide +kernel
theorem dX8_value_3 : decode cX8_value 3 = .ok (.getfield 71, 3) := by decide +kernel
theorem dX8_value_6 : decode cX8_value 6 = .ok (.iconst 1, 1) := by decide +kernel
theorem dX8_value_7 : decode cX8_value 7 = .ok (.isub, 1) := by decide +kernel
theorem dX8_value_8 : decode cX8_value 8 = .ok (.invokestatic 67, 3) := by decide +kernel
theorem dX8_value_11 : decode cX8_value 11 = .ok (.ifCond .ne 6, 3) := by decide +kernel
theorem dX8_value_14 : decode cX8_value 14 = .ok (.bipush (-101), 2) := by decide +kernel
theorem dX8_value_16 : decode cX8_value 16 = .ok (.ireturn, 1) := by decide +kernel
theorem dX8_value_17 : decode cX8_value 17 = .ok (.iload_n 2, 1) := by decide +kernel
theorem dX8_value_18 : decode cX8_value 18 = .ok (.iconst 0, 1) := by decide +kernel
theorem dX8_value_19 : decode cX8_value 19 = .ok (.bipush 15, 2) := by decide +kernel
theorem dX8_value_21 : decode cX8_value 21 = .ok (.invokestatic 67, 3) := by decide +kernel
theorem dX8_value_24 : decode cX8_value 24 = .ok (.ifCond .ne 6, 3) := by decide +kernel
theorem dX8_value_27 : decode cX8_value 27 = .ok (.bipush (-102), 2) := by decide +kernel
theorem dX8_value_29 : decode cX8_value 29 = .ok (.ireturn, 1) := by decide +kernel
theorem dX8_value_30 : decode cX8_value 30 = .ok (.aload_n 0, 1) := by decide +kernel
theorem dX8_value_31 : decode cX8_value 31 = .ok (.getfield 7, 3) := by decide +kernel
theorem dX8_value_34 : decode cX8_value 34 = .ok (.iload_n 1, 1) := by decide +kernel
theorem dX8_value_35 : decode cX8_value 35 = .ok (.iaload, 1) := by decide +kernel
theorem dX8_value_36 : decode cX8_value 36 = .ok (.istore_n 3, 1) := by decide +kernel
theorem dX8_value_37 : decode cX8_value 37 = .ok (.aload_n 0, 1) := by decide +kernel
theorem dX8_value_38 : decode cX8_value 38 = .ok (.getfield 7, 3) := by decide +kernel
theorem dX8_value_41 : decode cX8_value 41 = .ok (.iload_n 1, 1) := by decide +kernel
theorem dX8_value_42 : decode cX8_value 42 = .ok (.iload_n 2, 1) := by decide +kernel
theorem dX8_value_43 : decode cX8_value 43 = .ok (.iastore, 1) := by decide +kernel
theorem dX8_value_44 : decode cX8_value 44 = .ok (.iload_n 3, 1) := by decide +kernel
theorem dX8_value_45 : decode cX8_value 45 = .ok (.ireturn, 1) := by decide +kernel
theorem dX8_folded_0 : decode cX8_folded 0 = .ok (.aload_n 0, 1) := by decide +kernel
theorem dX8_folded_1 : decode cX8_folded 1 = .ok (.getfield 28, 3) := by decide +kernel
theorem dX8_folded_4 : decode cX8_folded 4 = .ok (.iconst 0, 1) := by decide +kernel
theorem dX8_folded_5 : decode cX8_folded 5 = .ok (.iaload, 1) := by decide +kernel
theorem dX8_folded_6 : decode cX8_folded 6 = .ok (.tableswitch 104 0 8 #[50, 57, 68, 79, 83, 85, 87, 96, 100], 50) := by decide +kernel
theorem dX8_folded_56 : decode cX8_folded 56 = .ok (.iload_n 1, 1) := by decide +kernel
theorem dX8_folded_57 : decode cX8_folded 57 = .ok (.iload_n 2, 1) := by decide +kernel
theorem dX8_folded_58 : decode cX8_folded 58 = .ok (.iadd, 1) := by decide +kernel
theorem dX8_folded_59 : decode cX8_folded 59 = .ok (.bipush 16, 2) := by decide +kernel
theorem dX8_folded_61 : decode cX8_folded 61 = .ok (.irem, 1) := by decide +kernel
theorem dX8_folded_62 : decode cX8_folded 62 = .ok (.ireturn, 1) := by decide +kernel
theorem dX8_folded_63 : decode cX8_folded 63 = .ok (.iload_n 1, 1) := by decide +kernel
theorem dX8_folded_64 : decode cX8_folded 64 = .ok (.iload_n 2, 1) := by decide +kernel
theorem dX8_folded_65 : decode cX8_folded 65 = .ok (.if_icmp .ge 7, 3) := by decide +kernel
theorem dX8_folded_68 : decode cX8_folded 68 = .ok (.iload_n 1, 1) := by decide +kernel
theorem dX8_folded_69 : decode cX8_folded 69 = .ok (.goto 4, 3) := by decide +kernel
theorem dX8_folded_72 : decode cX8_folded 72 = .ok (.iload_n 2, 1) := by decide +kernel
theorem dX8_folded_73 : decode cX8_folded 73 = .ok (.ireturn, 1) := by decide +kernel
theorem dX8_folded_74 : decode cX8_folded 74 = .ok (.iload_n 1, 1) := by decide +kernel
theorem dX8_folded_75 : decode cX8_folded 75 = .ok (.iload_n 2, 1) := by decide +kernel
theorem dX8_folded_76 : decode cX8_folded 76 = .ok (.if_icmp .le 7, 3) := by decide +kernel
theorem dX8_folded_79 : decode cX8_folded 79 = .ok (.iload_n 1, 1) := by decide +kernel
theorem dX8_folded_80 : decode cX8_folded 80 = .ok (.goto 4, 3) := by decide +kernel
theorem dX8_folded_83 : decode cX8_folded 83 = .ok (.iload_n 2, 1) := by decide +kernel
theorem dX8_folded_84 : decode cX8_folded 84 = .ok (.ireturn, 1) := by decide +kernel
theorem dX8_folded_85 : decode cX8_folded 85 = .ok (.iload_n 1, 1) := by decide +kernel
theorem dX8_folded_86 : decode cX8_folded 86 = .ok (.iload_n 2, 1) := by decide +kernel
theorem dX8_folded_87 : decode cX8_folded 87 = .ok (.ixor, 1) := by decide +kernel
theorem dX8_folded_88 : decode cX8_folded 88 = .ok (.ireturn, 1) := by decide +kernel
theorem dX8_folded_89 : decode cX8_folded 89 = .ok (.iload_n 2, 1) := by decide +kernel
theorem dX8_folded_90 : decode cX8_folded 90 = .ok (.ireturn, 1) := by decide +kernel
theorem dX8_folded_91 : decode cX8_folded 91 = .ok (.iload_n 1, 1) := by decide +kernel
theorem dX8_folded_92 : decode cX8_folded 92 = .ok (.ireturn, 1) := by decide +kernel
theorem dX8_folded_93 : decode cX8_folded 93 = .ok (.iconst 2, 1) := by decide +kernel
theorem dX8_folded_94 : decode cX8_folded 94 = .ok (.iload_n 1, 1) := by decide +kernel
theorem dX8_folded_95 : decode cX8_folded 95 = .ok (.imul, 1) := by decide +kernel
theorem dX8_folded_96 : decode cX8_folded 96 = .ok (.iload_n 2, 1) := by decide +kernel
theorem dX8_folded_97 : decode cX8_folded 97 = .ok (.iadd, 1) := by decide +kernel
theorem dX8_folded_98 : decode cX8_folded 98 = .ok (.bipush 16, 2) := by decide +kernel
theorem dX8_folded_100 : decode cX8_folded 100 = .ok (.irem, 1) := by decide +kernel
theorem dX8_folded_101 : decode cX8_folded 101 = .ok (.ireturn, 1) := by decide +kernel
theorem dX8_folded_102 : decode cX8_folded 102 = .ok (.iload_n 1, 1) := by decide +kernel
theorem dX8_folded_103 : decode cX8_folded 103 = .ok (.iload_n 2, 1) := by decide +kernel
theorem dX8_folded_104 : decode cX8_folded 104 = .ok (.iand, 1) := by decide +kernel
theorem dX8_folded_105 : decode cX8_folded 105 = .ok (.ireturn, 1) := by decide +kernel
theorem dX8_folded_106 : decode cX8_folded 106 = .ok (.iload_n 1, 1) := by decide +kernel
theorem dX8_folded_107 : decode cX8_folded 107 = .ok (.iload_n 2, 1) := by decide +kernel
theorem dX8_folded_108 : decode cX8_folded 108 = .ok (.ior, 1) := by decide +kernel
theorem dX8_folded_109 : decode cX8_folded 109 = .ok (.ireturn, 1) := by decide +kernel
theorem dX8_folded_110 : decode cX8_folded 110 = .ok (.aload_n 0, 1) := by decide +kernel
theorem dX8_folded_111 : decode cX8_folded 111 = .ok (.getfield 31, 3) := by decide +kernel
theorem dX8_folded_114 : decode cX8_folded 114 = .ok (.bipush 16, 2) := by decide +kernel
theorem dX8_folded_116 : decode cX8_folded 116 = .ok (.iload_n 1, 1) := by decide +kernel
theorem dX8_folded_117 : decode cX8_folded 117 = .ok (.imul, 1) := by decide +kernel
theorem dX8_folded_118 : decode cX8_folded 118 = .ok (.iload_n 2, 1) := by decide +kernel
theorem dX8_folded_119 : decode cX8_folded 119 = .ok (.iadd, 1) := by decide +kernel
theorem dX8_folded_120 : decode cX8_folded 120 = .ok (.iaload, 1) := by decide +kernel
theorem dX8_folded_121 : decode cX8_folded 121 = .ok (.ireturn, 1) := by decide +kernel
theorem dX8_outOf_0 : decode cX8_outOf 0 = .ok (.aload_n 0, 1) := by decide +kernel
theorem dX8_outOf_1 : decode cX8_outOf 1 = .ok (.getfield 28, 3) := by decide +kernel
theorem dX8_outOf_4 : decode cX8_outOf 4 = .ok (.iconst 1, 1) := by decide +kernel
theorem dX8_outOf_5 : decode cX8_outOf 5 = .ok (.iaload, 1) := by decide +kernel
theorem dX8_outOf_6 : decode cX8_outOf 6 = .ok (.tableswitch 61 0 3 #[30, 32, 39, 50], 30) := by decide +kernel
theorem dX8_outOf_36 : decode cX8_outOf 36 = .ok (.iload_n 1, 1) := by decide +kernel
theorem dX8_outOf_37 : decode cX8_outOf 37 = .ok (.ireturn, 1) := by decide +kernel
theorem dX8_outOf_38 : decode cX8_outOf 38 = .ok (.iload_n 1, 1) := by decide +kernel
theorem dX8_outOf_39 : decode cX8_outOf 39 = .ok (.iload_n 2, 1) := by decide +kernel
theorem dX8_outOf_40 : decode cX8_outOf 40 = .ok (.iadd, 1) := by decide +kernel
theorem dX8_outOf_41 : decode cX8_outOf 41 = .ok (.bipush 16, 2) := by decide +kernel
theorem dX8_outOf_43 : decode cX8_outOf 43 = .ok (.irem, 1) := by decide +kernel
theorem dX8_outOf_44 : decode cX8_outOf 44 = .ok (.ireturn, 1) := by decide +kernel
theorem dX8_outOf_45 : decode cX8_outOf 45 = .ok (.iload_n 1, 1) := by decide +kernel
theorem dX8_outOf_46 : decode cX8_outOf 46 = .ok (.iload_n 2, 1) := by decide +kernel
theorem dX8_outOf_47 : decode cX8_outOf 47 = .ok (.if_icmp .ge 7, 3) := by decide +kernel
theorem dX8_outOf_50 : decode cX8_outOf 50 = .ok (.iload_n 1, 1) := by decide +kernel
theorem dX8_outOf_51 : decode cX8_outOf 51 = .ok (.goto 4, 3) := by decide +kernel
theorem dX8_outOf_54 : decode cX8_outOf 54 = .ok (.iload_n 2, 1) := by decide +kernel
theorem dX8_outOf_55 : decode cX8_outOf 55 = .ok (.ireturn, 1) := by decide +kernel
theorem dX8_outOf_56 : decode cX8_outOf 56 = .ok (.iload_n 1, 1) := by decide +kernel
theorem dX8_outOf_57 : decode cX8_outOf 57 = .ok (.iload_n 2, 1) := by decide +kernel
theorem dX8_outOf_58 : decode cX8_outOf 58 = .ok (.if_icmp .le 7, 3) := by decide +kernel
theorem dX8_outOf_61 : decode cX8_outOf 61 = .ok (.iload_n 1, 1) := by decide +kernel
theorem dX8_outOf_62 : decode cX8_outOf 62 = .ok (.goto 4, 3) := by decide +kernel
theorem dX8_outOf_65 : decode cX8_outOf 65 = .ok (.iload_n 2, 1) := by decide +kernel
theorem dX8_outOf_66 : decode cX8_outOf 66 = .ok (.ireturn, 1) := by decide +kernel
theorem dX8_outOf_67 : decode cX8_outOf 67 = .ok (.iload_n 1, 1) := by decide +kernel
theorem dX8_outOf_68 : decode cX8_outOf 68 = .ok (.iload_n 2, 1) := by decide +kernel
theorem dX8_outOf_69 : decode cX8_outOf 69 = .ok (.imul, 1) := by decide +kernel
theorem dX8_outOf_70 : decode cX8_outOf 70 = .ok (.bipush 16, 2) := by decide +kernel
theorem dX8_outOf_72 : decode cX8_outOf 72 = .ok (.irem, 1) := by decide +kernel
theorem dX8_outOf_73 : decode cX8_outOf 73 = .ok (.ireturn, 1) := by decide +kernel
set_option maxRecDepth 20000 in
theorem ggX8_fold_X8_in : GoodIn wsX8_fold wsX8_in := goodIn_r _ [4] (by decide +kernel) (by decide +kernel)
set_option maxRecDepth 20000 in
theorem gX8_fold_X8_in : GoodIn wsX8_fold (va_wsS RX8 67 yX8_in wsX8_in) := goodIn_app (goodIn_of _ (by decide +kernel)) ggX8_fold_X8_in
set_option maxRecDepth 20000 in
theorem ggX8_fold_X8_folded : GoodIn wsX8_fold wsX8_folded := goodIn_r _ [8, 9, 10, 11, 12, 13, 14, 15, 16, 17, 18, 19, 20, 21, 22, 23, 24, 25, 26, 27, 28, 29, 30, 31, 32, 33, 34, 35, 36, 37, 38, 39] (by decide +kernel) (by decide +kernel)
set_option maxRecDepth 20000 in
theorem gX8_fold_X8_folded : GoodIn wsX8_fold (wsV RX8 85 RX8 yX8_folded wsX8_folded) := goodIn_app (goodIn_of _ (by decide +kernel)) ggX8_fold_X8_folded
theorem dX8_fold_0 : decode cX8_fold 0 = .ok (.iload_n 1, 1) := by decide +kernel
theorem dX8_fold_1 : decode cX8_fold 1 = .ok (.iconst 0, 1) := by decide +kernel
theorem dX8_fold_2 : decode cX8_fold 2 = .ok (.bipush 15, 2) := by decide +kernel
theorem dX8_fold_4 : decode cX8_fold 4 = .ok (.invokestatic 67, 3) := by decide +kernel
theorem dX8_fold_7 : decode cX8_fold 7 = .ok (.ifCond .eq 22, 3) := by decide +kernel
theorem dX8_fold_10 : decode cX8_fold 10 = .ok (.iload_n 2, 1) := by decide +kernel
theorem dX8_fold_11 : decode cX8_fold 11 = .ok (.iconst 0, 1) := by decide +kernel
theorem dX8_fold_12 : decode cX8_fold 12 = .ok (.bipush 15, 2) := by decide +kernel
theorem dX8_fold_14 : decode cX8_fold 14 = .ok (.invokestatic 67, 3) := by decide +kernel
theorem dX8_fold_17 : decode cX8_fold 17 = .ok (.ifCond .eq 12, 3) := by decide +kernel
theorem dX8_fold_20 : decode cX8_fold 20 = .ok (.aload_n 0, 1) := by decide +kernel
theorem dX8_fold_21 : decode cX8_fold 21 = .ok (.iload_n 1, 1) := by decide +kernel
theorem dX8_fold_22 : decode cX8_fold 22 = .ok (.iload_n 2, 1) := by decide +kernel
theorem dX8_fold_23 : decode cX8_fold 23 = .ok (.invokevirtual 85, 3) := by decide +kernel
theorem dX8_fold_26 : decode cX8_fold 26 = .ok (.goto 5, 3) := by decide +kernel
theorem dX8_fold_29 : decode cX8_fold 29 = .ok (.bipush (-102), 2) := by decide +kernel
theorem dX8_fold_31 : decode cX8_fold 31 = .ok (.ireturn, 1) := by decide +kernel
set_option maxRecDepth 20000 in
theorem ggX8_out_X8_in : GoodIn wsX8_out wsX8_in := goodIn_r _ [4] (by decide +kernel) (by decide +kernel)
set_option maxRecDepth 20000 in
theorem gX8_out_X8_in : GoodIn wsX8_out (va_wsS RX8 67 yX8_in wsX8_in) := goodIn_app (goodIn_of _ (by decide +kernel)) ggX8_out_X8_in
set_option maxRecDepth 20000 in
theorem ggX8_out_X8_outOf : GoodIn wsX8_out wsX8_outOf := goodIn_r _ [8, 9, 10, 11, 12, 13, 14, 15, 16, 17, 18, 19, 20, 21, 22, 23, 24, 25, 26, 27, 28, 29, 30, 31, 32, 33, 34, 35, 36, 37, 38] (by decide +kernel) (by decide +kernel)
set_option maxRecDepth 20000 in
theorem gX8_out_X8_outOf : GoodIn wsX8_out (wsV RX8 89 RX8 yX8_outOf wsX8_outOf) := goodIn_app (goodIn_of _ (by decide +kernel)) ggX8_out_X8_outOf
theorem dX8_out_0 : decode cX8_out 0 = .ok (.iload_n 1, 1) := by decide +kernel
theorem dX8_out_1 : decode cX8_out 1 = .ok (.iconst 0, 1) := by decide +kernel
theorem dX8_out_2 : decode cX8_out 2 = .ok (.bipush 15, 2) := by decide +kernel
theorem dX8_out_4 : decode cX8_out 4 = .ok (.invokestatic 67, 3) := by decide +kernel
theorem dX8_out_7 : decode cX8_out 7 = .ok (.ifCond .eq 22, 3) := by decide +kernel
theorem dX8_out_10 : decode cX8_out 10 = .ok (.iload_n 2, 1) := by decide +kernel
theorem dX8_out_11 : decode cX8_out 11 = .ok (.iconst 0, 1) := by decide +kernel
theorem dX8_out_12 : decode cX8_out 12 = .ok (.bipush 15, 2) := by decide +kernel
theorem dX8_out_14 : decode cX8_out 14 = .ok (.invokestatic 67, 3) := by decide +kernel
theorem dX8_out_17 : decode cX8_out 17 = .ok (.ifCond .eq 12, 3) := by decide +kernel
theorem dX8_out_20 : decode cX8_out 20 = .ok (.aload_n 0, 1) := by decide +kernel
theorem dX8_out_21 : decode cX8_out 21 = .ok (.iload_n 1, 1) := by decide +kernel
theorem dX8_out_22 : decode cX8_out 22 = .ok (.iload_n 2, 1) := by decide +kernel
theorem dX8_out_23 : decode cX8_out 23 = .ok (.invokevirtual 89, 3) := by decide +kernel
theorem dX8_out_26 : decode cX8_out 26 = .ok (.goto 5, 3) := by decide +kernel
theorem dX8_out_29 : decode cX8_out 29 = .ok (.bipush (-102), 2) := by decide +kernel
theorem dX8_out_31 : decode cX8_out 31 = .ok (.ireturn, 1) := by decide +kernel
set_option maxRecDepth 20000 in
theorem ggX8_holds_X8_folded : GoodIn wsX8_holds wsX8_folded := goodIn_r _ [5, 6, 7, 8, 9, 10, 11, 12, 13, 14, 15, 16, 17, 18, 19, 20, 21, 22, 23, 24, 25, 26, 27, 28, 29, 30, 31, 32, 33, 34, 35, 36] (by decide +kernel) (by decide +kernel)
set_option maxRecDepth 20000 in
theorem gX8_holds_X8_folded : GoodIn wsX8_holds (wsV RX8 85 RX8 yX8_folded wsX8_folded) := goodIn_app (goodIn_of _ (by decide +kernel)) ggX8_holds_X8_folded
theorem dX8_holds_0 : decode cX8_holds 0 = .ok (.iload_n 1, 1) := by decide +kernel
theorem dX8_holds_1 : decode cX8_holds 1 = .ok (.tableswitch 196 0 5 #[39, 72, 93, 109, 142, 168], 39) := by decide +kernel
theorem dX8_holds_40 : decode cX8_holds 40 = .ok (.aload_n 0, 1) := by decide +kernel
theorem dX8_holds_41 : decode cX8_holds 41 = .ok (.aload_n 0, 1) := by decide +kernel
theorem dX8_holds_42 : decode cX8_holds 42 = .ok (.iload_n 2, 1) := by decide +kernel
theorem dX8_holds_43 : decode cX8_holds 43 = .ok (.iload_n 3, 1) := by decide +kernel
theorem dX8_holds_44 : decode cX8_holds 44 = .ok (.invokevirtual 85, 3) := by decide +kernel
theorem dX8_holds_47 : decode cX8_holds 47 = .ok (.iload 4, 2) := by decide +kernel
theorem dX8_holds_49 : decode cX8_holds 49 = .ok (.invokevirtual 85, 3) := by decide +kernel
theorem dX8_holds_52 : decode cX8_holds 52 = .ok (.aload_n 0, 1) := by decide +kernel
theorem dX8_holds_53 : decode cX8_holds 53 = .ok (.iload_n 2, 1) := by decide +kernel
theorem dX8_holds_54 : decode cX8_holds 54 = .ok (.aload_n 0, 1) := by decide +kernel
theorem dX8_holds_55 : decode cX8_holds 55 = .ok (.iload_n 3, 1) := by decide +kernel
theorem dX8_holds_56 : decode cX8_holds 56 = .ok (.iload 4, 2) := by decide +kernel
theorem dX8_holds_58 : decode cX8_holds 58 = .ok (.invokevirtual 85, 3) := by decide +kernel
theorem dX8_holds_61 : decode cX8_holds 61 = .ok (.invokevirtual 85, 3) := by decide +kernel
theorem dX8_holds_64 : decode cX8_holds 64 = .ok (.if_icmp .ne 7, 3) := by decide +kernel
theorem dX8_holds_67 : decode cX8_holds 67 = .ok (.iconst 1, 1) := by decide +kernel
theorem dX8_holds_68 : decode cX8_holds 68 = .ok (.goto 4, 3) := by decide +kernel
theorem dX8_holds_71 : decode cX8_holds 71 = .ok (.iconst 0, 1) := by decide +kernel
theorem dX8_holds_72 : decode cX8_holds 72 = .ok (.ireturn, 1) := by decide +kernel
theorem dX8_holds_73 : decode cX8_holds 73 = .ok (.aload_n 0, 1) := by decide +kernel
theorem dX8_holds_74 : decode cX8_holds 74 = .ok (.iload_n 2, 1) := by decide +kernel
theorem dX8_holds_75 : decode cX8_holds 75 = .ok (.iload_n 3, 1) := by decide +kernel
theorem dX8_holds_76 : decode cX8_holds 76 = .ok (.invokevirtual 85, 3) := by decide +kernel
theorem dX8_holds_79 : decode cX8_holds 79 = .ok (.aload_n 0, 1) := by decide +kernel
theorem dX8_holds_80 : decode cX8_holds 80 = .ok (.iload_n 3, 1) := by decide +kernel
theorem dX8_holds_81 : decode cX8_holds 81 = .ok (.iload_n 2, 1) := by decide +kernel
theorem dX8_holds_82 : decode cX8_holds 82 = .ok (.invokevirtual 85, 3) := by decide +kernel
theorem dX8_holds_85 : decode cX8_holds 85 = .ok (.if_icmp .ne 7, 3) := by decide +kernel
theorem dX8_holds_88 : decode cX8_holds 88 = .ok (.iconst 1, 1) := by decide +kernel
theorem dX8_holds_89 : decode cX8_holds 89 = .ok (.goto 4, 3) := by decide +kernel
theorem dX8_holds_92 : decode cX8_holds 92 = .ok (.iconst 0, 1) := by decide +kernel
theorem dX8_holds_93 : decode cX8_holds 93 = .ok (.ireturn, 1) := by decide +kernel
theorem dX8_holds_94 : decode cX8_holds 94 = .ok (.aload_n 0, 1) := by decide +kernel
theorem dX8_holds_95 : decode cX8_holds 95 = .ok (.iload_n 2, 1) := by decide +kernel
theorem dX8_holds_96 : decode cX8_holds 96 = .ok (.iload_n 2, 1) := by decide +kernel
theorem dX8_holds_97 : decode cX8_holds 97 = .ok (.invokevirtual 85, 3) := by decide +kernel
theorem dX8_holds_100 : decode cX8_holds 100 = .ok (.iload_n 2, 1) := by decide +kernel
theorem dX8_holds_101 : decode cX8_holds 101 = .ok (.if_icmp .ne 7, 3) := by decide +kernel
theorem dX8_holds_104 : decode cX8_holds 104 = .ok (.iconst 1, 1) := by decide +kernel
theorem dX8_holds_105 : decode cX8_holds 105 = .ok (.goto 4, 3) := by decide +kernel
theorem dX8_holds_108 : decode cX8_holds 108 = .ok (.iconst 0, 1) := by decide +kernel
theorem dX8_holds_109 : decode cX8_holds 109 = .ok (.ireturn, 1) := by decide +kernel
theorem dX8_holds_110 : decode cX8_holds 110 = .ok (.aload_n 0, 1) := by decide +kernel
theorem dX8_holds_111 : decode cX8_holds 111 = .ok (.aload_n 0, 1) := by decide +kernel
theorem dX8_holds_112 : decode cX8_holds 112 = .ok (.iload_n 2, 1) := by decide +kernel
theorem dX8_holds_113 : decode cX8_holds 113 = .ok (.iload_n 3, 1) := by decide +kernel
theorem dX8_holds_114 : decode cX8_holds 114 = .ok (.invokevirtual 85, 3) := by decide +kernel
theorem dX8_holds_117 : decode cX8_holds 117 = .ok (.iload 4, 2) := by decide +kernel
theorem dX8_holds_119 : decode cX8_holds 119 = .ok (.invokevirtual 85, 3) := by decide +kernel
theorem dX8_holds_122 : decode cX8_holds 122 = .ok (.aload_n 0, 1) := by decide +kernel
theorem dX8_holds_123 : decode cX8_holds 123 = .ok (.aload_n 0, 1) := by decide +kernel
theorem dX8_holds_124 : decode cX8_holds 124 = .ok (.iload_n 2, 1) := by decide +kernel
theorem dX8_holds_125 : decode cX8_holds 125 = .ok (.iload 4, 2) := by decide +kernel
theorem dX8_holds_127 : decode cX8_holds 127 = .ok (.invokevirtual 85, 3) := by decide +kernel
theorem dX8_holds_130 : decode cX8_holds 130 = .ok (.iload_n 3, 1) := by decide +kernel
theorem dX8_holds_131 : decode cX8_holds 131 = .ok (.invokevirtual 85, 3) := by decide +kernel
theorem dX8_holds_134 : decode cX8_holds 134 = .ok (.if_icmp .ne 7, 3) := by decide +kernel
theorem dX8_holds_137 : decode cX8_holds 137 = .ok (.iconst 1, 1) := by decide +kernel
theorem dX8_holds_138 : decode cX8_holds 138 = .ok (.goto 4, 3) := by decide +kernel
theorem dX8_holds_141 : decode cX8_holds 141 = .ok (.iconst 0, 1) := by decide +kernel
theorem dX8_holds_142 : decode cX8_holds 142 = .ok (.ireturn, 1) := by decide +kernel
theorem dX8_holds_143 : decode cX8_holds 143 = .ok (.aload_n 0, 1) := by decide +kernel
theorem dX8_holds_144 : decode cX8_holds 144 = .ok (.aload_n 0, 1) := by decide +kernel
theorem dX8_holds_145 : decode cX8_holds 145 = .ok (.iload_n 2, 1) := by decide +kernel
theorem dX8_holds_146 : decode cX8_holds 146 = .ok (.iload_n 3, 1) := by decide +kernel
theorem dX8_holds_147 : decode cX8_holds 147 = .ok (.invokevirtual 85, 3) := by decide +kernel
theorem dX8_holds_150 : decode cX8_holds 150 = .ok (.iload_n 3, 1) := by decide +kernel
theorem dX8_holds_151 : decode cX8_holds 151 = .ok (.invokevirtual 85, 3) := by decide +kernel
theorem dX8_holds_154 : decode cX8_holds 154 = .ok (.aload_n 0, 1) := by decide +kernel
theorem dX8_holds_155 : decode cX8_holds 155 = .ok (.iload_n 2, 1) := by decide +kernel
theorem dX8_holds_156 : decode cX8_holds 156 = .ok (.iload_n 3, 1) := by decide +kernel
theorem dX8_holds_157 : decode cX8_holds 157 = .ok (.invokevirtual 85, 3) := by decide +kernel
theorem dX8_holds_160 : decode cX8_holds 160 = .ok (.if_icmp .ne 7, 3) := by decide +kernel
theorem dX8_holds_163 : decode cX8_holds 163 = .ok (.iconst 1, 1) := by decide +kernel
theorem dX8_holds_164 : decode cX8_holds 164 = .ok (.goto 4, 3) := by decide +kernel
theorem dX8_holds_167 : decode cX8_holds 167 = .ok (.iconst 0, 1) := by decide +kernel
theorem dX8_holds_168 : decode cX8_holds 168 = .ok (.ireturn, 1) := by decide +kernel
theorem dX8_holds_169 : decode cX8_holds 169 = .ok (.iload_n 2, 1) := by decide +kernel
theorem dX8_holds_170 : decode cX8_holds 170 = .ok (.iload_n 3, 1) := by decide +kernel
theorem dX8_holds_171 : decode cX8_holds 171 = .ok (.if_icmp .gt 20, 3) := by decide +kernel
theorem dX8_holds_174 : decode cX8_holds 174 = .ok (.aload_n 0, 1) := by decide +kernel
theorem dX8_holds_175 : decode cX8_holds 175 = .ok (.iload_n 2, 1) := by decide +kernel
theorem dX8_holds_176 : decode cX8_holds 176 = .ok (.iload 4, 2) := by decide +kernel
theorem dX8_holds_178 : decode cX8_holds 178 = .ok (.invokevirtual 85, 3) := by decide +kernel
theorem dX8_holds_181 : decode cX8_holds 181 = .ok (.aload_n 0, 1) := by decide +kernel
theorem dX8_holds_182 : decode cX8_holds 182 = .ok (.iload_n 3, 1) := by decide +kernel
theorem dX8_holds_183 : decode cX8_holds 183 = .ok (.iload 4, 2) := by decide +kernel
theorem dX8_holds_185 : decode cX8_holds 185 = .ok (.invokevirtual 85, 3) := by decide +kernel
theorem dX8_holds_188 : decode cX8_holds 188 = .ok (.if_icmp .gt 7, 3) := by decide +kernel
theorem dX8_holds_191 : decode cX8_holds 191 = .ok (.iconst 1, 1) := by decide +kernel
theorem dX8_holds_192 : decode cX8_holds 192 = .ok (.goto 4, 3) := by decide +kernel
theorem dX8_holds_195 : decode cX8_holds 195 = .ok (.iconst 0, 1) := by decide +kernel
theorem dX8_holds_196 : decode cX8_holds 196 = .ok (.ireturn, 1) := by decide +kernel
theorem dX8_holds_197 : decode cX8_holds 197 = .ok (.aload_n 0, 1) := by decide +kernel
theorem dX8_holds_198 : decode cX8_holds 198 = .ok (.iload_n 2, 1) := by decide +kernel
theorem dX8_holds_199 : decode cX8_holds 199 = .ok (.iload_n 3, 1) := by decide +kernel
theorem dX8_holds_200 : decode cX8_holds 200 = .ok (.invokevirtual 85, 3) := by decide +kernel
theorem dX8_holds_203 : decode cX8_holds 203 = .ok (.iload_n 2, 1) := by decide +kernel
theorem dX8_holds_204 : decode cX8_holds 204 = .ok (.if_icmp .gt 7, 3) := by decide +kernel
theorem dX8_holds_207 : decode cX8_holds 207 = .ok (.iconst 1, 1) := by decide +kernel
theorem dX8_holds_208 : decode cX8_holds 208 = .ok (.goto 4, 3) := by decide +kernel
theorem dX8_holds_211 : decode cX8_holds 211 = .ok (.iconst 0, 1) := by decide +kernel
theorem dX8_holds_212 : decode cX8_holds 212 = .ok (.ireturn, 1) := by decide +kernel
set_option maxRecDepth 20000 in
theorem ggX8_law_X8_in : GoodIn wsX8_law wsX8_in := goodIn_r _ [4] (by decide +kernel) (by decide +kernel)
set_option maxRecDepth 20000 in
theorem gX8_law_X8_in : GoodIn wsX8_law (va_wsS RX8 67 yX8_in wsX8_in) := goodIn_app (goodIn_of _ (by decide +kernel)) ggX8_law_X8_in
set_option maxRecDepth 20000 in
theorem ggX8_law_X8_holds : GoodIn wsX8_law wsX8_holds := goodIn_r _ [8, 9, 10, 11, 3, 12, 13, 14, 15, 16, 17, 18, 19, 20, 21, 22, 23, 24, 25, 26, 27, 28, 29, 30, 31, 32, 33, 34, 35, 36, 37, 38, 39, 40, 41, 42, 43] (by decide +kernel) (by decide +kernel)
set_option maxRecDepth 20000 in
theorem gX8_law_X8_holds : GoodIn wsX8_law (wsV RX8 92 RX8 yX8_holds wsX8_holds) := goodIn_app (goodIn_of _ (by decide +kernel)) ggX8_law_X8_holds
theorem dX8_law_0 : decode cX8_law 0 = .ok (.iload_n 1, 1) := by decide +kernel
theorem dX8_law_1 : decode cX8_law 1 = .ok (.iconst 0, 1) := by decide +kernel
theorem dX8_law_2 : decode cX8_law 2 = .ok (.bipush 6, 2) := by decide +kernel
theorem dX8_law_4 : decode cX8_law 4 = .ok (.invokestatic 67, 3) := by decide +kernel
theorem dX8_law_7 : decode cX8_law 7 = .ok (.ifCond .ne 6, 3) := by decide +kernel
theorem dX8_law_10 : decode cX8_law 10 = .ok (.bipush (-102), 2) := by decide +kernel
theorem dX8_law_12 : decode cX8_law 12 = .ok (.ireturn, 1) := by decide +kernel
theorem dX8_law_13 : decode cX8_law 13 = .ok (.iload_n 1, 1) := by decide +kernel
theorem dX8_law_14 : decode cX8_law 14 = .ok (.iconst 2, 1) := by decide +kernel
theorem dX8_law_15 : decode cX8_law 15 = .ok (.if_icmp .ne 7, 3) := by decide +kernel
theorem dX8_law_18 : decode cX8_law 18 = .ok (.iconst 1, 1) := by decide +kernel
theorem dX8_law_19 : decode cX8_law 19 = .ok (.goto 5, 3) := by decide +kernel
theorem dX8_law_22 : decode cX8_law 22 = .ok (.bipush 16, 2) := by decide +kernel
theorem dX8_law_24 : decode cX8_law 24 = .ok (.istore_n 2, 1) := by decide +kernel
theorem dX8_law_25 : decode cX8_law 25 = .ok (.iload_n 1, 1) := by decide +kernel
theorem dX8_law_26 : decode cX8_law 26 = .ok (.ifCond .eq 13, 3) := by decide +kernel
theorem dX8_law_29 : decode cX8_law 29 = .ok (.iload_n 1, 1) := by decide +kernel
theorem dX8_law_30 : decode cX8_law 30 = .ok (.iconst 3, 1) := by decide +kernel
theorem dX8_law_31 : decode cX8_law 31 = .ok (.if_icmp .eq 8, 3) := by decide +kernel
theorem dX8_law_34 : decode cX8_law 34 = .ok (.iload_n 1, 1) := by decide +kernel
theorem dX8_law_35 : decode cX8_law 35 = .ok (.iconst 5, 1) := by decide +kernel
theorem dX8_law_36 : decode cX8_law 36 = .ok (.if_icmp .ne 8, 3) := by decide +kernel
theorem dX8_law_39 : decode cX8_law 39 = .ok (.bipush 16, 2) := by decide +kernel
theorem dX8_law_41 : decode cX8_law 41 = .ok (.goto 4, 3) := by decide +kernel
theorem dX8_law_44 : decode cX8_law 44 = .ok (.iconst 1, 1) := by decide +kernel
theorem dX8_law_45 : decode cX8_law 45 = .ok (.istore_n 3, 1) := by decide +kernel
theorem dX8_law_46 : decode cX8_law 46 = .ok (.iconst 0, 1) := by decide +kernel
theorem dX8_law_47 : decode cX8_law 47 = .ok (.istore 4, 2) := by decide +kernel
theorem dX8_law_49 : decode cX8_law 49 = .ok (.iload 4, 2) := by decide +kernel
theorem dX8_law_51 : decode cX8_law 51 = .ok (.bipush 16, 2) := by decide +kernel
theorem dX8_law_53 : decode cX8_law 53 = .ok (.if_icmp .ge 69, 3) := by decide +kernel
theorem dX8_law_56 : decode cX8_law 56 = .ok (.iconst 0, 1) := by decide +kernel
theorem dX8_law_57 : decode cX8_law 57 = .ok (.istore 5, 2) := by decide +kernel
theorem dX8_law_59 : decode cX8_law 59 = .ok (.iload 5, 2) := by decide +kernel
theorem dX8_law_61 : decode cX8_law 61 = .ok (.iload_n 2, 1) := by decide +kernel
theorem dX8_law_62 : decode cX8_law 62 = .ok (.if_icmp .ge 54, 3) := by decide +kernel
theorem dX8_law_65 : decode cX8_law 65 = .ok (.iconst 0, 1) := by decide +kernel
theorem dX8_law_66 : decode cX8_law 66 = .ok (.istore 6, 2) := by decide +kernel
theorem dX8_law_68 : decode cX8_law 68 = .ok (.iload 6, 2) := by decide +kernel
theorem dX8_law_70 : decode cX8_law 70 = .ok (.iload_n 3, 1) := by decide +kernel
theorem dX8_law_71 : decode cX8_law 71 = .ok (.if_icmp .ge 39, 3) := by decide +kernel
theorem dX8_law_74 : decode cX8_law 74 = .ok (.aload_n 0, 1) := by decide +kernel
theorem dX8_law_75 : decode cX8_law 75 = .ok (.iload_n 1, 1) := by decide +kernel
theorem dX8_law_76 : decode cX8_law 76 = .ok (.iload 4, 2) := by decide +kernel
theorem dX8_law_78 : decode cX8_law 78 = .ok (.iload 5, 2) := by decide +kernel
theorem dX8_law_80 : decode cX8_law 80 = .ok (.iload 6, 2) := by decide +kernel
theorem dX8_law_82 : decode cX8_law 82 = .ok (.invokevirtual 92, 3) := by decide +kernel
theorem dX8_law_85 : decode cX8_law 85 = .ok (.ifCond .ne 19, 3) := by decide +kernel
theorem dX8_law_88 : decode cX8_law 88 = .ok (.sipush 256, 3) := by decide +kernel
theorem dX8_law_91 : decode cX8_law 91 = .ok (.iload 4, 2) := by decide +kernel
theorem dX8_law_93 : decode cX8_law 93 = .ok (.imul, 1) := by decide +kernel
theorem dX8_law_94 : decode cX8_law 94 = .ok (.bipush 16, 2) := by decide +kernel
theorem dX8_law_96 : decode cX8_law 96 = .ok (.iload 5, 2) := by decide +kernel
theorem dX8_law_98 : decode cX8_law 98 = .ok (.imul, 1) := by decide +kernel
theorem dX8_law_99 : decode cX8_law 99 = .ok (.iadd, 1) := by decide +kernel
theorem dX8_law_100 : decode cX8_law 100 = .ok (.iload 6, 2) := by decide +kernel
theorem dX8_law_102 : decode cX8_law 102 = .ok (.iadd, 1) := by decide +kernel
theorem dX8_law_103 : decode cX8_law 103 = .ok (.ireturn, 1) := by decide +kernel
theorem dX8_law_104 : decode cX8_law 104 = .ok (.iinc 6 1, 3) := by decide +kernel
theorem dX8_law_107 : decode cX8_law 107 = .ok (.goto (-39), 3) := by decide +kernel
theorem dX8_law_110 : decode cX8_law 110 = .ok (.iinc 5 1, 3) := by decide +kernel
theorem dX8_law_113 : decode cX8_law 113 = .ok (.goto (-54), 3) := by decide +kernel
theorem dX8_law_116 : decode cX8_law 116 = .ok (.iinc 4 1, 3) := by decide +kernel
theorem dX8_law_119 : decode cX8_law 119 = .ok (.goto (-70), 3) := by decide +kernel
theorem dX8_law_122 : decode cX8_law 122 = .ok (.iconst (-1), 1) := by decide +kernel
theorem dX8_law_123 : decode cX8_law 123 = .ok (.ireturn, 1) := by decide +kernel
set_option maxRecDepth 20000 in
theorem ggX8_about_X8_in : GoodIn wsX8_about wsX8_in := goodIn_r _ [8] (by decide +kernel) (by decide +kernel)
set_option maxRecDepth 20000 in
theorem gX8_about_X8_in : GoodIn wsX8_about (va_wsS RX8 67 yX8_in wsX8_in) := goodIn_app (goodIn_of _ (by decide +kernel)) ggX8_about_X8_in
theorem dX8_about_0 : decode cX8_about 0 = .ok (.iload_n 1, 1) := by decide +kernel
theorem dX8_about_1 : decode cX8_about 1 = .ok (.tableswitch 42 0 2 #[27, 32, 37], 27) := by decide +kernel
theorem dX8_about_28 : decode cX8_about 28 = .ok (.aload_n 0, 1) := by decide +kernel
theorem dX8_about_29 : decode cX8_about 29 = .ok (.getfield 71, 3) := by decide +kernel
theorem dX8_about_32 : decode cX8_about 32 = .ok (.ireturn, 1) := by decide +kernel
theorem dX8_about_33 : decode cX8_about 33 = .ok (.aload_n 0, 1) := by decide +kernel
theorem dX8_about_34 : decode cX8_about 34 = .ok (.getfield 75, 3) := by decide +kernel
theorem dX8_about_37 : decode cX8_about 37 = .ok (.ireturn, 1) := by decide +kernel
theorem dX8_about_38 : decode cX8_about 38 = .ok (.aload_n 0, 1) := by decide +kernel
theorem dX8_about_39 : decode cX8_about 39 = .ok (.getfield 78, 3) := by decide +kernel
theorem dX8_about_42 : decode cX8_about 42 = .ok (.ireturn, 1) := by decide +kernel
theorem dX8_about_43 : decode cX8_about 43 = .ok (.iload_n 1, 1) := by decide +kernel
theorem dX8_about_44 : decode cX8_about 44 = .ok (.iconst 3, 1) := by decide +kernel
theorem dX8_about_45 : decode cX8_about 45 = .ok (.bipush 8, 2) := by decide +kernel
theorem dX8_about_47 : decode cX8_about 47 = .ok (.invokestatic 67, 3) := by decide +kernel
theorem dX8_about_50 : decode cX8_about 50 = .ok (.ifCond .eq 14, 3) := by decide +kernel
theorem dX8_about_53 : decode cX8_about 53 = .ok (.aload_n 0, 1) := by decide +kernel
theorem dX8_about_54 : decode cX8_about 54 = .ok (.getfield 28, 3) := by decide +kernel
theorem dX8_about_57 : decode cX8_about 57 = .ok (.iload_n 1, 1) := by decide +kernel
theorem dX8_about_58 : decode cX8_about 58 = .ok (.iconst 3, 1) := by decide +kernel
theorem dX8_about_59 : decode cX8_about 59 = .ok (.isub, 1) := by decide +kernel
theorem dX8_about_60 : decode cX8_about 60 = .ok (.iaload, 1) := by decide +kernel
theorem dX8_about_61 : decode cX8_about 61 = .ok (.goto 5, 3) := by decide +kernel
theorem dX8_about_64 : decode cX8_about 64 = .ok (.bipush (-102), 2) := by decide +kernel
theorem dX8_about_66 : decode cX8_about 66 = .ok (.ireturn, 1) := by decide +kernel
theorem dX8_rowOf_0 : decode cX8_rowOf 0 = .ok (.bipush 12, 2) := by decide +kernel
theorem dX8_rowOf_2 : decode cX8_rowOf 2 = .ok (.bipush 17, 2) := by decide +kernel
theorem dX8_rowOf_4 : decode cX8_rowOf 4 = .ok (.iload_n 0, 1) := by decide +kernel
theorem dX8_rowOf_5 : decode cX8_rowOf 5 = .ok (.imul, 1) := by decide +kernel
theorem dX8_rowOf_6 : decode cX8_rowOf 6 = .ok (.iadd, 1) := by decide +kernel
theorem dX8_rowOf_7 : decode cX8_rowOf 7 = .ok (.ireturn, 1) := by decide +kernel
theorem dX8_load_0 : decode cX8_load 0 = .ok (.iconst 0, 1) := by decide +kernel
theorem dX8_load_1 : decode cX8_load 1 = .ok (.istore_n 2, 1) := by decide +kernel
theorem dX8_load_2 : decode cX8_load 2 = .ok (.iload_n 2, 1) := by decide +kernel
theorem dX8_load_3 : decode cX8_load 3 = .ok (.sipush 148, 3) := by decide +kernel
theorem dX8_load_6 : decode cX8_load 6 = .ok (.if_icmp .ge 27, 3) := by decide +kernel
theorem dX8_load_9 : decode cX8_load 9 = .ok (.aload_n 0, 1) := by decide +kernel
theorem dX8_load_10 : decode cX8_load 10 = .ok (.getfield 42, 3) := by decide +kernel
theorem dX8_load_13 : decode cX8_load 13 = .ok (.iload_n 2, 1) := by decide +kernel
theorem dX8_load_14 : decode cX8_load 14 = .ok (.aload_n 0, 1) := by decide +kernel
theorem dX8_load_15 : decode cX8_load 15 = .ok (.getfield 35, 3) := by decide +kernel
theorem dX8_load_18 : decode cX8_load 18 = .ok (.sipush 148, 3) := by decide +kernel
theorem dX8_load_21 : decode cX8_load 21 = .ok (.iload_n 1, 1) := by decide +kernel
theorem dX8_load_22 : decode cX8_load 22 = .ok (.imul, 1) := by decide +kernel
theorem dX8_load_23 : decode cX8_load 23 = .ok (.iload_n 2, 1) := by decide +kernel
theorem dX8_load_24 : decode cX8_load 24 = .ok (.iadd, 1) := by decide +kernel
theorem dX8_load_25 : decode cX8_load 25 = .ok (.baload, 1) := by decide +kernel
theorem dX8_load_26 : decode cX8_load 26 = .ok (.bastore, 1) := by decide +kernel
theorem dX8_load_27 : decode cX8_load 27 = .ok (.iinc 2 1, 3) := by decide +kernel
theorem dX8_load_30 : decode cX8_load 30 = .ok (.goto (-28), 3) := by decide +kernel
theorem dX8_load_33 : decode cX8_load 33 = .ok (.return_, 1) := by decide +kernel
set_option maxRecDepth 20000 in
theorem ggX8_send_X8_rowOf : GoodIn wsX8_send wsX8_rowOf := goodIn_r _ [6] (by decide +kernel) (by decide +kernel)
set_option maxRecDepth 20000 in
theorem gX8_send_X8_rowOf : GoodIn wsX8_send (va_wsS RX8 96 yX8_rowOf wsX8_rowOf) := goodIn_app (goodIn_of _ (by decide +kernel)) ggX8_send_X8_rowOf
theorem dX8_send_0 : decode cX8_send 0 = .ok (.iload_n 1, 1) := by decide +kernel
theorem dX8_send_1 : decode cX8_send 1 = .ok (.invokestatic 96, 3) := by decide +kernel
theorem dX8_send_4 : decode cX8_send 4 = .ok (.istore_n 3, 1) := by decide +kernel
theorem dX8_send_5 : decode cX8_send 5 = .ok (.aload_n 0, 1) := by decide +kernel
theorem dX8_send_6 : decode cX8_send 6 = .ok (.getfield 42, 3) := by decide +kernel
theorem dX8_send_9 : decode cX8_send 9 = .ok (.iload_n 3, 1) := by decide +kernel
theorem dX8_send_10 : decode cX8_send 10 = .ok (.baload, 1) := by decide +kernel
theorem dX8_send_11 : decode cX8_send 11 = .ok (.istore 4, 2) := by decide +kernel
theorem dX8_send_13 : decode cX8_send 13 = .ok (.iload 4, 2) := by decide +kernel
theorem dX8_send_15 : decode cX8_send 15 = .ok (.istore 5, 2) := by decide +kernel
theorem dX8_send_17 : decode cX8_send 17 = .ok (.aload_n 0, 1) := by decide +kernel
theorem dX8_send_18 : decode cX8_send 18 = .ok (.getfield 28, 3) := by decide +kernel
theorem dX8_send_21 : decode cX8_send 21 = .ok (.iconst 4, 1) := by decide +kernel
theorem dX8_send_22 : decode cX8_send 22 = .ok (.iaload, 1) := by decide +kernel
theorem dX8_send_23 : decode cX8_send 23 = .ok (.ifCond .ne 47, 3) := by decide +kernel
theorem dX8_send_26 : decode cX8_send 26 = .ok (.iload 5, 2) := by decide +kernel
theorem dX8_send_28 : decode cX8_send 28 = .ok (.ifCond .le 42, 3) := by decide +kernel
theorem dX8_send_31 : decode cX8_send 31 = .ok (.aload_n 0, 1) := by decide +kernel
theorem dX8_send_32 : decode cX8_send 32 = .ok (.getfield 42, 3) := by decide +kernel
theorem dX8_send_35 : decode cX8_send 35 = .ok (.iload_n 3, 1) := by decide +kernel
theorem dX8_send_36 : decode cX8_send 36 = .ok (.iload 5, 2) := by decide +kernel
theorem dX8_send_38 : decode cX8_send 38 = .ok (.iadd, 1) := by decide +kernel
theorem dX8_send_39 : decode cX8_send 39 = .ok (.baload, 1) := by decide +kernel
theorem dX8_send_40 : decode cX8_send 40 = .ok (.iload_n 2, 1) := by decide +kernel
theorem dX8_send_41 : decode cX8_send 41 = .ok (.if_icmp .le 29, 3) := by decide +kernel
theorem dX8_send_44 : decode cX8_send 44 = .ok (.aload_n 0, 1) := by decide +kernel
theorem dX8_send_45 : decode cX8_send 45 = .ok (.getfield 42, 3) := by decide +kernel
theorem dX8_send_48 : decode cX8_send 48 = .ok (.iload_n 3, 1) := by decide +kernel
theorem dX8_send_49 : decode cX8_send 49 = .ok (.iconst 1, 1) := by decide +kernel
theorem dX8_send_50 : decode cX8_send 50 = .ok (.iadd, 1) := by decide +kernel
theorem dX8_send_51 : decode cX8_send 51 = .ok (.iload 5, 2) := by decide +kernel
theorem dX8_send_53 : decode cX8_send 53 = .ok (.iadd, 1) := by decide +kernel
theorem dX8_send_54 : decode cX8_send 54 = .ok (.aload_n 0, 1) := by decide +kernel
theorem dX8_send_55 : decode cX8_send 55 = .ok (.getfield 42, 3) := by decide +kernel
theorem dX8_send_58 : decode cX8_send 58 = .ok (.iload_n 3, 1) := by decide +kernel
theorem dX8_send_59 : decode cX8_send 59 = .ok (.iload 5, 2) := by decide +kernel
theorem dX8_send_61 : decode cX8_send 61 = .ok (.iadd, 1) := by decide +kernel
theorem dX8_send_62 : decode cX8_send 62 = .ok (.baload, 1) := by decide +kernel
theorem dX8_send_63 : decode cX8_send 63 = .ok (.bastore, 1) := by decide +kernel
theorem dX8_send_64 : decode cX8_send 64 = .ok (.iinc 5 (-1), 3) := by decide +kernel
theorem dX8_send_67 : decode cX8_send 67 = .ok (.goto (-50), 3) := by decide +kernel
theorem dX8_send_70 : decode cX8_send 70 = .ok (.aload_n 0, 1) := by decide +kernel
theorem dX8_send_71 : decode cX8_send 71 = .ok (.getfield 42, 3) := by decide +kernel
theorem dX8_send_74 : decode cX8_send 74 = .ok (.iload_n 3, 1) := by decide +kernel
theorem dX8_send_75 : decode cX8_send 75 = .ok (.iconst 1, 1) := by decide +kernel
theorem dX8_send_76 : decode cX8_send 76 = .ok (.iadd, 1) := by decide +kernel
theorem dX8_send_77 : decode cX8_send 77 = .ok (.iload 5, 2) := by decide +kernel
theorem dX8_send_79 : decode cX8_send 79 = .ok (.iadd, 1) := by decide +kernel
theorem dX8_send_80 : decode cX8_send 80 = .ok (.iload_n 2, 1) := by decide +kernel
theorem dX8_send_81 : decode cX8_send 81 = .ok (.i2b, 1) := by decide +kernel
theorem dX8_send_82 : decode cX8_send 82 = .ok (.bastore, 1) := by decide +kernel
theorem dX8_send_83 : decode cX8_send 83 = .ok (.aload_n 0, 1) := by decide +kernel
theorem dX8_send_84 : decode cX8_send 84 = .ok (.getfield 42, 3) := by decide +kernel
theorem dX8_send_87 : decode cX8_send 87 = .ok (.iload_n 3, 1) := by decide +kernel
theorem dX8_send_88 : decode cX8_send 88 = .ok (.iload 4, 2) := by decide +kernel
theorem dX8_send_90 : decode cX8_send 90 = .ok (.iconst 1, 1) := by decide +kernel
theorem dX8_send_91 : decode cX8_send 91 = .ok (.iadd, 1) := by decide +kernel
theorem dX8_send_92 : decode cX8_send 92 = .ok (.i2b, 1) := by decide +kernel
theorem dX8_send_93 : decode cX8_send 93 = .ok (.bastore, 1) := by decide +kernel
theorem dX8_send_94 : decode cX8_send 94 = .ok (.return_, 1) := by decide +kernel
set_option maxRecDepth 20000 in
theorem ggX8_takeOff_X8_rowOf : GoodIn wsX8_takeOff wsX8_rowOf := goodIn_r _ [5] (by decide +kernel) (by decide +kernel)
set_option maxRecDepth 20000 in
theorem gX8_takeOff_X8_rowOf : GoodIn wsX8_takeOff (va_wsS RX8 96 yX8_rowOf wsX8_rowOf) := goodIn_app (goodIn_of _ (by decide +kernel)) ggX8_takeOff_X8_rowOf
theorem dX8_takeOff_0 : decode cX8_takeOff 0 = .ok (.iload_n 1, 1) := by decide +kernel
theorem dX8_takeOff_1 : decode cX8_takeOff 1 = .ok (.invokestatic 96, 3) := by decide +kernel
theorem dX8_takeOff_4 : decode cX8_takeOff 4 = .ok (.istore_n 3, 1) := by decide +kernel
theorem dX8_takeOff_5 : decode cX8_takeOff 5 = .ok (.aload_n 0, 1) := by decide +kernel
theorem dX8_takeOff_6 : decode cX8_takeOff 6 = .ok (.getfield 42, 3) := by decide +kernel
theorem dX8_takeOff_9 : decode cX8_takeOff 9 = .ok (.iload_n 3, 1) := by decide +kernel
theorem dX8_takeOff_10 : decode cX8_takeOff 10 = .ok (.baload, 1) := by decide +kernel
theorem dX8_takeOff_11 : decode cX8_takeOff 11 = .ok (.istore 4, 2) := by decide +kernel
theorem dX8_takeOff_13 : decode cX8_takeOff 13 = .ok (.iload_n 2, 1) := by decide +kernel
theorem dX8_takeOff_14 : decode cX8_takeOff 14 = .ok (.istore 5, 2) := by decide +kernel
theorem dX8_takeOff_16 : decode cX8_takeOff 16 = .ok (.iload 5, 2) := by decide +kernel
theorem dX8_takeOff_18 : decode cX8_takeOff 18 = .ok (.iconst 1, 1) := by decide +kernel
theorem dX8_takeOff_19 : decode cX8_takeOff 19 = .ok (.iadd, 1) := by decide +kernel
theorem dX8_takeOff_20 : decode cX8_takeOff 20 = .ok (.iload 4, 2) := by decide +kernel
theorem dX8_takeOff_22 : decode cX8_takeOff 22 = .ok (.if_icmp .ge 31, 3) := by decide +kernel
theorem dX8_takeOff_25 : decode cX8_takeOff 25 = .ok (.aload_n 0, 1) := by decide +kernel
theorem dX8_takeOff_26 : decode cX8_takeOff 26 = .ok (.getfield 42, 3) := by decide +kernel
theorem dX8_takeOff_29 : decode cX8_takeOff 29 = .ok (.iload_n 3, 1) := by decide +kernel
theorem dX8_takeOff_30 : decode cX8_takeOff 30 = .ok (.iconst 1, 1) := by decide +kernel
theorem dX8_takeOff_31 : decode cX8_takeOff 31 = .ok (.iadd, 1) := by decide +kernel
theorem dX8_takeOff_32 : decode cX8_takeOff 32 = .ok (.iload 5, 2) := by decide +kernel
theorem dX8_takeOff_34 : decode cX8_takeOff 34 = .ok (.iadd, 1) := by decide +kernel
theorem dX8_takeOff_35 : decode cX8_takeOff 35 = .ok (.aload_n 0, 1) := by decide +kernel
theorem dX8_takeOff_36 : decode cX8_takeOff 36 = .ok (.getfield 42, 3) := by decide +kernel
theorem dX8_takeOff_39 : decode cX8_takeOff 39 = .ok (.iload_n 3, 1) := by decide +kernel
theorem dX8_takeOff_40 : decode cX8_takeOff 40 = .ok (.iconst 2, 1) := by decide +kernel
theorem dX8_takeOff_41 : decode cX8_takeOff 41 = .ok (.iadd, 1) := by decide +kernel
theorem dX8_takeOff_42 : decode cX8_takeOff 42 = .ok (.iload 5, 2) := by decide +kernel
theorem dX8_takeOff_44 : decode cX8_takeOff 44 = .ok (.iadd, 1) := by decide +kernel
theorem dX8_takeOff_45 : decode cX8_takeOff 45 = .ok (.baload, 1) := by decide +kernel
theorem dX8_takeOff_46 : decode cX8_takeOff 46 = .ok (.bastore, 1) := by decide +kernel
theorem dX8_takeOff_47 : decode cX8_takeOff 47 = .ok (.iinc 5 1, 3) := by decide +kernel
theorem dX8_takeOff_50 : decode cX8_takeOff 50 = .ok (.goto (-34), 3) := by decide +kernel
theorem dX8_takeOff_53 : decode cX8_takeOff 53 = .ok (.aload_n 0, 1) := by decide +kernel
theorem dX8_takeOff_54 : decode cX8_takeOff 54 = .ok (.getfield 42, 3) := by decide +kernel
theorem dX8_takeOff_57 : decode cX8_takeOff 57 = .ok (.iload_n 3, 1) := by decide +kernel
theorem dX8_takeOff_58 : decode cX8_takeOff 58 = .ok (.iload 4, 2) := by decide +kernel
theorem dX8_takeOff_60 : decode cX8_takeOff 60 = .ok (.iadd, 1) := by decide +kernel
theorem dX8_takeOff_61 : decode cX8_takeOff 61 = .ok (.iconst 0, 1) := by decide +kernel
theorem dX8_takeOff_62 : decode cX8_takeOff 62 = .ok (.bastore, 1) := by decide +kernel
theorem dX8_takeOff_63 : decode cX8_takeOff 63 = .ok (.aload_n 0, 1) := by decide +kernel
theorem dX8_takeOff_64 : decode cX8_takeOff 64 = .ok (.getfield 42, 3) := by decide +kernel
theorem dX8_takeOff_67 : decode cX8_takeOff 67 = .ok (.iload_n 3, 1) := by decide +kernel
theorem dX8_takeOff_68 : decode cX8_takeOff 68 = .ok (.iload 4, 2) := by decide +kernel
theorem dX8_takeOff_70 : decode cX8_takeOff 70 = .ok (.iconst 1, 1) := by decide +kernel
theorem dX8_takeOff_71 : decode cX8_takeOff 71 = .ok (.isub, 1) := by decide +kernel
theorem dX8_takeOff_72 : decode cX8_takeOff 72 = .ok (.i2b, 1) := by decide +kernel
theorem dX8_takeOff_73 : decode cX8_takeOff 73 = .ok (.bastore, 1) := by decide +kernel
theorem dX8_takeOff_74 : decode cX8_takeOff 74 = .ok (.return_, 1) := by decide +kernel
set_option maxRecDepth 20000 in
theorem ggX8_comes_X8_folded : GoodIn wsX8_comes wsX8_folded := goodIn_r _ [10, 2, 11, 23, 24, 25, 26, 27, 28, 29, 30, 31, 32, 33, 34, 35, 36, 37, 38, 39, 40, 41, 42, 43, 44, 45, 46, 47, 48, 49, 50, 51] (by decide +kernel) (by decide +kernel)
set_option maxRecDepth 20000 in
theorem gX8_comes_X8_folded : GoodIn wsX8_comes (wsV RX8 85 RX8 yX8_folded wsX8_folded) := goodIn_app (goodIn_of _ (by decide +kernel)) ggX8_comes_X8_folded
set_option maxRecDepth 20000 in
theorem ggX8_comes_X8_outOf : GoodIn wsX8_comes wsX8_outOf := goodIn_r _ [15, 2, 23, 24, 25, 26, 27, 28, 29, 30, 31, 32, 33, 34, 35, 36, 37, 38, 39, 40, 41, 42, 43, 44, 45, 46, 47, 48, 49, 50, 51] (by decide +kernel) (by decide +kernel)
set_option maxRecDepth 20000 in
theorem gX8_comes_X8_outOf : GoodIn wsX8_comes (wsV RX8 89 RX8 yX8_outOf wsX8_outOf) := goodIn_app (goodIn_of _ (by decide +kernel)) ggX8_comes_X8_outOf
set_option maxRecDepth 20000 in
theorem ggX8_comes_X8_send : GoodIn wsX8_comes wsX8_send := goodIn_r _ [19, 1, 2, 20, 21, 9, 22, 23, 24, 25, 26, 27, 28, 29, 30, 31, 32, 33, 34, 35, 36, 37, 38, 39, 40, 41, 42, 43, 44, 45, 46, 47, 48, 49, 50, 51] (by decide +kernel) (by decide +kernel)
set_option maxRecDepth 20000 in
theorem gX8_comes_X8_send : GoodIn wsX8_comes (wsV RX8 99 RX8 yX8_send wsX8_send) := goodIn_app (goodIn_of _ (by decide +kernel)) ggX8_comes_X8_send
theorem dX8_comes_0 : decode cX8_comes 0 = .ok (.aload_n 0, 1) := by decide +kernel
theorem dX8_comes_1 : decode cX8_comes 1 = .ok (.getfield 42, 3) := by decide +kernel
theorem dX8_comes_4 : decode cX8_comes 4 = .ok (.iload_n 1, 1) := by decide +kernel
theorem dX8_comes_5 : decode cX8_comes 5 = .ok (.baload, 1) := by decide +kernel
theorem dX8_comes_6 : decode cX8_comes 6 = .ok (.istore 4, 2) := by decide +kernel
theorem dX8_comes_8 : decode cX8_comes 8 = .ok (.aload_n 0, 1) := by decide +kernel
theorem dX8_comes_9 : decode cX8_comes 9 = .ok (.iload 4, 2) := by decide +kernel
theorem dX8_comes_11 : decode cX8_comes 11 = .ok (.iload_n 2, 1) := by decide +kernel
theorem dX8_comes_12 : decode cX8_comes 12 = .ok (.invokevirtual 85, 3) := by decide +kernel
theorem dX8_comes_15 : decode cX8_comes 15 = .ok (.istore 5, 2) := by decide +kernel
theorem dX8_comes_17 : decode cX8_comes 17 = .ok (.aload_n 0, 1) := by decide +kernel
theorem dX8_comes_18 : decode cX8_comes 18 = .ok (.getfield 42, 3) := by decide +kernel
theorem dX8_comes_21 : decode cX8_comes 21 = .ok (.iload_n 1, 1) := by decide +kernel
theorem dX8_comes_22 : decode cX8_comes 22 = .ok (.iload 5, 2) := by decide +kernel
theorem dX8_comes_24 : decode cX8_comes 24 = .ok (.i2b, 1) := by decide +kernel
theorem dX8_comes_25 : decode cX8_comes 25 = .ok (.bastore, 1) := by decide +kernel
theorem dX8_comes_26 : decode cX8_comes 26 = .ok (.iload 5, 2) := by decide +kernel
theorem dX8_comes_28 : decode cX8_comes 28 = .ok (.iload 4, 2) := by decide +kernel
theorem dX8_comes_30 : decode cX8_comes 30 = .ok (.if_icmp .ne 13, 3) := by decide +kernel
theorem dX8_comes_33 : decode cX8_comes 33 = .ok (.aload_n 0, 1) := by decide +kernel
theorem dX8_comes_34 : decode cX8_comes 34 = .ok (.getfield 28, 3) := by decide +kernel
theorem dX8_comes_37 : decode cX8_comes 37 = .ok (.iconst 2, 1) := by decide +kernel
theorem dX8_comes_38 : decode cX8_comes 38 = .ok (.iaload, 1) := by decide +kernel
theorem dX8_comes_39 : decode cX8_comes 39 = .ok (.iconst 1, 1) := by decide +kernel
theorem dX8_comes_40 : decode cX8_comes 40 = .ok (.if_icmp .ne 90, 3) := by decide +kernel
theorem dX8_comes_43 : decode cX8_comes 43 = .ok (.aload_n 0, 1) := by decide +kernel
theorem dX8_comes_44 : decode cX8_comes 44 = .ok (.getfield 42, 3) := by decide +kernel
theorem dX8_comes_47 : decode cX8_comes 47 = .ok (.iconst 5, 1) := by decide +kernel
theorem dX8_comes_48 : decode cX8_comes 48 = .ok (.iload_n 1, 1) := by decide +kernel
theorem dX8_comes_49 : decode cX8_comes 49 = .ok (.iadd, 1) := by decide +kernel
theorem dX8_comes_50 : decode cX8_comes 50 = .ok (.baload, 1) := by decide +kernel
theorem dX8_comes_51 : decode cX8_comes 51 = .ok (.aload_n 0, 1) := by decide +kernel
theorem dX8_comes_52 : decode cX8_comes 52 = .ok (.getfield 28, 3) := by decide +kernel
theorem dX8_comes_55 : decode cX8_comes 55 = .ok (.iconst 3, 1) := by decide +kernel
theorem dX8_comes_56 : decode cX8_comes 56 = .ok (.iaload, 1) := by decide +kernel
theorem dX8_comes_57 : decode cX8_comes 57 = .ok (.if_icmp .ge 73, 3) := by decide +kernel
theorem dX8_comes_60 : decode cX8_comes 60 = .ok (.aload_n 0, 1) := by decide +kernel
theorem dX8_comes_61 : decode cX8_comes 61 = .ok (.getfield 42, 3) := by decide +kernel
theorem dX8_comes_64 : decode cX8_comes 64 = .ok (.iconst 5, 1) := by decide +kernel
theorem dX8_comes_65 : decode cX8_comes 65 = .ok (.iload_n 1, 1) := by decide +kernel
theorem dX8_comes_66 : decode cX8_comes 66 = .ok (.iadd, 1) := by decide +kernel
theorem dX8_comes_67 : decode cX8_comes 67 = .ok (.dup2, 1) := by decide +kernel
theorem dX8_comes_68 : decode cX8_comes 68 = .ok (.baload, 1) := by decide +kernel
theorem dX8_comes_69 : decode cX8_comes 69 = .ok (.iconst 1, 1) := by decide +kernel
theorem dX8_comes_70 : decode cX8_comes 70 = .ok (.iadd, 1) := by decide +kernel
theorem dX8_comes_71 : decode cX8_comes 71 = .ok (.i2b, 1) := by decide +kernel
theorem dX8_comes_72 : decode cX8_comes 72 = .ok (.bastore, 1) := by decide +kernel
theorem dX8_comes_73 : decode cX8_comes 73 = .ok (.iconst 0, 1) := by decide +kernel
theorem dX8_comes_74 : decode cX8_comes 74 = .ok (.istore 6, 2) := by decide +kernel
theorem dX8_comes_76 : decode cX8_comes 76 = .ok (.iload 6, 2) := by decide +kernel
theorem dX8_comes_78 : decode cX8_comes 78 = .ok (.aload_n 0, 1) := by decide +kernel
theorem dX8_comes_79 : decode cX8_comes 79 = .ok (.getfield 75, 3) := by decide +kernel
theorem dX8_comes_82 : decode cX8_comes 82 = .ok (.if_icmp .ge 48, 3) := by decide +kernel
theorem dX8_comes_85 : decode cX8_comes 85 = .ok (.aload_n 0, 1) := by decide +kernel
theorem dX8_comes_86 : decode cX8_comes 86 = .ok (.getfield 13, 3) := by decide +kernel
theorem dX8_comes_89 : decode cX8_comes 89 = .ok (.iload 6, 2) := by decide +kernel
theorem dX8_comes_91 : decode cX8_comes 91 = .ok (.iaload, 1) := by decide +kernel
theorem dX8_comes_92 : decode cX8_comes 92 = .ok (.iload_n 1, 1) := by decide +kernel
theorem dX8_comes_93 : decode cX8_comes 93 = .ok (.if_icmp .ne 31, 3) := by decide +kernel
theorem dX8_comes_96 : decode cX8_comes 96 = .ok (.iload_n 3, 1) := by decide +kernel
theorem dX8_comes_97 : decode cX8_comes 97 = .ok (.iload 6, 2) := by decide +kernel
theorem dX8_comes_99 : decode cX8_comes 99 = .ok (.ishr, 1) := by decide +kernel
theorem dX8_comes_100 : decode cX8_comes 100 = .ok (.iconst 1, 1) := by decide +kernel
theorem dX8_comes_101 : decode cX8_comes 101 = .ok (.iand, 1) := by decide +kernel
theorem dX8_comes_102 : decode cX8_comes 102 = .ok (.ifCond .ne 22, 3) := by decide +kernel
theorem dX8_comes_105 : decode cX8_comes 105 = .ok (.aload_n 0, 1) := by decide +kernel
theorem dX8_comes_106 : decode cX8_comes 106 = .ok (.iload 6, 2) := by decide +kernel
theorem dX8_comes_108 : decode cX8_comes 108 = .ok (.aload_n 0, 1) := by decide +kernel
theorem dX8_comes_109 : decode cX8_comes 109 = .ok (.iload 5, 2) := by decide +kernel
theorem dX8_comes_111 : decode cX8_comes 111 = .ok (.aload_n 0, 1) := by decide +kernel
theorem dX8_comes_112 : decode cX8_comes 112 = .ok (.getfield 19, 3) := by decide +kernel
theorem dX8_comes_115 : decode cX8_comes 115 = .ok (.iload 6, 2) := by decide +kernel
theorem dX8_comes_117 : decode cX8_comes 117 = .ok (.iaload, 1) := by decide +kernel
theorem dX8_comes_118 : decode cX8_comes 118 = .ok (.invokevirtual 89, 3) := by decide +kernel
theorem dX8_comes_121 : decode cX8_comes 121 = .ok (.invokevirtual 99, 3) := by decide +kernel
theorem dX8_comes_124 : decode cX8_comes 124 = .ok (.iinc 6 1, 3) := by decide +kernel
theorem dX8_comes_127 : decode cX8_comes 127 = .ok (.goto (-51), 3) := by decide +kernel
theorem dX8_comes_130 : decode cX8_comes 130 = .ok (.return_, 1) := by decide +kernel
theorem dX8_hash_0 : decode cX8_hash 0 = .ok (.bipush 17, 2) := by decide +kernel
theorem dX8_hash_2 : decode cX8_hash 2 = .ok (.istore_n 1, 1) := by decide +kernel
theorem dX8_hash_3 : decode cX8_hash 3 = .ok (.iconst 0, 1) := by decide +kernel
theorem dX8_hash_4 : decode cX8_hash 4 = .ok (.istore_n 2, 1) := by decide +kernel
theorem dX8_hash_5 : decode cX8_hash 5 = .ok (.iload_n 2, 1) := by decide +kernel
theorem dX8_hash_6 : decode cX8_hash 6 = .ok (.sipush 148, 3) := by decide +kernel
theorem dX8_hash_9 : decode cX8_hash 9 = .ok (.if_icmp .ge 18, 3) := by decide +kernel
theorem dX8_hash_12 : decode cX8_hash 12 = .ok (.bipush 31, 2) := by decide +kernel
theorem dX8_hash_14 : decode cX8_hash 14 = .ok (.iload_n 1, 1) := by decide +kernel
theorem dX8_hash_15 : decode cX8_hash 15 = .ok (.imul, 1) := by decide +kernel
theorem dX8_hash_16 : decode cX8_hash 16 = .ok (.aload_n 0, 1) := by decide +kernel
theorem dX8_hash_17 : decode cX8_hash 17 = .ok (.iload_n 2, 1) := by decide +kernel
theorem dX8_hash_18 : decode cX8_hash 18 = .ok (.baload, 1) := by decide +kernel
theorem dX8_hash_19 : decode cX8_hash 19 = .ok (.iadd, 1) := by decide +kernel
theorem dX8_hash_20 : decode cX8_hash 20 = .ok (.istore_n 1, 1) := by decide +kernel
theorem dX8_hash_21 : decode cX8_hash 21 = .ok (.iinc 2 1, 3) := by decide +kernel
theorem dX8_hash_24 : decode cX8_hash 24 = .ok (.goto (-19), 3) := by decide +kernel
theorem dX8_hash_27 : decode cX8_hash 27 = .ok (.iload_n 1, 1) := by decide +kernel
theorem dX8_hash_28 : decode cX8_hash 28 = .ok (.iload_n 1, 1) := by decide +kernel
theorem dX8_hash_29 : decode cX8_hash 29 = .ok (.bipush 15, 2) := by decide +kernel
theorem dX8_hash_31 : decode cX8_hash 31 = .ok (.iushr, 1) := by decide +kernel
theorem dX8_hash_32 : decode cX8_hash 32 = .ok (.ixor, 1) := by decide +kernel
theorem dX8_hash_33 : decode cX8_hash 33 = .ok (.sipush 2047, 3) := by decide +kernel
theorem dX8_hash_36 : decode cX8_hash 36 = .ok (.iand, 1) := by decide +kernel
theorem dX8_hash_37 : decode cX8_hash 37 = .ok (.ireturn, 1) := by decide +kernel
theorem dX8_isSame_0 : decode cX8_isSame 0 = .ok (.iconst 0, 1) := by decide +kernel
theorem dX8_isSame_1 : decode cX8_isSame 1 = .ok (.istore_n 2, 1) := by decide +kernel
theorem dX8_isSame_2 : decode cX8_isSame 2 = .ok (.iload_n 2, 1) := by decide +kernel
theorem dX8_isSame_3 : decode cX8_isSame 3 = .ok (.sipush 148, 3) := by decide +kernel
theorem dX8_isSame_6 : decode cX8_isSame 6 = .ok (.if_icmp .ge 30, 3) := by decide +kernel
theorem dX8_isSame_9 : decode cX8_isSame 9 = .ok (.aload_n 0, 1) := by decide +kernel
theorem dX8_isSame_10 : decode cX8_isSame 10 = .ok (.getfield 35, 3) := by decide +kernel
theorem dX8_isSame_13 : decode cX8_isSame 13 = .ok (.sipush 148, 3) := by decide +kernel
theorem dX8_isSame_16 : decode cX8_isSame 16 = .ok (.iload_n 1, 1) := by decide +kernel
theorem dX8_isSame_17 : decode cX8_isSame 17 = .ok (.imul, 1) := by decide +kernel
theorem dX8_isSame_18 : decode cX8_isSame 18 = .ok (.iload_n 2, 1) := by decide +kernel
theorem dX8_isSame_19 : decode cX8_isSame 19 = .ok (.iadd, 1) := by decide +kernel
theorem dX8_isSame_20 : decode cX8_isSame 20 = .ok (.baload, 1) := by decide +kernel
theorem dX8_isSame_21 : decode cX8_isSame 21 = .ok (.aload_n 0, 1) := by decide +kernel
theorem dX8_isSame_22 : decode cX8_isSame 22 = .ok (.getfield 42, 3) := by decide +kernel
theorem dX8_isSame_25 : decode cX8_isSame 25 = .ok (.iload_n 2, 1) := by decide +kernel
theorem dX8_isSame_26 : decode cX8_isSame 26 = .ok (.baload, 1) := by decide +kernel
theorem dX8_isSame_27 : decode cX8_isSame 27 = .ok (.if_icmp .ne 9, 3) := by decide +kernel
theorem dX8_isSame_30 : decode cX8_isSame 30 = .ok (.iinc 2 1, 3) := by decide +kernel
theorem dX8_isSame_33 : decode cX8_isSame 33 = .ok (.goto (-31), 3) := by decide +kernel
theorem dX8_isSame_36 : decode cX8_isSame 36 = .ok (.iload_n 2, 1) := by decide +kernel
theorem dX8_isSame_37 : decode cX8_isSame 37 = .ok (.sipush 148, 3) := by decide +kernel
theorem dX8_isSame_40 : decode cX8_isSame 40 = .ok (.if_icmp .ne 7, 3) := by decide +kernel
theorem dX8_isSame_43 : decode cX8_isSame 43 = .ok (.iconst 1, 1) := by decide +kernel
theorem dX8_isSame_44 : decode cX8_isSame 44 = .ok (.goto 4, 3) := by decide +kernel
theorem dX8_isSame_47 : decode cX8_isSame 47 = .ok (.iconst 0, 1) := by decide +kernel
theorem dX8_isSame_48 : decode cX8_isSame 48 = .ok (.ireturn, 1) := by decide +kernel
set_option maxRecDepth 20000 in
theorem ggX8_find_X8_hash : GoodIn wsX8_find wsX8_hash := goodIn_r _ [8] (by decide +kernel) (by decide +kernel)
set_option maxRecDepth 20000 in
theorem gX8_find_X8_hash : GoodIn wsX8_find (va_wsS RX8 103 yX8_hash wsX8_hash) := goodIn_app (goodIn_of _ (by decide +kernel)) ggX8_find_X8_hash
set_option maxRecDepth 20000 in
theorem ggX8_find_X8_isSame : GoodIn wsX8_find wsX8_isSame := goodIn_r _ [12, 4, 1, 13, 14, 15, 16, 17, 18, 19, 20, 21, 22, 23, 24, 25, 26, 27, 28, 29, 30, 31, 32, 33, 34, 35, 36, 37, 38, 39, 40, 41] (by decide +kernel) (by decide +kernel)
set_option maxRecDepth 20000 in
theorem gX8_find_X8_isSame : GoodIn wsX8_find (wsV RX8 107 RX8 yX8_isSame wsX8_isSame) := goodIn_app (goodIn_of _ (by decide +kernel)) ggX8_find_X8_isSame
theorem dX8_find_0 : decode cX8_find 0 = .ok (.aload_n 0, 1) := by decide +kernel
theorem dX8_find_1 : decode cX8_find 1 = .ok (.getfield 42, 3) := by decide +kernel
theorem dX8_find_4 : decode cX8_find 4 = .ok (.invokestatic 103, 3) := by decide +kernel
theorem dX8_find_7 : decode cX8_find 7 = .ok (.istore_n 2, 1) := by decide +kernel
theorem dX8_find_8 : decode cX8_find 8 = .ok (.aload_n 0, 1) := by decide +kernel
theorem dX8_find_9 : decode cX8_find 9 = .ok (.getfield 39, 3) := by decide +kernel
theorem dX8_find_12 : decode cX8_find 12 = .ok (.iload_n 2, 1) := by decide +kernel
theorem dX8_find_13 : decode cX8_find 13 = .ok (.iaload, 1) := by decide +kernel
theorem dX8_find_14 : decode cX8_find 14 = .ok (.ifCond .le 31, 3) := by decide +kernel
theorem dX8_find_17 : decode cX8_find 17 = .ok (.aload_n 0, 1) := by decide +kernel
theorem dX8_find_18 : decode cX8_find 18 = .ok (.aload_n 0, 1) := by decide +kernel
theorem dX8_find_19 : decode cX8_find 19 = .ok (.getfield 39, 3) := by decide +kernel
theorem dX8_find_22 : decode cX8_find 22 = .ok (.iload_n 2, 1) := by decide +kernel
theorem dX8_find_23 : decode cX8_find 23 = .ok (.iaload, 1) := by decide +kernel
theorem dX8_find_24 : decode cX8_find 24 = .ok (.iconst 1, 1) := by decide +kernel
theorem dX8_find_25 : decode cX8_find 25 = .ok (.isub, 1) := by decide +kernel
theorem dX8_find_26 : decode cX8_find 26 = .ok (.invokevirtual 107, 3) := by decide +kernel
theorem dX8_find_29 : decode cX8_find 29 = .ok (.ifCond .eq 5, 3) := by decide +kernel
theorem dX8_find_32 : decode cX8_find 32 = .ok (.iconst 0, 1) := by decide +kernel
theorem dX8_find_33 : decode cX8_find 33 = .ok (.ireturn, 1) := by decide +kernel
theorem dX8_find_34 : decode cX8_find 34 = .ok (.iload_n 2, 1) := by decide +kernel
theorem dX8_find_35 : decode cX8_find 35 = .ok (.iconst 1, 1) := by decide +kernel
theorem dX8_find_36 : decode cX8_find 36 = .ok (.iadd, 1) := by decide +kernel
theorem dX8_find_37 : decode cX8_find 37 = .ok (.sipush 2048, 3) := by decide +kernel
theorem dX8_find_40 : decode cX8_find 40 = .ok (.irem, 1) := by decide +kernel
theorem dX8_find_41 : decode cX8_find 41 = .ok (.istore_n 2, 1) := by decide +kernel
theorem dX8_find_42 : decode cX8_find 42 = .ok (.goto (-34), 3) := by decide +kernel
theorem dX8_find_45 : decode cX8_find 45 = .ok (.aload_n 0, 1) := by decide +kernel
theorem dX8_find_46 : decode cX8_find 46 = .ok (.getfield 111, 3) := by decide +kernel
theorem dX8_find_49 : decode cX8_find 49 = .ok (.iload_n 1, 1) := by decide +kernel
theorem dX8_find_50 : decode cX8_find 50 = .ok (.if_icmp .ne 5, 3) := by decide +kernel
theorem dX8_find_53 : decode cX8_find 53 = .ok (.iconst (-1), 1) := by decide +kernel
theorem dX8_find_54 : decode cX8_find 54 = .ok (.ireturn, 1) := by decide +kernel
theorem dX8_find_55 : decode cX8_find 55 = .ok (.iconst 0, 1) := by decide +kernel
theorem dX8_find_56 : decode cX8_find 56 = .ok (.istore_n 3, 1) := by decide +kernel
theorem dX8_find_57 : decode cX8_find 57 = .ok (.iload_n 3, 1) := by decide +kernel
theorem dX8_find_58 : decode cX8_find 58 = .ok (.sipush 148, 3) := by decide +kernel
theorem dX8_find_61 : decode cX8_find 61 = .ok (.if_icmp .ge 30, 3) := by decide +kernel
theorem dX8_find_64 : decode cX8_find 64 = .ok (.aload_n 0, 1) := by decide +kernel
theorem dX8_find_65 : decode cX8_find 65 = .ok (.getfield 35, 3) := by decide +kernel
theorem dX8_find_68 : decode cX8_find 68 = .ok (.sipush 148, 3) := by decide +kernel
theorem dX8_find_71 : decode cX8_find 71 = .ok (.aload_n 0, 1) := by decide +kernel
theorem dX8_find_72 : decode cX8_find 72 = .ok (.getfield 111, 3) := by decide +kernel
theorem dX8_find_75 : decode cX8_find 75 = .ok (.imul, 1) := by decide +kernel
theorem dX8_find_76 : decode cX8_find 76 = .ok (.iload_n 3, 1) := by decide +kernel
theorem dX8_find_77 : decode cX8_find 77 = .ok (.iadd, 1) := by decide +kernel
theorem dX8_find_78 : decode cX8_find 78 = .ok (.aload_n 0, 1) := by decide +kernel
theorem dX8_find_79 : decode cX8_find 79 = .ok (.getfield 42, 3) := by decide +kernel
theorem dX8_find_82 : decode cX8_find 82 = .ok (.iload_n 3, 1) := by decide +kernel
theorem dX8_find_83 : decode cX8_find 83 = .ok (.baload, 1) := by decide +kernel
theorem dX8_find_84 : decode cX8_find 84 = .ok (.bastore, 1) := by decide +kernel
theorem dX8_find_85 : decode cX8_find 85 = .ok (.iinc 3 1, 3) := by decide +kernel
theorem dX8_find_88 : decode cX8_find 88 = .ok (.goto (-31), 3) := by decide +kernel
theorem dX8_find_91 : decode cX8_find 91 = .ok (.aload_n 0, 1) := by decide +kernel
theorem dX8_find_92 : decode cX8_find 92 = .ok (.dup, 1) := by decide +kernel
theorem dX8_find_93 : decode cX8_find 93 = .ok (.getfield 111, 3) := by decide +kernel
theorem dX8_find_96 : decode cX8_find 96 = .ok (.iconst 1, 1) := by decide +kernel
theorem dX8_find_97 : decode cX8_find 97 = .ok (.iadd, 1) := by decide +kernel
theorem dX8_find_98 : decode cX8_find 98 = .ok (.putfield 111, 3) := by decide +kernel
theorem dX8_find_101 : decode cX8_find 101 = .ok (.aload_n 0, 1) := by decide +kernel
theorem dX8_find_102 : decode cX8_find 102 = .ok (.getfield 39, 3) := by decide +kernel
theorem dX8_find_105 : decode cX8_find 105 = .ok (.iload_n 2, 1) := by decide +kernel
theorem dX8_find_106 : decode cX8_find 106 = .ok (.aload_n 0, 1) := by decide +kernel
theorem dX8_find_107 : decode cX8_find 107 = .ok (.getfield 111, 3) := by decide +kernel
theorem dX8_find_110 : decode cX8_find 110 = .ok (.iastore, 1) := by decide +kernel
theorem dX8_find_111 : decode cX8_find 111 = .ok (.iconst 1, 1) := by decide +kernel
theorem dX8_find_112 : decode cX8_find 112 = .ok (.ireturn, 1) := by decide +kernel
set_option maxRecDepth 20000 in
theorem ggX8_step_X8_load : GoodIn wsX8_step wsX8_load := goodIn_r _ [16, 3, 17, 58, 59, 60, 61, 62, 63, 64, 65, 66, 67, 68, 69, 70, 71, 72, 73, 74, 75, 76, 77, 78, 79, 80, 81, 82, 83, 84, 85, 86] (by decide +kernel) (by decide +kernel)
set_option maxRecDepth 20000 in
theorem gX8_step_X8_load : GoodIn wsX8_step (wsV RX8 114 RX8 yX8_load wsX8_load) := goodIn_app (goodIn_of _ (by decide +kernel)) ggX8_step_X8_load
set_option maxRecDepth 20000 in
theorem ggX8_step_X8_rowOf : GoodIn wsX8_step wsX8_rowOf := goodIn_r _ [20] (by decide +kernel) (by decide +kernel)
set_option maxRecDepth 20000 in
theorem gX8_step_X8_rowOf : GoodIn wsX8_step (va_wsS RX8 96 yX8_rowOf wsX8_rowOf) := goodIn_app (goodIn_of _ (by decide +kernel)) ggX8_step_X8_rowOf
set_option maxRecDepth 20000 in
theorem ggX8_step_X8_takeOff : GoodIn wsX8_step wsX8_takeOff := goodIn_r _ [24, 3, 18, 19, 15, 20, 58, 59, 60, 61, 62, 63, 64, 65, 66, 67, 68, 69, 70, 71, 72, 73, 74, 75, 76, 77, 78, 79, 80, 81, 82, 83, 84, 85, 86] (by decide +kernel) (by decide +kernel)
set_option maxRecDepth 20000 in
theorem gX8_step_X8_takeOff : GoodIn wsX8_step (wsV RX8 118 RX8 yX8_takeOff wsX8_takeOff) := goodIn_app (goodIn_of _ (by decide +kernel)) ggX8_step_X8_takeOff
set_option maxRecDepth 20000 in
theorem ggX8_step_X8_comes : GoodIn wsX8_step wsX8_comes := goodIn_r _ [28, 3, 29, 30, 31, 32, 33, 34, 35, 15, 36, 37, 38, 39, 40, 41, 42, 43, 44, 45, 18, 19, 20, 58, 59, 60, 61, 62, 63, 64, 65, 66, 67, 68, 69, 70, 71, 72, 73, 74, 75, 76, 77, 78, 79, 80, 81, 82, 83, 84, 85, 86] (by decide +kernel) (by decide +kernel)
set_option maxRecDepth 20000 in
theorem gX8_step_X8_comes : GoodIn wsX8_step (wsV RX8 121 RX8 yX8_comes wsX8_comes) := goodIn_app (goodIn_of _ (by decide +kernel)) ggX8_step_X8_comes
set_option maxRecDepth 20000 in
theorem ggX8_step_X8_find : GoodIn wsX8_step wsX8_find := goodIn_r _ [49, 3, 50, 8, 17, 51, 52, 15, 53, 54, 55, 56, 57, 58, 59, 60, 61, 62, 63, 64, 65, 66, 67, 68, 69, 70, 71, 72, 73, 74, 75, 76, 77, 78, 79, 80, 81, 82, 83, 84, 85, 86] (by decide +kernel) (by decide +kernel)
set_option maxRecDepth 20000 in
theorem gX8_step_X8_find : GoodIn wsX8_step (wsV RX8 125 RX8 yX8_find wsX8_find) := goodIn_app (goodIn_of _ (by decide +kernel)) ggX8_step_X8_find
theorem dX8_step_0 : decode cX8_step 0 = .ok (.aload_n 0, 1) := by decide +kernel
theorem dX8_step_1 : decode cX8_step 1 = .ok (.iload_n 1, 1) := by decide +kernel
theorem dX8_step_2 : decode cX8_step 2 = .ok (.invokevirtual 114, 3) := by decide +kernel
theorem dX8_step_5 : decode cX8_step 5 = .ok (.iload_n 2, 1) := by decide +kernel
theorem dX8_step_6 : decode cX8_step 6 = .ok (.bipush 100, 2) := by decide +kernel
theorem dX8_step_8 : decode cX8_step 8 = .ok (.if_icmp .lt 54, 3) := by decide +kernel
theorem dX8_step_11 : decode cX8_step 11 = .ok (.aload_n 0, 1) := by decide +kernel
theorem dX8_step_12 : decode cX8_step 12 = .ok (.getfield 22, 3) := by decide +kernel
theorem dX8_step_15 : decode cX8_step 15 = .ok (.iload_n 2, 1) := by decide +kernel
theorem dX8_step_16 : decode cX8_step 16 = .ok (.bipush 100, 2) := by decide +kernel
theorem dX8_step_18 : decode cX8_step 18 = .ok (.isub, 1) := by decide +kernel
theorem dX8_step_19 : decode cX8_step 19 = .ok (.iaload, 1) := by decide +kernel
theorem dX8_step_20 : decode cX8_step 20 = .ok (.istore 7, 2) := by decide +kernel
theorem dX8_step_22 : decode cX8_step 22 = .ok (.aload_n 0, 1) := by decide +kernel
theorem dX8_step_23 : decode cX8_step 23 = .ok (.getfield 25, 3) := by decide +kernel
theorem dX8_step_26 : decode cX8_step 26 = .ok (.iload_n 2, 1) := by decide +kernel
theorem dX8_step_27 : decode cX8_step 27 = .ok (.bipush 100, 2) := by decide +kernel
theorem dX8_step_29 : decode cX8_step 29 = .ok (.isub, 1) := by decide +kernel
theorem dX8_step_30 : decode cX8_step 30 = .ok (.iaload, 1) := by decide +kernel
theorem dX8_step_31 : decode cX8_step 31 = .ok (.istore 8, 2) := by decide +kernel
theorem dX8_step_33 : decode cX8_step 33 = .ok (.aload_n 0, 1) := by decide +kernel
theorem dX8_step_34 : decode cX8_step 34 = .ok (.getfield 42, 3) := by decide +kernel
theorem dX8_step_37 : decode cX8_step 37 = .ok (.bipush 10, 2) := by decide +kernel
theorem dX8_step_39 : decode cX8_step 39 = .ok (.dup2, 1) := by decide +kernel
theorem dX8_step_40 : decode cX8_step 40 = .ok (.baload, 1) := by decide +kernel
theorem dX8_step_41 : decode cX8_step 41 = .ok (.iload 4, 2) := by decide +kernel
theorem dX8_step_43 : decode cX8_step 43 = .ok (.ifCond .eq 7, 3) := by decide +kernel
theorem dX8_step_46 : decode cX8_step 46 = .ok (.iconst 0, 1) := by decide +kernel
theorem dX8_step_47 : decode cX8_step 47 = .ok (.goto 9, 3) := by decide +kernel
theorem dX8_step_50 : decode cX8_step 50 = .ok (.iconst 1, 1) := by decide +kernel
theorem dX8_step_51 : decode cX8_step 51 = .ok (.iload_n 2, 1) := by decide +kernel
theorem dX8_step_52 : decode cX8_step 52 = .ok (.bipush 100, 2) := by decide +kernel
theorem dX8_step_54 : decode cX8_step 54 = .ok (.isub, 1) := by decide +kernel
theorem dX8_step_55 : decode cX8_step 55 = .ok (.ishl, 1) := by decide +kernel
theorem dX8_step_56 : decode cX8_step 56 = .ok (.ior, 1) := by decide +kernel
theorem dX8_step_57 : decode cX8_step 57 = .ok (.i2b, 1) := by decide +kernel
theorem dX8_step_58 : decode cX8_step 58 = .ok (.bastore, 1) := by decide +kernel
theorem dX8_step_59 : decode cX8_step 59 = .ok (.goto 37, 3) := by decide +kernel
theorem dX8_step_62 : decode cX8_step 62 = .ok (.aload_n 0, 1) := by decide +kernel
theorem dX8_step_63 : decode cX8_step 63 = .ok (.getfield 16, 3) := by decide +kernel
theorem dX8_step_66 : decode cX8_step 66 = .ok (.iload_n 2, 1) := by decide +kernel
theorem dX8_step_67 : decode cX8_step 67 = .ok (.iaload, 1) := by decide +kernel
theorem dX8_step_68 : decode cX8_step 68 = .ok (.istore 7, 2) := by decide +kernel
theorem dX8_step_70 : decode cX8_step 70 = .ok (.aload_n 0, 1) := by decide +kernel
theorem dX8_step_71 : decode cX8_step 71 = .ok (.getfield 42, 3) := by decide +kernel
theorem dX8_step_74 : decode cX8_step 74 = .ok (.iload_n 2, 1) := by decide +kernel
theorem dX8_step_75 : decode cX8_step 75 = .ok (.invokestatic 96, 3) := by decide +kernel
theorem dX8_step_78 : decode cX8_step 78 = .ok (.iconst 1, 1) := by decide +kernel
theorem dX8_step_79 : decode cX8_step 79 = .ok (.iadd, 1) := by decide +kernel
theorem dX8_step_80 : decode cX8_step 80 = .ok (.iload_n 3, 1) := by decide +kernel
theorem dX8_step_81 : decode cX8_step 81 = .ok (.iadd, 1) := by decide +kernel
theorem dX8_step_82 : decode cX8_step 82 = .ok (.baload, 1) := by decide +kernel
theorem dX8_step_83 : decode cX8_step 83 = .ok (.istore 8, 2) := by decide +kernel
theorem dX8_step_85 : decode cX8_step 85 = .ok (.iload 4, 2) := by decide +kernel
theorem dX8_step_87 : decode cX8_step 87 = .ok (.ifCond .ne 9, 3) := by decide +kernel
theorem dX8_step_90 : decode cX8_step 90 = .ok (.aload_n 0, 1) := by decide +kernel
theorem dX8_step_91 : decode cX8_step 91 = .ok (.iload_n 2, 1) := by decide +kernel
theorem dX8_step_92 : decode cX8_step 92 = .ok (.iload_n 3, 1) := by decide +kernel
theorem dX8_step_93 : decode cX8_step 93 = .ok (.invokevirtual 118, 3) := by decide +kernel
theorem dX8_step_96 : decode cX8_step 96 = .ok (.aload_n 0, 1) := by decide +kernel
theorem dX8_step_97 : decode cX8_step 97 = .ok (.getfield 42, 3) := by decide +kernel
theorem dX8_step_100 : decode cX8_step 100 = .ok (.bipush 11, 2) := by decide +kernel
theorem dX8_step_102 : decode cX8_step 102 = .ok (.dup2, 1) := by decide +kernel
theorem dX8_step_103 : decode cX8_step 103 = .ok (.baload, 1) := by decide +kernel
theorem dX8_step_104 : decode cX8_step 104 = .ok (.iload 4, 2) := by decide +kernel
theorem dX8_step_106 : decode cX8_step 106 = .ok (.ifCond .eq 7, 3) := by decide +kernel
theorem dX8_step_109 : decode cX8_step 109 = .ok (.iconst 1, 1) := by decide +kernel
theorem dX8_step_110 : decode cX8_step 110 = .ok (.goto 4, 3) := by decide +kernel
theorem dX8_step_113 : decode cX8_step 113 = .ok (.iconst 0, 1) := by decide +kernel
theorem dX8_step_114 : decode cX8_step 114 = .ok (.isub, 1) := by decide +kernel
theorem dX8_step_115 : decode cX8_step 115 = .ok (.i2b, 1) := by decide +kernel
theorem dX8_step_116 : decode cX8_step 116 = .ok (.bastore, 1) := by decide +kernel
theorem dX8_step_117 : decode cX8_step 117 = .ok (.aload_n 0, 1) := by decide +kernel
theorem dX8_step_118 : decode cX8_step 118 = .ok (.iload 7, 2) := by decide +kernel
theorem dX8_step_120 : decode cX8_step 120 = .ok (.iload 8, 2) := by decide +kernel
theorem dX8_step_122 : decode cX8_step 122 = .ok (.iload 6, 2) := by decide +kernel
theorem dX8_step_124 : decode cX8_step 124 = .ok (.invokevirtual 121, 3) := by decide +kernel
theorem dX8_step_127 : decode cX8_step 127 = .ok (.aload_n 0, 1) := by decide +kernel
theorem dX8_step_128 : decode cX8_step 128 = .ok (.iload 5, 2) := by decide +kernel
theorem dX8_step_130 : decode cX8_step 130 = .ok (.invokevirtual 125, 3) := by decide +kernel
theorem dX8_step_133 : decode cX8_step 133 = .ok (.istore 9, 2) := by decide +kernel
theorem dX8_step_135 : decode cX8_step 135 = .ok (.aload_n 0, 1) := by decide +kernel
theorem dX8_step_136 : decode cX8_step 136 = .ok (.iload 9, 2) := by decide +kernel
theorem dX8_step_138 : decode cX8_step 138 = .ok (.ifCond .ge 7, 3) := by decide +kernel
theorem dX8_step_141 : decode cX8_step 141 = .ok (.iconst 1, 1) := by decide +kernel
theorem dX8_step_142 : decode cX8_step 142 = .ok (.goto 4, 3) := by decide +kernel
theorem dX8_step_145 : decode cX8_step 145 = .ok (.iconst 0, 1) := by decide +kernel
theorem dX8_step_146 : decode cX8_step 146 = .ok (.putfield 128, 3) := by decide +kernel
theorem dX8_step_149 : decode cX8_step 149 = .ok (.iload 9, 2) := by decide +kernel
theorem dX8_step_151 : decode cX8_step 151 = .ok (.ifCond .le 68, 3) := by decide +kernel
theorem dX8_step_154 : decode cX8_step 154 = .ok (.aload_n 0, 1) := by decide +kernel
theorem dX8_step_155 : decode cX8_step 155 = .ok (.getfield 131, 3) := by decide +kernel
theorem dX8_step_158 : decode cX8_step 158 = .ok (.ifCond .eq 61, 3) := by decide +kernel
theorem dX8_step_161 : decode cX8_step 161 = .ok (.aload_n 0, 1) := by decide +kernel
theorem dX8_step_162 : decode cX8_step 162 = .ok (.getfield 51, 3) := by decide +kernel
theorem dX8_step_165 : decode cX8_step 165 = .ok (.aload_n 0, 1) := by decide +kernel
theorem dX8_step_166 : decode cX8_step 166 = .ok (.getfield 111, 3) := by decide +kernel
theorem dX8_step_169 : decode cX8_step 169 = .ok (.iconst 1, 1) := by decide +kernel
theorem dX8_step_170 : decode cX8_step 170 = .ok (.isub, 1) := by decide +kernel
theorem dX8_step_171 : decode cX8_step 171 = .ok (.iload_n 1, 1) := by decide +kernel
theorem dX8_step_172 : decode cX8_step 172 = .ok (.iastore, 1) := by decide +kernel
theorem dX8_step_173 : decode cX8_step 173 = .ok (.aload_n 0, 1) := by decide +kernel
theorem dX8_step_174 : decode cX8_step 174 = .ok (.getfield 54, 3) := by decide +kernel
theorem dX8_step_177 : decode cX8_step 177 = .ok (.aload_n 0, 1) := by decide +kernel
theorem dX8_step_178 : decode cX8_step 178 = .ok (.getfield 111, 3) := by decide +kernel
theorem dX8_step_181 : decode cX8_step 181 = .ok (.iconst 1, 1) := by decide +kernel
theorem dX8_step_182 : decode cX8_step 182 = .ok (.isub, 1) := by decide +kernel
theorem dX8_step_183 : decode cX8_step 183 = .ok (.iload_n 2, 1) := by decide +kernel
theorem dX8_step_184 : decode cX8_step 184 = .ok (.iastore, 1) := by decide +kernel
theorem dX8_step_185 : decode cX8_step 185 = .ok (.aload_n 0, 1) := by decide +kernel
theorem dX8_step_186 : decode cX8_step 186 = .ok (.getfield 57, 3) := by decide +kernel
theorem dX8_step_189 : decode cX8_step 189 = .ok (.aload_n 0, 1) := by decide +kernel
theorem dX8_step_190 : decode cX8_step 190 = .ok (.getfield 111, 3) := by decide +kernel
theorem dX8_step_193 : decode cX8_step 193 = .ok (.iconst 1, 1) := by decide +kernel
theorem dX8_step_194 : decode cX8_step 194 = .ok (.isub, 1) := by decide +kernel
theorem dX8_step_195 : decode cX8_step 195 = .ok (.iload 8, 2) := by decide +kernel
theorem dX8_step_197 : decode cX8_step 197 = .ok (.iastore, 1) := by decide +kernel
theorem dX8_step_198 : decode cX8_step 198 = .ok (.aload_n 0, 1) := by decide +kernel
theorem dX8_step_199 : decode cX8_step 199 = .ok (.getfield 60, 3) := by decide +kernel
theorem dX8_step_202 : decode cX8_step 202 = .ok (.aload_n 0, 1) := by decide +kernel
theorem dX8_step_203 : decode cX8_step 203 = .ok (.getfield 111, 3) := by decide +kernel
theorem dX8_step_206 : decode cX8_step 206 = .ok (.iconst 1, 1) := by decide +kernel
theorem dX8_step_207 : decode cX8_step 207 = .ok (.isub, 1) := by decide +kernel
theorem dX8_step_208 : decode cX8_step 208 = .ok (.iload 4, 2) := by decide +kernel
theorem dX8_step_210 : decode cX8_step 210 = .ok (.ifCond .eq 7, 3) := by decide +kernel
theorem dX8_step_213 : decode cX8_step 213 = .ok (.iconst 1, 1) := by decide +kernel
theorem dX8_step_214 : decode cX8_step 214 = .ok (.goto 4, 3) := by decide +kernel
theorem dX8_step_217 : decode cX8_step 217 = .ok (.iconst 0, 1) := by decide +kernel
theorem dX8_step_218 : decode cX8_step 218 = .ok (.iastore, 1) := by decide +kernel
theorem dX8_step_219 : decode cX8_step 219 = .ok (.return_, 1) := by decide +kernel
