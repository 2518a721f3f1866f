set_option maxRecDepth 20000 in
theorem ggX8_stepBoth_X8_step : GoodIn wsX8_stepBoth wsX8_step := goodIn_r _ [7, 8, 9, 10, 11, 2, 12, 13, 14, 15, 16, 17, 18, 19, 20, 6, 21, 1, 22, 23, 24, 25, 26, 27, 28, 29, 30, 31, 32, 33, 34, 35, 36, 37, 38, 39, 40, 41, 42, 43, 44, 45, 46, 47, 48, 49, 50, 51, 52, 53, 54, 55, 56, 57, 58, 59, 60, 61, 62, 63, 64, 65, 66, 67, 68, 69, 70, 71, 72, 73, 74, 75, 76, 77, 78, 79, 80, 81, 82, 83, 84, 85, 86, 87, 88, 89, 90] (by decide +kernel) (by decide +kernel)
set_option maxRecDepth 20000 in
theorem gX8_stepBoth_X8_step : GoodIn wsX8_stepBoth (wsV RX8 134 RX8 yX8_step wsX8_step) := goodIn_app (goodIn_of _ (by decide +kernel)) ggX8_stepBoth_X8_step
theorem dX8_stepBoth_0 : decode cX8_stepBoth 0 = .ok (.aload_n 0, 1) := by decide +kernel
theorem dX8_stepBoth_1 : decode cX8_stepBoth 1 = .ok (.getfield 35, 3) := by decide +kernel
theorem dX8_stepBoth_4 : decode cX8_stepBoth 4 = .ok (.sipush 148, 3) := by decide +kernel
theorem dX8_stepBoth_7 : decode cX8_stepBoth 7 = .ok (.iload_n 1, 1) := by decide +kernel
theorem dX8_stepBoth_8 : decode cX8_stepBoth 8 = .ok (.imul, 1) := by decide +kernel
theorem dX8_stepBoth_9 : decode cX8_stepBoth 9 = .ok (.bipush 11, 2) := by decide +kernel
theorem dX8_stepBoth_11 : decode cX8_stepBoth 11 = .ok (.iadd, 1) := by decide +kernel
theorem dX8_stepBoth_12 : decode cX8_stepBoth 12 = .ok (.baload, 1) := by decide +kernel
theorem dX8_stepBoth_13 : decode cX8_stepBoth 13 = .ok (.istore 6, 2) := by decide +kernel
theorem dX8_stepBoth_15 : decode cX8_stepBoth 15 = .ok (.iconst 0, 1) := by decide +kernel
theorem dX8_stepBoth_16 : decode cX8_stepBoth 16 = .ok (.istore 7, 2) := by decide +kernel
theorem dX8_stepBoth_18 : decode cX8_stepBoth 18 = .ok (.iload 7, 2) := by decide +kernel
theorem dX8_stepBoth_20 : decode cX8_stepBoth 20 = .ok (.iconst 2, 1) := by decide +kernel
theorem dX8_stepBoth_21 : decode cX8_stepBoth 21 = .ok (.if_icmp .ge 48, 3) := by decide +kernel
theorem dX8_stepBoth_24 : decode cX8_stepBoth 24 = .ok (.aload_n 0, 1) := by decide +kernel
theorem dX8_stepBoth_25 : decode cX8_stepBoth 25 = .ok (.getfield 128, 3) := by decide +kernel
theorem dX8_stepBoth_28 : decode cX8_stepBoth 28 = .ok (.ifCond .ne 41, 3) := by decide +kernel
theorem dX8_stepBoth_31 : decode cX8_stepBoth 31 = .ok (.iload 7, 2) := by decide +kernel
theorem dX8_stepBoth_33 : decode cX8_stepBoth 33 = .ok (.ifCond .eq 8, 3) := by decide +kernel
theorem dX8_stepBoth_36 : decode cX8_stepBoth 36 = .ok (.iload 6, 2) := by decide +kernel
theorem dX8_stepBoth_38 : decode cX8_stepBoth 38 = .ok (.ifCond .le 25, 3) := by decide +kernel
theorem dX8_stepBoth_41 : decode cX8_stepBoth 41 = .ok (.aload_n 0, 1) := by decide +kernel
theorem dX8_stepBoth_42 : decode cX8_stepBoth 42 = .ok (.iload_n 1, 1) := by decide +kernel
theorem dX8_stepBoth_43 : decode cX8_stepBoth 43 = .ok (.iload_n 2, 1) := by decide +kernel
theorem dX8_stepBoth_44 : decode cX8_stepBoth 44 = .ok (.iload_n 3, 1) := by decide +kernel
theorem dX8_stepBoth_45 : decode cX8_stepBoth 45 = .ok (.iload 7, 2) := by decide +kernel
theorem dX8_stepBoth_47 : decode cX8_stepBoth 47 = .ok (.iconst 1, 1) := by decide +kernel
theorem dX8_stepBoth_48 : decode cX8_stepBoth 48 = .ok (.if_icmp .ne 7, 3) := by decide +kernel
theorem dX8_stepBoth_51 : decode cX8_stepBoth 51 = .ok (.iconst 1, 1) := by decide +kernel
theorem dX8_stepBoth_52 : decode cX8_stepBoth 52 = .ok (.goto 4, 3) := by decide +kernel
theorem dX8_stepBoth_55 : decode cX8_stepBoth 55 = .ok (.iconst 0, 1) := by decide +kernel
theorem dX8_stepBoth_56 : decode cX8_stepBoth 56 = .ok (.iload 4, 2) := by decide +kernel
theorem dX8_stepBoth_58 : decode cX8_stepBoth 58 = .ok (.iload 5, 2) := by decide +kernel
theorem dX8_stepBoth_60 : decode cX8_stepBoth 60 = .ok (.invokevirtual 134, 3) := by decide +kernel
theorem dX8_stepBoth_63 : decode cX8_stepBoth 63 = .ok (.iinc 7 1, 3) := by decide +kernel
theorem dX8_stepBoth_66 : decode cX8_stepBoth 66 = .ok (.goto (-48), 3) := by decide +kernel
theorem dX8_stepBoth_69 : decode cX8_stepBoth 69 = .ok (.return_, 1) := by decide +kernel
set_option maxRecDepth 20000 in
theorem ggX8_goOn_X8_stepBoth : GoodIn wsX8_goOn wsX8_stepBoth := goodIn_r _ [10, 3, 2, 11, 12, 13, 9, 14, 15, 16, 17, 18, 19, 20, 21, 22, 23, 24, 25, 26, 27, 28, 29, 30, 31, 32, 33, 34, 35, 36, 37, 38, 39, 5, 4, 40, 41, 42, 43, 44, 45, 46, 47, 48, 49, 50, 51, 52, 53, 54, 55, 56, 57, 58, 59, 60, 61, 62, 63, 64, 65, 66, 67, 68, 69, 70, 71, 72, 73, 74, 75, 76, 77, 78, 79, 80, 81, 82, 83, 84, 85, 86, 87, 88, 89, 90, 91, 92, 93, 94, 95] (by decide +kernel) (by decide +kernel)
set_option maxRecDepth 20000 in
theorem gX8_goOn_X8_stepBoth : GoodIn wsX8_goOn (wsV RX8 138 RX8 yX8_stepBoth wsX8_stepBoth) := goodIn_app (goodIn_of _ (by decide +kernel)) ggX8_goOn_X8_stepBoth
set_option maxRecDepth 20000 in
theorem ggX8_goOn_X8_rowOf : GoodIn wsX8_goOn wsX8_rowOf := goodIn_r _ [31] (by decide +kernel) (by decide +kernel)
set_option maxRecDepth 20000 in
theorem gX8_goOn_X8_rowOf : GoodIn wsX8_goOn (va_wsS RX8 96 yX8_rowOf wsX8_rowOf) := goodIn_app (goodIn_of _ (by decide +kernel)) ggX8_goOn_X8_rowOf
theorem dX8_goOn_0 : decode cX8_goOn 0 = .ok (.iconst 0, 1) := by decide +kernel
theorem dX8_goOn_1 : decode cX8_goOn 1 = .ok (.istore 4, 2) := by decide +kernel
theorem dX8_goOn_3 : decode cX8_goOn 3 = .ok (.iload 4, 2) := by decide +kernel
theorem dX8_goOn_5 : decode cX8_goOn 5 = .ok (.aload_n 0, 1) := by decide +kernel
theorem dX8_goOn_6 : decode cX8_goOn 6 = .ok (.getfield 78, 3) := by decide +kernel
theorem dX8_goOn_9 : decode cX8_goOn 9 = .ok (.if_icmp .ge 50, 3) := by decide +kernel
theorem dX8_goOn_12 : decode cX8_goOn 12 = .ok (.aload_n 0, 1) := by decide +kernel
theorem dX8_goOn_13 : decode cX8_goOn 13 = .ok (.getfield 128, 3) := by decide +kernel
theorem dX8_goOn_16 : decode cX8_goOn 16 = .ok (.ifCond .ne 43, 3) := by decide +kernel
theorem dX8_goOn_19 : decode cX8_goOn 19 = .ok (.aload_n 0, 1) := by decide +kernel
theorem dX8_goOn_20 : decode cX8_goOn 20 = .ok (.getfield 35, 3) := by decide +kernel
theorem dX8_goOn_23 : decode cX8_goOn 23 = .ok (.sipush 148, 3) := by decide +kernel
theorem dX8_goOn_26 : decode cX8_goOn 26 = .ok (.iload_n 1, 1) := by decide +kernel
theorem dX8_goOn_27 : decode cX8_goOn 27 = .ok (.imul, 1) := by decide +kernel
theorem dX8_goOn_28 : decode cX8_goOn 28 = .ok (.bipush 10, 2) := by decide +kernel
theorem dX8_goOn_30 : decode cX8_goOn 30 = .ok (.iadd, 1) := by decide +kernel
theorem dX8_goOn_31 : decode cX8_goOn 31 = .ok (.baload, 1) := by decide +kernel
theorem dX8_goOn_32 : decode cX8_goOn 32 = .ok (.iload 4, 2) := by decide +kernel
theorem dX8_goOn_34 : decode cX8_goOn 34 = .ok (.ishr, 1) := by decide +kernel
theorem dX8_goOn_35 : decode cX8_goOn 35 = .ok (.iconst 1, 1) := by decide +kernel
theorem dX8_goOn_36 : decode cX8_goOn 36 = .ok (.iand, 1) := by decide +kernel
theorem dX8_goOn_37 : decode cX8_goOn 37 = .ok (.ifCond .ne 16, 3) := by decide +kernel
theorem dX8_goOn_40 : decode cX8_goOn 40 = .ok (.aload_n 0, 1) := by decide +kernel
theorem dX8_goOn_41 : decode cX8_goOn 41 = .ok (.iload_n 1, 1) := by decide +kernel
theorem dX8_goOn_42 : decode cX8_goOn 42 = .ok (.bipush 100, 2) := by decide +kernel
theorem dX8_goOn_44 : decode cX8_goOn 44 = .ok (.iload 4, 2) := by decide +kernel
theorem dX8_goOn_46 : decode cX8_goOn 46 = .ok (.iadd, 1) := by decide +kernel
theorem dX8_goOn_47 : decode cX8_goOn 47 = .ok (.iconst 0, 1) := by decide +kernel
theorem dX8_goOn_48 : decode cX8_goOn 48 = .ok (.iload_n 2, 1) := by decide +kernel
theorem dX8_goOn_49 : decode cX8_goOn 49 = .ok (.iload_n 3, 1) := by decide +kernel
theorem dX8_goOn_50 : decode cX8_goOn 50 = .ok (.invokevirtual 138, 3) := by decide +kernel
theorem dX8_goOn_53 : decode cX8_goOn 53 = .ok (.iinc 4 1, 3) := by decide +kernel
theorem dX8_goOn_56 : decode cX8_goOn 56 = .ok (.goto (-53), 3) := by decide +kernel
theorem dX8_goOn_59 : decode cX8_goOn 59 = .ok (.iconst 0, 1) := by decide +kernel
theorem dX8_goOn_60 : decode cX8_goOn 60 = .ok (.istore 4, 2) := by decide +kernel
theorem dX8_goOn_62 : decode cX8_goOn 62 = .ok (.iload 4, 2) := by decide +kernel
theorem dX8_goOn_64 : decode cX8_goOn 64 = .ok (.aload_n 0, 1) := by decide +kernel
theorem dX8_goOn_65 : decode cX8_goOn 65 = .ok (.getfield 75, 3) := by decide +kernel
theorem dX8_goOn_68 : decode cX8_goOn 68 = .ok (.if_icmp .ge 120, 3) := by decide +kernel
theorem dX8_goOn_71 : decode cX8_goOn 71 = .ok (.sipush 148, 3) := by decide +kernel
theorem dX8_goOn_74 : decode cX8_goOn 74 = .ok (.iload_n 1, 1) := by decide +kernel
theorem dX8_goOn_75 : decode cX8_goOn 75 = .ok (.imul, 1) := by decide +kernel
theorem dX8_goOn_76 : decode cX8_goOn 76 = .ok (.iload 4, 2) := by decide +kernel
theorem dX8_goOn_78 : decode cX8_goOn 78 = .ok (.invokestatic 96, 3) := by decide +kernel
theorem dX8_goOn_81 : decode cX8_goOn 81 = .ok (.iadd, 1) := by decide +kernel
theorem dX8_goOn_82 : decode cX8_goOn 82 = .ok (.istore 5, 2) := by decide +kernel
theorem dX8_goOn_84 : decode cX8_goOn 84 = .ok (.aload_n 0, 1) := by decide +kernel
theorem dX8_goOn_85 : decode cX8_goOn 85 = .ok (.getfield 28, 3) := by decide +kernel
theorem dX8_goOn_88 : decode cX8_goOn 88 = .ok (.iconst 4, 1) := by decide +kernel
theorem dX8_goOn_89 : decode cX8_goOn 89 = .ok (.iaload, 1) := by decide +kernel
theorem dX8_goOn_90 : decode cX8_goOn 90 = .ok (.iconst 1, 1) := by decide +kernel
theorem dX8_goOn_91 : decode cX8_goOn 91 = .ok (.if_icmp .ne 18, 3) := by decide +kernel
theorem dX8_goOn_94 : decode cX8_goOn 94 = .ok (.aload_n 0, 1) := by decide +kernel
theorem dX8_goOn_95 : decode cX8_goOn 95 = .ok (.getfield 35, 3) := by decide +kernel
theorem dX8_goOn_98 : decode cX8_goOn 98 = .ok (.iload 5, 2) := by decide +kernel
theorem dX8_goOn_100 : decode cX8_goOn 100 = .ok (.baload, 1) := by decide +kernel
theorem dX8_goOn_101 : decode cX8_goOn 101 = .ok (.iconst 1, 1) := by decide +kernel
theorem dX8_goOn_102 : decode cX8_goOn 102 = .ok (.if_icmp .le 7, 3) := by decide +kernel
theorem dX8_goOn_105 : decode cX8_goOn 105 = .ok (.iconst 1, 1) := by decide +kernel
theorem dX8_goOn_106 : decode cX8_goOn 106 = .ok (.goto 10, 3) := by decide +kernel
theorem dX8_goOn_109 : decode cX8_goOn 109 = .ok (.aload_n 0, 1) := by decide +kernel
theorem dX8_goOn_110 : decode cX8_goOn 110 = .ok (.getfield 35, 3) := by decide +kernel
theorem dX8_goOn_113 : decode cX8_goOn 113 = .ok (.iload 5, 2) := by decide +kernel
theorem dX8_goOn_115 : decode cX8_goOn 115 = .ok (.baload, 1) := by decide +kernel
theorem dX8_goOn_116 : decode cX8_goOn 116 = .ok (.istore 6, 2) := by decide +kernel
theorem dX8_goOn_118 : decode cX8_goOn 118 = .ok (.iconst 0, 1) := by decide +kernel
theorem dX8_goOn_119 : decode cX8_goOn 119 = .ok (.istore 7, 2) := by decide +kernel
theorem dX8_goOn_121 : decode cX8_goOn 121 = .ok (.iload 7, 2) := by decide +kernel
theorem dX8_goOn_123 : decode cX8_goOn 123 = .ok (.iload 6, 2) := by decide +kernel
theorem dX8_goOn_125 : decode cX8_goOn 125 = .ok (.if_icmp .ge 57, 3) := by decide +kernel
theorem dX8_goOn_128 : decode cX8_goOn 128 = .ok (.aload_n 0, 1) := by decide +kernel
theorem dX8_goOn_129 : decode cX8_goOn 129 = .ok (.getfield 128, 3) := by decide +kernel
theorem dX8_goOn_132 : decode cX8_goOn 132 = .ok (.ifCond .ne 50, 3) := by decide +kernel
theorem dX8_goOn_135 : decode cX8_goOn 135 = .ok (.iload 7, 2) := by decide +kernel
theorem dX8_goOn_137 : decode cX8_goOn 137 = .ok (.ifCond .eq 28, 3) := by decide +kernel
theorem dX8_goOn_140 : decode cX8_goOn 140 = .ok (.aload_n 0, 1) := by decide +kernel
theorem dX8_goOn_141 : decode cX8_goOn 141 = .ok (.getfield 35, 3) := by decide +kernel
theorem dX8_goOn_144 : decode cX8_goOn 144 = .ok (.iload 5, 2) := by decide +kernel
theorem dX8_goOn_146 : decode cX8_goOn 146 = .ok (.iconst 1, 1) := by decide +kernel
theorem dX8_goOn_147 : decode cX8_goOn 147 = .ok (.iadd, 1) := by decide +kernel
theorem dX8_goOn_148 : decode cX8_goOn 148 = .ok (.iload 7, 2) := by decide +kernel
theorem dX8_goOn_150 : decode cX8_goOn 150 = .ok (.iadd, 1) := by decide +kernel
theorem dX8_goOn_151 : decode cX8_goOn 151 = .ok (.baload, 1) := by decide +kernel
theorem dX8_goOn_152 : decode cX8_goOn 152 = .ok (.aload_n 0, 1) := by decide +kernel
theorem dX8_goOn_153 : decode cX8_goOn 153 = .ok (.getfield 35, 3) := by decide +kernel
theorem dX8_goOn_156 : decode cX8_goOn 156 = .ok (.iload 5, 2) := by decide +kernel
theorem dX8_goOn_158 : decode cX8_goOn 158 = .ok (.iload 7, 2) := by decide +kernel
theorem dX8_goOn_160 : decode cX8_goOn 160 = .ok (.iadd, 1) := by decide +kernel
theorem dX8_goOn_161 : decode cX8_goOn 161 = .ok (.baload, 1) := by decide +kernel
theorem dX8_goOn_162 : decode cX8_goOn 162 = .ok (.if_icmp .eq 14, 3) := by decide +kernel
theorem dX8_goOn_165 : decode cX8_goOn 165 = .ok (.aload_n 0, 1) := by decide +kernel
theorem dX8_goOn_166 : decode cX8_goOn 166 = .ok (.iload_n 1, 1) := by decide +kernel
theorem dX8_goOn_167 : decode cX8_goOn 167 = .ok (.iload 4, 2) := by decide +kernel
theorem dX8_goOn_169 : decode cX8_goOn 169 = .ok (.iload 7, 2) := by decide +kernel
theorem dX8_goOn_171 : decode cX8_goOn 171 = .ok (.iload_n 2, 1) := by decide +kernel
theorem dX8_goOn_172 : decode cX8_goOn 172 = .ok (.iload_n 3, 1) := by decide +kernel
theorem dX8_goOn_173 : decode cX8_goOn 173 = .ok (.invokevirtual 138, 3) := by decide +kernel
theorem dX8_goOn_176 : decode cX8_goOn 176 = .ok (.iinc 7 1, 3) := by decide +kernel
theorem dX8_goOn_179 : decode cX8_goOn 179 = .ok (.goto (-58), 3) := by decide +kernel
theorem dX8_goOn_182 : decode cX8_goOn 182 = .ok (.iinc 4 1, 3) := by decide +kernel
theorem dX8_goOn_185 : decode cX8_goOn 185 = .ok (.goto (-123), 3) := by decide +kernel
theorem dX8_goOn_188 : decode cX8_goOn 188 = .ok (.return_, 1) := by decide +kernel
set_option maxRecDepth 20000 in
theorem ggX8_openIn_X8_rowOf : GoodIn wsX8_openIn wsX8_rowOf := goodIn_r _ [7] (by decide +kernel) (by decide +kernel)
set_option maxRecDepth 20000 in
theorem gX8_openIn_X8_rowOf : GoodIn wsX8_openIn (va_wsS RX8 96 yX8_rowOf wsX8_rowOf) := goodIn_app (goodIn_of _ (by decide +kernel)) ggX8_openIn_X8_rowOf
theorem dX8_openIn_0 : decode cX8_openIn 0 = .ok (.iconst 0, 1) := by decide +kernel
theorem dX8_openIn_1 : decode cX8_openIn 1 = .ok (.istore_n 2, 1) := by decide +kernel
theorem dX8_openIn_2 : decode cX8_openIn 2 = .ok (.iconst 0, 1) := by decide +kernel
theorem dX8_openIn_3 : decode cX8_openIn 3 = .ok (.istore_n 3, 1) := by decide +kernel
theorem dX8_openIn_4 : decode cX8_openIn 4 = .ok (.iload_n 3, 1) := by decide +kernel
theorem dX8_openIn_5 : decode cX8_openIn 5 = .ok (.aload_n 0, 1) := by decide +kernel
theorem dX8_openIn_6 : decode cX8_openIn 6 = .ok (.getfield 78, 3) := by decide +kernel
theorem dX8_openIn_9 : decode cX8_openIn 9 = .ok (.if_icmp .ge 37, 3) := by decide +kernel
theorem dX8_openIn_12 : decode cX8_openIn 12 = .ok (.iload_n 2, 1) := by decide +kernel
theorem dX8_openIn_13 : decode cX8_openIn 13 = .ok (.aload_n 0, 1) := by decide +kernel
theorem dX8_openIn_14 : decode cX8_openIn 14 = .ok (.getfield 35, 3) := by decide +kernel
theorem dX8_openIn_17 : decode cX8_openIn 17 = .ok (.sipush 148, 3) := by decide +kernel
theorem dX8_openIn_20 : decode cX8_openIn 20 = .ok (.iload_n 1, 1) := by decide +kernel
theorem dX8_openIn_21 : decode cX8_openIn 21 = .ok (.imul, 1) := by decide +kernel
theorem dX8_openIn_22 : decode cX8_openIn 22 = .ok (.bipush 10, 2) := by decide +kernel
theorem dX8_openIn_24 : decode cX8_openIn 24 = .ok (.iadd, 1) := by decide +kernel
theorem dX8_openIn_25 : decode cX8_openIn 25 = .ok (.baload, 1) := by decide +kernel
theorem dX8_openIn_26 : decode cX8_openIn 26 = .ok (.iload_n 3, 1) := by decide +kernel
theorem dX8_openIn_27 : decode cX8_openIn 27 = .ok (.ishr, 1) := by decide +kernel
theorem dX8_openIn_28 : decode cX8_openIn 28 = .ok (.iconst 1, 1) := by decide +kernel
theorem dX8_openIn_29 : decode cX8_openIn 29 = .ok (.iand, 1) := by decide +kernel
theorem dX8_openIn_30 : decode cX8_openIn 30 = .ok (.ifCond .ne 7, 3) := by decide +kernel
theorem dX8_openIn_33 : decode cX8_openIn 33 = .ok (.iconst 1, 1) := by decide +kernel
theorem dX8_openIn_34 : decode cX8_openIn 34 = .ok (.goto 4, 3) := by decide +kernel
theorem dX8_openIn_37 : decode cX8_openIn 37 = .ok (.iconst 0, 1) := by decide +kernel
theorem dX8_openIn_38 : decode cX8_openIn 38 = .ok (.iadd, 1) := by decide +kernel
theorem dX8_openIn_39 : decode cX8_openIn 39 = .ok (.istore_n 2, 1) := by decide +kernel
theorem dX8_openIn_40 : decode cX8_openIn 40 = .ok (.iinc 3 1, 3) := by decide +kernel
theorem dX8_openIn_43 : decode cX8_openIn 43 = .ok (.goto (-39), 3) := by decide +kernel
theorem dX8_openIn_46 : decode cX8_openIn 46 = .ok (.iconst 0, 1) := by decide +kernel
theorem dX8_openIn_47 : decode cX8_openIn 47 = .ok (.istore_n 3, 1) := by decide +kernel
theorem dX8_openIn_48 : decode cX8_openIn 48 = .ok (.iload_n 3, 1) := by decide +kernel
theorem dX8_openIn_49 : decode cX8_openIn 49 = .ok (.aload_n 0, 1) := by decide +kernel
theorem dX8_openIn_50 : decode cX8_openIn 50 = .ok (.getfield 75, 3) := by decide +kernel
theorem dX8_openIn_53 : decode cX8_openIn 53 = .ok (.if_icmp .ge 27, 3) := by decide +kernel
theorem dX8_openIn_56 : decode cX8_openIn 56 = .ok (.iload_n 2, 1) := by decide +kernel
theorem dX8_openIn_57 : decode cX8_openIn 57 = .ok (.aload_n 0, 1) := by decide +kernel
theorem dX8_openIn_58 : decode cX8_openIn 58 = .ok (.getfield 35, 3) := by decide +kernel
theorem dX8_openIn_61 : decode cX8_openIn 61 = .ok (.sipush 148, 3) := by decide +kernel
theorem dX8_openIn_64 : decode cX8_openIn 64 = .ok (.iload_n 1, 1) := by decide +kernel
theorem dX8_openIn_65 : decode cX8_openIn 65 = .ok (.imul, 1) := by decide +kernel
theorem dX8_openIn_66 : decode cX8_openIn 66 = .ok (.iload_n 3, 1) := by decide +kernel
theorem dX8_openIn_67 : decode cX8_openIn 67 = .ok (.invokestatic 96, 3) := by decide +kernel
theorem dX8_openIn_70 : decode cX8_openIn 70 = .ok (.iadd, 1) := by decide +kernel
theorem dX8_openIn_71 : decode cX8_openIn 71 = .ok (.baload, 1) := by decide +kernel
theorem dX8_openIn_72 : decode cX8_openIn 72 = .ok (.iadd, 1) := by decide +kernel
theorem dX8_openIn_73 : decode cX8_openIn 73 = .ok (.istore_n 2, 1) := by decide +kernel
theorem dX8_openIn_74 : decode cX8_openIn 74 = .ok (.iinc 3 1, 3) := by decide +kernel
theorem dX8_openIn_77 : decode cX8_openIn 77 = .ok (.goto (-29), 3) := by decide +kernel
theorem dX8_openIn_80 : decode cX8_openIn 80 = .ok (.iload_n 2, 1) := by decide +kernel
theorem dX8_openIn_81 : decode cX8_openIn 81 = .ok (.ireturn, 1) := by decide +kernel
set_option maxRecDepth 20000 in
theorem ggX8_search_X8_find : GoodIn wsX8_search wsX8_find := goodIn_r _ [12, 4, 3, 1, 13, 14, 15, 11, 16, 17, 18, 19, 20, 73, 74, 75, 76, 77, 78, 79, 80, 81, 82, 83, 84, 85, 86, 87, 88, 89, 90, 91, 92, 93, 94, 95, 96, 97, 98, 99, 100, 101] (by decide +kernel) (by decide +kernel)
set_option maxRecDepth 20000 in
theorem gX8_search_X8_find : GoodIn wsX8_search (wsV RX8 125 RX8 yX8_find wsX8_find) := goodIn_app (goodIn_of _ (by decide +kernel)) ggX8_search_X8_find
set_option maxRecDepth 20000 in
theorem ggX8_search_X8_goOn : GoodIn wsX8_search wsX8_goOn := goodIn_r _ [24, 25, 2, 13, 26, 7, 27, 28, 29, 11, 30, 31, 32, 33, 34, 35, 36, 4, 37, 38, 39, 1, 40, 41, 42, 43, 44, 45, 46, 47, 48, 49, 50, 51, 52, 53, 54, 55, 56, 57, 58, 59, 60, 61, 62, 63, 64, 65, 66, 67, 68, 69, 70, 71, 72, 8, 9, 10, 12, 3, 14, 15, 16, 17, 18, 19, 20, 73, 74, 75, 76, 77, 78, 79, 80, 81, 82, 83, 84, 85, 86, 87, 88, 89, 90, 91, 92, 93, 94, 95, 96, 97, 98, 99, 100, 101] (by decide +kernel) (by decide +kernel)
set_option maxRecDepth 20000 in
theorem gX8_search_X8_goOn : GoodIn wsX8_search (wsV RX8 142 RX8 yX8_goOn wsX8_goOn) := goodIn_app (goodIn_of _ (by decide +kernel)) ggX8_search_X8_goOn
theorem dX8_search_0 : decode cX8_search 0 = .ok (.aload_n 0, 1) := by decide +kernel
theorem dX8_search_1 : decode cX8_search 1 = .ok (.iconst 0, 1) := by decide +kernel
theorem dX8_search_2 : decode cX8_search 2 = .ok (.putfield 111, 3) := by decide +kernel
theorem dX8_search_5 : decode cX8_search 5 = .ok (.aload_n 0, 1) := by decide +kernel
theorem dX8_search_6 : decode cX8_search 6 = .ok (.iconst 0, 1) := by decide +kernel
theorem dX8_search_7 : decode cX8_search 7 = .ok (.putfield 128, 3) := by decide +kernel
theorem dX8_search_10 : decode cX8_search 10 = .ok (.iconst 0, 1) := by decide +kernel
theorem dX8_search_11 : decode cX8_search 11 = .ok (.istore_n 3, 1) := by decide +kernel
theorem dX8_search_12 : decode cX8_search 12 = .ok (.iload_n 3, 1) := by decide +kernel
theorem dX8_search_13 : decode cX8_search 13 = .ok (.sipush 2048, 3) := by decide +kernel
theorem dX8_search_16 : decode cX8_search 16 = .ok (.if_icmp .ge 16, 3) := by decide +kernel
theorem dX8_search_19 : decode cX8_search 19 = .ok (.aload_n 0, 1) := by decide +kernel
theorem dX8_search_20 : decode cX8_search 20 = .ok (.getfield 39, 3) := by decide +kernel
theorem dX8_search_23 : decode cX8_search 23 = .ok (.iload_n 3, 1) := by decide +kernel
theorem dX8_search_24 : decode cX8_search 24 = .ok (.iconst 0, 1) := by decide +kernel
theorem dX8_search_25 : decode cX8_search 25 = .ok (.iastore, 1) := by decide +kernel
theorem dX8_search_26 : decode cX8_search 26 = .ok (.iinc 3 1, 3) := by decide +kernel
theorem dX8_search_29 : decode cX8_search 29 = .ok (.goto (-17), 3) := by decide +kernel
theorem dX8_search_32 : decode cX8_search 32 = .ok (.iconst 0, 1) := by decide +kernel
theorem dX8_search_33 : decode cX8_search 33 = .ok (.istore_n 3, 1) := by decide +kernel
theorem dX8_search_34 : decode cX8_search 34 = .ok (.iload_n 3, 1) := by decide +kernel
theorem dX8_search_35 : decode cX8_search 35 = .ok (.sipush 148, 3) := by decide +kernel
theorem dX8_search_38 : decode cX8_search 38 = .ok (.if_icmp .ge 34, 3) := by decide +kernel
theorem dX8_search_41 : decode cX8_search 41 = .ok (.aload_n 0, 1) := by decide +kernel
theorem dX8_search_42 : decode cX8_search 42 = .ok (.getfield 42, 3) := by decide +kernel
theorem dX8_search_45 : decode cX8_search 45 = .ok (.iload_n 3, 1) := by decide +kernel
theorem dX8_search_46 : decode cX8_search 46 = .ok (.iload_n 3, 1) := by decide +kernel
theorem dX8_search_47 : decode cX8_search 47 = .ok (.aload_n 0, 1) := by decide +kernel
theorem dX8_search_48 : decode cX8_search 48 = .ok (.getfield 71, 3) := by decide +kernel
theorem dX8_search_51 : decode cX8_search 51 = .ok (.if_icmp .ge 13, 3) := by decide +kernel
theorem dX8_search_54 : decode cX8_search 54 = .ok (.aload_n 0, 1) := by decide +kernel
theorem dX8_search_55 : decode cX8_search 55 = .ok (.getfield 7, 3) := by decide +kernel
theorem dX8_search_58 : decode cX8_search 58 = .ok (.iload_n 3, 1) := by decide +kernel
theorem dX8_search_59 : decode cX8_search 59 = .ok (.iaload, 1) := by decide +kernel
theorem dX8_search_60 : decode cX8_search 60 = .ok (.i2b, 1) := by decide +kernel
theorem dX8_search_61 : decode cX8_search 61 = .ok (.goto 4, 3) := by decide +kernel
theorem dX8_search_64 : decode cX8_search 64 = .ok (.iconst 0, 1) := by decide +kernel
theorem dX8_search_65 : decode cX8_search 65 = .ok (.bastore, 1) := by decide +kernel
theorem dX8_search_66 : decode cX8_search 66 = .ok (.iinc 3 1, 3) := by decide +kernel
theorem dX8_search_69 : decode cX8_search 69 = .ok (.goto (-35), 3) := by decide +kernel
theorem dX8_search_72 : decode cX8_search 72 = .ok (.aload_n 0, 1) := by decide +kernel
theorem dX8_search_73 : decode cX8_search 73 = .ok (.getfield 42, 3) := by decide +kernel
theorem dX8_search_76 : decode cX8_search 76 = .ok (.bipush 11, 2) := by decide +kernel
theorem dX8_search_78 : decode cX8_search 78 = .ok (.aload_n 0, 1) := by decide +kernel
theorem dX8_search_79 : decode cX8_search 79 = .ok (.getfield 28, 3) := by decide +kernel
theorem dX8_search_82 : decode cX8_search 82 = .ok (.iconst 5, 1) := by decide +kernel
theorem dX8_search_83 : decode cX8_search 83 = .ok (.iaload, 1) := by decide +kernel
theorem dX8_search_84 : decode cX8_search 84 = .ok (.i2b, 1) := by decide +kernel
theorem dX8_search_85 : decode cX8_search 85 = .ok (.bastore, 1) := by decide +kernel
theorem dX8_search_86 : decode cX8_search 86 = .ok (.aload_n 0, 1) := by decide +kernel
theorem dX8_search_87 : decode cX8_search 87 = .ok (.iload_n 1, 1) := by decide +kernel
theorem dX8_search_88 : decode cX8_search 88 = .ok (.invokevirtual 125, 3) := by decide +kernel
theorem dX8_search_91 : decode cX8_search 91 = .ok (.istore_n 3, 1) := by decide +kernel
theorem dX8_search_92 : decode cX8_search 92 = .ok (.iconst 0, 1) := by decide +kernel
theorem dX8_search_93 : decode cX8_search 93 = .ok (.istore 4, 2) := by decide +kernel
theorem dX8_search_95 : decode cX8_search 95 = .ok (.iload 4, 2) := by decide +kernel
theorem dX8_search_97 : decode cX8_search 97 = .ok (.aload_n 0, 1) := by decide +kernel
theorem dX8_search_98 : decode cX8_search 98 = .ok (.getfield 111, 3) := by decide +kernel
theorem dX8_search_101 : decode cX8_search 101 = .ok (.if_icmp .ge 28, 3) := by decide +kernel
theorem dX8_search_104 : decode cX8_search 104 = .ok (.aload_n 0, 1) := by decide +kernel
theorem dX8_search_105 : decode cX8_search 105 = .ok (.getfield 128, 3) := by decide +kernel
theorem dX8_search_108 : decode cX8_search 108 = .ok (.ifCond .ne 21, 3) := by decide +kernel
theorem dX8_search_111 : decode cX8_search 111 = .ok (.iload_n 3, 1) := by decide +kernel
theorem dX8_search_112 : decode cX8_search 112 = .ok (.ifCond .le 17, 3) := by decide +kernel
theorem dX8_search_115 : decode cX8_search 115 = .ok (.aload_n 0, 1) := by decide +kernel
theorem dX8_search_116 : decode cX8_search 116 = .ok (.iload 4, 2) := by decide +kernel
theorem dX8_search_118 : decode cX8_search 118 = .ok (.iload_n 1, 1) := by decide +kernel
theorem dX8_search_119 : decode cX8_search 119 = .ok (.iload_n 2, 1) := by decide +kernel
theorem dX8_search_120 : decode cX8_search 120 = .ok (.invokevirtual 142, 3) := by decide +kernel
theorem dX8_search_123 : decode cX8_search 123 = .ok (.iinc 4 1, 3) := by decide +kernel
theorem dX8_search_126 : decode cX8_search 126 = .ok (.goto (-31), 3) := by decide +kernel
theorem dX8_search_129 : decode cX8_search 129 = .ok (.aload_n 0, 1) := by decide +kernel
theorem dX8_search_130 : decode cX8_search 130 = .ok (.getfield 128, 3) := by decide +kernel
theorem dX8_search_133 : decode cX8_search 133 = .ok (.ifCond .ne 7, 3) := by decide +kernel
theorem dX8_search_136 : decode cX8_search 136 = .ok (.iconst 1, 1) := by decide +kernel
theorem dX8_search_137 : decode cX8_search 137 = .ok (.goto 4, 3) := by decide +kernel
theorem dX8_search_140 : decode cX8_search 140 = .ok (.iconst 0, 1) := by decide +kernel
theorem dX8_search_141 : decode cX8_search 141 = .ok (.ireturn, 1) := by decide +kernel
theorem dX8_isLike_0 : decode cX8_isLike 0 = .ok (.iconst 1, 1) := by decide +kernel
theorem dX8_isLike_1 : decode cX8_isLike 1 = .ok (.istore_n 3, 1) := by decide +kernel
theorem dX8_isLike_2 : decode cX8_isLike 2 = .ok (.iconst 0, 1) := by decide +kernel
theorem dX8_isLike_3 : decode cX8_isLike 3 = .ok (.istore 4, 2) := by decide +kernel
theorem dX8_isLike_5 : decode cX8_isLike 5 = .ok (.iload 4, 2) := by decide +kernel
theorem dX8_isLike_7 : decode cX8_isLike 7 = .ok (.iconst 5, 1) := by decide +kernel
theorem dX8_isLike_8 : decode cX8_isLike 8 = .ok (.if_icmp .ge 48, 3) := by decide +kernel
theorem dX8_isLike_11 : decode cX8_isLike 11 = .ok (.iload_n 3, 1) := by decide +kernel
theorem dX8_isLike_12 : decode cX8_isLike 12 = .ok (.ifCond .eq 36, 3) := by decide +kernel
theorem dX8_isLike_15 : decode cX8_isLike 15 = .ok (.aload_n 0, 1) := by decide +kernel
theorem dX8_isLike_16 : decode cX8_isLike 16 = .ok (.getfield 35, 3) := by decide +kernel
theorem dX8_isLike_19 : decode cX8_isLike 19 = .ok (.sipush 148, 3) := by decide +kernel
theorem dX8_isLike_22 : decode cX8_isLike 22 = .ok (.iload_n 1, 1) := by decide +kernel
theorem dX8_isLike_23 : decode cX8_isLike 23 = .ok (.imul, 1) := by decide +kernel
theorem dX8_isLike_24 : decode cX8_isLike 24 = .ok (.iload 4, 2) := by decide +kernel
theorem dX8_isLike_26 : decode cX8_isLike 26 = .ok (.iadd, 1) := by decide +kernel
theorem dX8_isLike_27 : decode cX8_isLike 27 = .ok (.baload, 1) := by decide +kernel
theorem dX8_isLike_28 : decode cX8_isLike 28 = .ok (.aload_n 0, 1) := by decide +kernel
theorem dX8_isLike_29 : decode cX8_isLike 29 = .ok (.getfield 35, 3) := by decide +kernel
theorem dX8_isLike_32 : decode cX8_isLike 32 = .ok (.sipush 148, 3) := by decide +kernel
theorem dX8_isLike_35 : decode cX8_isLike 35 = .ok (.iload_n 2, 1) := by decide +kernel
theorem dX8_isLike_36 : decode cX8_isLike 36 = .ok (.imul, 1) := by decide +kernel
theorem dX8_isLike_37 : decode cX8_isLike 37 = .ok (.iload 4, 2) := by decide +kernel
theorem dX8_isLike_39 : decode cX8_isLike 39 = .ok (.iadd, 1) := by decide +kernel
theorem dX8_isLike_40 : decode cX8_isLike 40 = .ok (.baload, 1) := by decide +kernel
theorem dX8_isLike_41 : decode cX8_isLike 41 = .ok (.if_icmp .ne 7, 3) := by decide +kernel
theorem dX8_isLike_44 : decode cX8_isLike 44 = .ok (.iconst 1, 1) := by decide +kernel
theorem dX8_isLike_45 : decode cX8_isLike 45 = .ok (.goto 4, 3) := by decide +kernel
theorem dX8_isLike_48 : decode cX8_isLike 48 = .ok (.iconst 0, 1) := by decide +kernel
theorem dX8_isLike_49 : decode cX8_isLike 49 = .ok (.istore_n 3, 1) := by decide +kernel
theorem dX8_isLike_50 : decode cX8_isLike 50 = .ok (.iinc 4 1, 3) := by decide +kernel
theorem dX8_isLike_53 : decode cX8_isLike 53 = .ok (.goto (-48), 3) := by decide +kernel
theorem dX8_isLike_56 : decode cX8_isLike 56 = .ok (.iload_n 3, 1) := by decide +kernel
theorem dX8_isLike_57 : decode cX8_isLike 57 = .ok (.ireturn, 1) := by decide +kernel
set_option maxRecDepth 20000 in
theorem ggX8_isFirstOf_X8_openIn : GoodIn wsX8_isFirstOf wsX8_openIn := goodIn_r _ [5, 6, 7, 8, 9, 10, 4, 11, 16, 17, 18, 19, 20, 21, 22, 23, 24, 25, 26, 27, 28, 29, 30, 31, 32, 33, 34, 35, 36, 37, 38, 39, 40, 41, 42, 43, 44] (by decide +kernel) (by decide +kernel)
set_option maxRecDepth 20000 in
theorem gX8_isFirstOf_X8_openIn : GoodIn wsX8_isFirstOf (wsV RX8 145 RX8 yX8_openIn wsX8_openIn) := goodIn_app (goodIn_of _ (by decide +kernel)) ggX8_isFirstOf_X8_openIn
set_option maxRecDepth 20000 in
theorem ggX8_isFirstOf_X8_isLike : GoodIn wsX8_isFirstOf wsX8_isLike := goodIn_r _ [15, 7, 16, 17, 18, 19, 20, 21, 22, 23, 24, 25, 26, 27, 28, 29, 30, 31, 32, 33, 34, 35, 36, 37, 38, 39, 40, 41, 42, 43, 44] (by decide +kernel) (by decide +kernel)
set_option maxRecDepth 20000 in
theorem gX8_isFirstOf_X8_isLike : GoodIn wsX8_isFirstOf (wsV RX8 148 RX8 yX8_isLike wsX8_isLike) := goodIn_app (goodIn_of _ (by decide +kernel)) ggX8_isFirstOf_X8_isLike
theorem dX8_isFirstOf_0 : decode cX8_isFirstOf 0 = .ok (.aload_n 0, 1) := by decide +kernel
theorem dX8_isFirstOf_1 : decode cX8_isFirstOf 1 = .ok (.iload_n 1, 1) := by decide +kernel
theorem dX8_isFirstOf_2 : decode cX8_isFirstOf 2 = .ok (.invokevirtual 145, 3) := by decide +kernel
theorem dX8_isFirstOf_5 : decode cX8_isFirstOf 5 = .ok (.ifCond .le 5, 3) := by decide +kernel
theorem dX8_isFirstOf_8 : decode cX8_isFirstOf 8 = .ok (.iconst 0, 1) := by decide +kernel
theorem dX8_isFirstOf_9 : decode cX8_isFirstOf 9 = .ok (.ireturn, 1) := by decide +kernel
theorem dX8_isFirstOf_10 : decode cX8_isFirstOf 10 = .ok (.iconst 0, 1) := by decide +kernel
theorem dX8_isFirstOf_11 : decode cX8_isFirstOf 11 = .ok (.istore_n 2, 1) := by decide +kernel
theorem dX8_isFirstOf_12 : decode cX8_isFirstOf 12 = .ok (.iload_n 2, 1) := by decide +kernel
theorem dX8_isFirstOf_13 : decode cX8_isFirstOf 13 = .ok (.iload_n 1, 1) := by decide +kernel
theorem dX8_isFirstOf_14 : decode cX8_isFirstOf 14 = .ok (.if_icmp .ge 28, 3) := by decide +kernel
theorem dX8_isFirstOf_17 : decode cX8_isFirstOf 17 = .ok (.aload_n 0, 1) := by decide +kernel
theorem dX8_isFirstOf_18 : decode cX8_isFirstOf 18 = .ok (.iload_n 2, 1) := by decide +kernel
theorem dX8_isFirstOf_19 : decode cX8_isFirstOf 19 = .ok (.invokevirtual 145, 3) := by decide +kernel
theorem dX8_isFirstOf_22 : decode cX8_isFirstOf 22 = .ok (.ifCond .ne 14, 3) := by decide +kernel
theorem dX8_isFirstOf_25 : decode cX8_isFirstOf 25 = .ok (.aload_n 0, 1) := by decide +kernel
theorem dX8_isFirstOf_26 : decode cX8_isFirstOf 26 = .ok (.iload_n 2, 1) := by decide +kernel
theorem dX8_isFirstOf_27 : decode cX8_isFirstOf 27 = .ok (.iload_n 1, 1) := by decide +kernel
theorem dX8_isFirstOf_28 : decode cX8_isFirstOf 28 = .ok (.invokevirtual 148, 3) := by decide +kernel
theorem dX8_isFirstOf_31 : decode cX8_isFirstOf 31 = .ok (.ifCond .eq 5, 3) := by decide +kernel
theorem dX8_isFirstOf_34 : decode cX8_isFirstOf 34 = .ok (.iconst 0, 1) := by decide +kernel
theorem dX8_isFirstOf_35 : decode cX8_isFirstOf 35 = .ok (.ireturn, 1) := by decide +kernel
theorem dX8_isFirstOf_36 : decode cX8_isFirstOf 36 = .ok (.iinc 2 1, 3) := by decide +kernel
theorem dX8_isFirstOf_39 : decode cX8_isFirstOf 39 = .ok (.goto (-27), 3) := by decide +kernel
theorem dX8_isFirstOf_42 : decode cX8_isFirstOf 42 = .ok (.iconst 1, 1) := by decide +kernel
theorem dX8_isFirstOf_43 : decode cX8_isFirstOf 43 = .ok (.ireturn, 1) := by decide +kernel
set_option maxRecDepth 20000 in
theorem ggX8_countEnds_X8_isFirstOf : GoodIn wsX8_countEnds wsX8_isFirstOf := goodIn_r _ [6, 7, 8, 9, 5, 10, 11, 12, 13, 14, 15, 16, 17, 18, 19, 20, 21, 22, 23, 24, 25, 26, 27, 28, 29, 30, 31, 32, 33, 34, 35, 36, 37, 38, 39, 40, 41, 42, 43, 44, 45, 46, 47, 48, 49] (by decide +kernel) (by decide +kernel)
set_option maxRecDepth 20000 in
theorem gX8_countEnds_X8_isFirstOf : GoodIn wsX8_countEnds (wsV RX8 152 RX8 yX8_isFirstOf wsX8_isFirstOf) := goodIn_app (goodIn_of _ (by decide +kernel)) ggX8_countEnds_X8_isFirstOf
theorem dX8_countEnds_0 : decode cX8_countEnds 0 = .ok (.iconst 0, 1) := by decide +kernel
theorem dX8_countEnds_1 : decode cX8_countEnds 1 = .ok (.istore_n 1, 1) := by decide +kernel
theorem dX8_countEnds_2 : decode cX8_countEnds 2 = .ok (.iconst 0, 1) := by decide +kernel
theorem dX8_countEnds_3 : decode cX8_countEnds 3 = .ok (.istore_n 2, 1) := by decide +kernel
theorem dX8_countEnds_4 : decode cX8_countEnds 4 = .ok (.iload_n 2, 1) := by decide +kernel
theorem dX8_countEnds_5 : decode cX8_countEnds 5 = .ok (.aload_n 0, 1) := by decide +kernel
theorem dX8_countEnds_6 : decode cX8_countEnds 6 = .ok (.getfield 111, 3) := by decide +kernel
theorem dX8_countEnds_9 : decode cX8_countEnds 9 = .ok (.if_icmp .ge 25, 3) := by decide +kernel
theorem dX8_countEnds_12 : decode cX8_countEnds 12 = .ok (.iload_n 1, 1) := by decide +kernel
theorem dX8_countEnds_13 : decode cX8_countEnds 13 = .ok (.aload_n 0, 1) := by decide +kernel
theorem dX8_countEnds_14 : decode cX8_countEnds 14 = .ok (.iload_n 2, 1) := by decide +kernel
theorem dX8_countEnds_15 : decode cX8_countEnds 15 = .ok (.invokevirtual 152, 3) := by decide +kernel
theorem dX8_countEnds_18 : decode cX8_countEnds 18 = .ok (.ifCond .eq 7, 3) := by decide +kernel
theorem dX8_countEnds_21 : decode cX8_countEnds 21 = .ok (.iconst 1, 1) := by decide +kernel
theorem dX8_countEnds_22 : decode cX8_countEnds 22 = .ok (.goto 4, 3) := by decide +kernel
theorem dX8_countEnds_25 : decode cX8_countEnds 25 = .ok (.iconst 0, 1) := by decide +kernel
theorem dX8_countEnds_26 : decode cX8_countEnds 26 = .ok (.iadd, 1) := by decide +kernel
theorem dX8_countEnds_27 : decode cX8_countEnds 27 = .ok (.istore_n 1, 1) := by decide +kernel
theorem dX8_countEnds_28 : decode cX8_countEnds 28 = .ok (.iinc 2 1, 3) := by decide +kernel
theorem dX8_countEnds_31 : decode cX8_countEnds 31 = .ok (.goto (-27), 3) := by decide +kernel
theorem dX8_countEnds_34 : decode cX8_countEnds 34 = .ok (.iload_n 1, 1) := by decide +kernel
theorem dX8_countEnds_35 : decode cX8_countEnds 35 = .ok (.ireturn, 1) := by decide +kernel
set_option maxRecDepth 20000 in
theorem ggX8_look_X8_in : GoodIn wsX8_look wsX8_in := goodIn_r _ [17] (by decide +kernel) (by decide +kernel)
set_option maxRecDepth 20000 in
theorem gX8_look_X8_in : GoodIn wsX8_look (va_wsS RX8 67 yX8_in wsX8_in) := goodIn_app (goodIn_of _ (by decide +kernel)) ggX8_look_X8_in
set_option maxRecDepth 20000 in
theorem ggX8_look_X8_search : GoodIn wsX8_look wsX8_search := goodIn_r _ [21, 10, 22, 23, 24, 5, 25, 26, 27, 28, 29, 16, 30, 13, 31, 32, 33, 34, 35, 36, 37, 38, 39, 40, 41, 42, 43, 44, 45, 46, 47, 48, 49, 50, 51, 52, 53, 54, 1, 2, 55, 56, 57, 58, 59, 60, 61, 62, 63, 64, 65, 66, 67, 68, 69, 70, 71, 72, 73, 74, 75, 76, 77, 78, 79, 80, 81, 82, 83, 84, 85, 86, 87, 100, 101, 102, 103, 104, 105, 106, 107, 108, 109, 110, 111, 112, 113, 114, 115, 116, 117, 118, 119, 120, 121, 122, 123, 124, 125, 126, 127, 128] (by decide +kernel) (by decide +kernel)
set_option maxRecDepth 20000 in
theorem gX8_look_X8_search : GoodIn wsX8_look (wsV RX8 155 RX8 yX8_search wsX8_search) := goodIn_app (goodIn_of _ (by decide +kernel)) ggX8_look_X8_search
set_option maxRecDepth 20000 in
theorem ggX8_look_X8_openIn : GoodIn wsX8_look wsX8_openIn := goodIn_r _ [91, 42, 13, 43, 62, 63, 16, 64, 100, 101, 102, 103, 104, 105, 106, 107, 108, 109, 110, 111, 112, 113, 114, 115, 116, 117, 118, 119, 120, 121, 122, 123, 124, 125, 126, 127, 128] (by decide +kernel) (by decide +kernel)
set_option maxRecDepth 20000 in
theorem gX8_look_X8_openIn : GoodIn wsX8_look (wsV RX8 145 RX8 yX8_openIn wsX8_openIn) := goodIn_app (goodIn_of _ (by decide +kernel)) ggX8_look_X8_openIn
set_option maxRecDepth 20000 in
theorem ggX8_look_X8_isFirstOf : GoodIn wsX8_look wsX8_isFirstOf := goodIn_r _ [95, 88, 89, 90, 16, 91, 42, 13, 43, 62, 63, 64, 96, 97, 98, 99, 100, 101, 102, 103, 104, 105, 106, 107, 108, 109, 110, 111, 112, 113, 114, 115, 116, 117, 118, 119, 120, 121, 122, 123, 124, 125, 126, 127, 128] (by decide +kernel) (by decide +kernel)
set_option maxRecDepth 20000 in
theorem gX8_look_X8_isFirstOf : GoodIn wsX8_look (wsV RX8 152 RX8 yX8_isFirstOf wsX8_isFirstOf) := goodIn_app (goodIn_of _ (by decide +kernel)) ggX8_look_X8_isFirstOf
theorem dX8_look_0 : decode cX8_look 0 = .ok (.iload_n 1, 1) := by decide +kernel
theorem dX8_look_1 : decode cX8_look 1 = .ok (.iconst 1, 1) := by decide +kernel
theorem dX8_look_2 : decode cX8_look 2 = .ok (.sipush 600, 3) := by decide +kernel
theorem dX8_look_5 : decode cX8_look 5 = .ok (.invokestatic 67, 3) := by decide +kernel
theorem dX8_look_8 : decode cX8_look 8 = .ok (.ifCond .ne 6, 3) := by decide +kernel
theorem dX8_look_11 : decode cX8_look 11 = .ok (.bipush (-102), 2) := by decide +kernel
theorem dX8_look_13 : decode cX8_look 13 = .ok (.ireturn, 1) := by decide +kernel
theorem dX8_look_14 : decode cX8_look 14 = .ok (.aload_n 0, 1) := by decide +kernel
theorem dX8_look_15 : decode cX8_look 15 = .ok (.iconst 1, 1) := by decide +kernel
theorem dX8_look_16 : decode cX8_look 16 = .ok (.putfield 131, 3) := by decide +kernel
theorem dX8_look_19 : decode cX8_look 19 = .ok (.aload_n 0, 1) := by decide +kernel
theorem dX8_look_20 : decode cX8_look 20 = .ok (.getfield 51, 3) := by decide +kernel
theorem dX8_look_23 : decode cX8_look 23 = .ok (.iconst 0, 1) := by decide +kernel
theorem dX8_look_24 : decode cX8_look 24 = .ok (.iconst (-1), 1) := by decide +kernel
theorem dX8_look_25 : decode cX8_look 25 = .ok (.iastore, 1) := by decide +kernel
theorem dX8_look_26 : decode cX8_look 26 = .ok (.aload_n 0, 1) := by decide +kernel
theorem dX8_look_27 : decode cX8_look 27 = .ok (.aload_n 0, 1) := by decide +kernel
theorem dX8_look_28 : decode cX8_look 28 = .ok (.iload_n 1, 1) := by decide +kernel
theorem dX8_look_29 : decode cX8_look 29 = .ok (.iconst 0, 1) := by decide +kernel
theorem dX8_look_30 : decode cX8_look 30 = .ok (.invokevirtual 155, 3) := by decide +kernel
theorem dX8_look_33 : decode cX8_look 33 = .ok (.putfield 158, 3) := by decide +kernel
theorem dX8_look_36 : decode cX8_look 36 = .ok (.aload_n 0, 1) := by decide +kernel
theorem dX8_look_37 : decode cX8_look 37 = .ok (.iconst 1, 1) := by decide +kernel
theorem dX8_look_38 : decode cX8_look 38 = .ok (.putfield 63, 3) := by decide +kernel
theorem dX8_look_41 : decode cX8_look 41 = .ok (.aload_n 0, 1) := by decide +kernel
theorem dX8_look_42 : decode cX8_look 42 = .ok (.aload_n 0, 1) := by decide +kernel
theorem dX8_look_43 : decode cX8_look 43 = .ok (.getfield 71, 3) := by decide +kernel
theorem dX8_look_46 : decode cX8_look 46 = .ok (.putfield 161, 3) := by decide +kernel
theorem dX8_look_49 : decode cX8_look 49 = .ok (.aload_n 0, 1) := by decide +kernel
theorem dX8_look_50 : decode cX8_look 50 = .ok (.iconst 0, 1) := by decide +kernel
theorem dX8_look_51 : decode cX8_look 51 = .ok (.putfield 164, 3) := by decide +kernel
theorem dX8_look_54 : decode cX8_look 54 = .ok (.aload_n 0, 1) := by decide +kernel
theorem dX8_look_55 : decode cX8_look 55 = .ok (.iconst 0, 1) := by decide +kernel
theorem dX8_look_56 : decode cX8_look 56 = .ok (.putfield 167, 3) := by decide +kernel
theorem dX8_look_59 : decode cX8_look 59 = .ok (.aload_n 0, 1) := by decide +kernel
theorem dX8_look_60 : decode cX8_look 60 = .ok (.iconst 0, 1) := by decide +kernel
theorem dX8_look_61 : decode cX8_look 61 = .ok (.putfield 170, 3) := by decide +kernel
theorem dX8_look_64 : decode cX8_look 64 = .ok (.iconst 0, 1) := by decide +kernel
theorem dX8_look_65 : decode cX8_look 65 = .ok (.istore_n 2, 1) := by decide +kernel
theorem dX8_look_66 : decode cX8_look 66 = .ok (.iload_n 2, 1) := by decide +kernel
theorem dX8_look_67 : decode cX8_look 67 = .ok (.aload_n 0, 1) := by decide +kernel
theorem dX8_look_68 : decode cX8_look 68 = .ok (.getfield 111, 3) := by decide +kernel
theorem dX8_look_71 : decode cX8_look 71 = .ok (.if_icmp .ge 123, 3) := by decide +kernel
theorem dX8_look_74 : decode cX8_look 74 = .ok (.aload_n 0, 1) := by decide +kernel
theorem dX8_look_75 : decode cX8_look 75 = .ok (.iload_n 2, 1) := by decide +kernel
theorem dX8_look_76 : decode cX8_look 76 = .ok (.invokevirtual 145, 3) := by decide +kernel
theorem dX8_look_79 : decode cX8_look 79 = .ok (.istore_n 3, 1) := by decide +kernel
theorem dX8_look_80 : decode cX8_look 80 = .ok (.aload_n 0, 1) := by decide +kernel
theorem dX8_look_81 : decode cX8_look 81 = .ok (.dup, 1) := by decide +kernel
theorem dX8_look_82 : decode cX8_look 82 = .ok (.getfield 164, 3) := by decide +kernel
theorem dX8_look_85 : decode cX8_look 85 = .ok (.iload_n 3, 1) := by decide +kernel
theorem dX8_look_86 : decode cX8_look 86 = .ok (.ifCond .ne 7, 3) := by decide +kernel
theorem dX8_look_89 : decode cX8_look 89 = .ok (.iconst 1, 1) := by decide +kernel
theorem dX8_look_90 : decode cX8_look 90 = .ok (.goto 4, 3) := by decide +kernel
theorem dX8_look_93 : decode cX8_look 93 = .ok (.iconst 0, 1) := by decide +kernel
theorem dX8_look_94 : decode cX8_look 94 = .ok (.iadd, 1) := by decide +kernel
theorem dX8_look_95 : decode cX8_look 95 = .ok (.putfield 164, 3) := by decide +kernel
theorem dX8_look_98 : decode cX8_look 98 = .ok (.aload_n 0, 1) := by decide +kernel
theorem dX8_look_99 : decode cX8_look 99 = .ok (.iload_n 3, 1) := by decide +kernel
theorem dX8_look_100 : decode cX8_look 100 = .ok (.aload_n 0, 1) := by decide +kernel
theorem dX8_look_101 : decode cX8_look 101 = .ok (.getfield 167, 3) := by decide +kernel
theorem dX8_look_104 : decode cX8_look 104 = .ok (.if_icmp .le 7, 3) := by decide +kernel
theorem dX8_look_107 : decode cX8_look 107 = .ok (.iload_n 3, 1) := by decide +kernel
theorem dX8_look_108 : decode cX8_look 108 = .ok (.goto 7, 3) := by decide +kernel
theorem dX8_look_111 : decode cX8_look 111 = .ok (.aload_n 0, 1) := by decide +kernel
theorem dX8_look_112 : decode cX8_look 112 = .ok (.getfield 167, 3) := by decide +kernel
theorem dX8_look_115 : decode cX8_look 115 = .ok (.putfield 167, 3) := by decide +kernel
theorem dX8_look_118 : decode cX8_look 118 = .ok (.aload_n 0, 1) := by decide +kernel
theorem dX8_look_119 : decode cX8_look 119 = .ok (.iload_n 2, 1) := by decide +kernel
theorem dX8_look_120 : decode cX8_look 120 = .ok (.invokevirtual 152, 3) := by decide +kernel
theorem dX8_look_123 : decode cX8_look 123 = .ok (.ifCond .eq 65, 3) := by decide +kernel
theorem dX8_look_126 : decode cX8_look 126 = .ok (.aload_n 0, 1) := by decide +kernel
theorem dX8_look_127 : decode cX8_look 127 = .ok (.getfield 45, 3) := by decide +kernel
theorem dX8_look_130 : decode cX8_look 130 = .ok (.aload_n 0, 1) := by decide +kernel
theorem dX8_look_131 : decode cX8_look 131 = .ok (.getfield 170, 3) := by decide +kernel
theorem dX8_look_134 : decode cX8_look 134 = .ok (.iload_n 2, 1) := by decide +kernel
theorem dX8_look_135 : decode cX8_look 135 = .ok (.iastore, 1) := by decide +kernel
theorem dX8_look_136 : decode cX8_look 136 = .ok (.iconst 0, 1) := by decide +kernel
theorem dX8_look_137 : decode cX8_look 137 = .ok (.istore 4, 2) := by decide +kernel
theorem dX8_look_139 : decode cX8_look 139 = .ok (.iload 4, 2) := by decide +kernel
theorem dX8_look_141 : decode cX8_look 141 = .ok (.iconst 5, 1) := by decide +kernel
theorem dX8_look_142 : decode cX8_look 142 = .ok (.if_icmp .ge 36, 3) := by decide +kernel
theorem dX8_look_145 : decode cX8_look 145 = .ok (.aload_n 0, 1) := by decide +kernel
theorem dX8_look_146 : decode cX8_look 146 = .ok (.getfield 48, 3) := by decide +kernel
theorem dX8_look_149 : decode cX8_look 149 = .ok (.iconst 5, 1) := by decide +kernel
theorem dX8_look_150 : decode cX8_look 150 = .ok (.aload_n 0, 1) := by decide +kernel
theorem dX8_look_151 : decode cX8_look 151 = .ok (.getfield 170, 3) := by decide +kernel
theorem dX8_look_154 : decode cX8_look 154 = .ok (.imul, 1) := by decide +kernel
theorem dX8_look_155 : decode cX8_look 155 = .ok (.iload 4, 2) := by decide +kernel
theorem dX8_look_157 : decode cX8_look 157 = .ok (.iadd, 1) := by decide +kernel
theorem dX8_look_158 : decode cX8_look 158 = .ok (.aload_n 0, 1) := by decide +kernel
theorem dX8_look_159 : decode cX8_look 159 = .ok (.getfield 35, 3) := by decide +kernel
theorem dX8_look_162 : decode cX8_look 162 = .ok (.sipush 148, 3) := by decide +kernel
theorem dX8_look_165 : decode cX8_look 165 = .ok (.iload_n 2, 1) := by decide +kernel
theorem dX8_look_166 : decode cX8_look 166 = .ok (.imul, 1) := by decide +kernel
theorem dX8_look_167 : decode cX8_look 167 = .ok (.iload 4, 2) := by decide +kernel
theorem dX8_look_169 : decode cX8_look 169 = .ok (.iadd, 1) := by decide +kernel
theorem dX8_look_170 : decode cX8_look 170 = .ok (.baload, 1) := by decide +kernel
theorem dX8_look_171 : decode cX8_look 171 = .ok (.bastore, 1) := by decide +kernel
theorem dX8_look_172 : decode cX8_look 172 = .ok (.iinc 4 1, 3) := by decide +kernel
theorem dX8_look_175 : decode cX8_look 175 = .ok (.goto (-36), 3) := by decide +kernel
theorem dX8_look_178 : decode cX8_look 178 = .ok (.aload_n 0, 1) := by decide +kernel
theorem dX8_look_179 : decode cX8_look 179 = .ok (.dup, 1) := by decide +kernel
theorem dX8_look_180 : decode cX8_look 180 = .ok (.getfield 170, 3) := by decide +kernel
theorem dX8_look_183 : decode cX8_look 183 = .ok (.iconst 1, 1) := by decide +kernel
theorem dX8_look_184 : decode cX8_look 184 = .ok (.iadd, 1) := by decide +kernel
theorem dX8_look_185 : decode cX8_look 185 = .ok (.putfield 170, 3) := by decide +kernel
theorem dX8_look_188 : decode cX8_look 188 = .ok (.iinc 2 1, 3) := by decide +kernel
theorem dX8_look_191 : decode cX8_look 191 = .ok (.goto (-125), 3) := by decide +kernel
theorem dX8_look_194 : decode cX8_look 194 = .ok (.aload_n 0, 1) := by decide +kernel
theorem dX8_look_195 : decode cX8_look 195 = .ok (.getfield 111, 3) := by decide +kernel
theorem dX8_look_198 : decode cX8_look 198 = .ok (.ireturn, 1) := by decide +kernel
set_option maxRecDepth 20000 in
theorem ggX8_looked_X8_in : GoodIn wsX8_looked wsX8_in := goodIn_r _ [9] (by decide +kernel) (by decide +kernel)
set_option maxRecDepth 20000 in
theorem gX8_looked_X8_in : GoodIn wsX8_looked (va_wsS RX8 67 yX8_in wsX8_in) := goodIn_app (goodIn_of _ (by decide +kernel)) ggX8_looked_X8_in
theorem dX8_looked_0 : decode cX8_looked 0 = .ok (.iload_n 1, 1) := by decide +kernel
theorem dX8_looked_1 : decode cX8_looked 1 = .ok (.iconst 0, 1) := by decide +kernel
theorem dX8_looked_2 : decode cX8_looked 2 = .ok (.iconst 3, 1) := by decide +kernel
theorem dX8_looked_3 : decode cX8_looked 3 = .ok (.invokestatic 67, 3) := by decide +kernel
theorem dX8_looked_6 : decode cX8_looked 6 = .ok (.ifCond .ne 6, 3) := by decide +kernel
theorem dX8_looked_9 : decode cX8_looked 9 = .ok (.bipush (-102), 2) := by decide +kernel
theorem dX8_looked_11 : decode cX8_looked 11 = .ok (.ireturn, 1) := by decide +kernel
theorem dX8_looked_12 : decode cX8_looked 12 = .ok (.aload_n 0, 1) := by decide +kernel
theorem dX8_looked_13 : decode cX8_looked 13 = .ok (.getfield 63, 3) := by decide +kernel
theorem dX8_looked_16 : decode cX8_looked 16 = .ok (.ifCond .ne 5, 3) := by decide +kernel
theorem dX8_looked_19 : decode cX8_looked 19 = .ok (.iconst (-1), 1) := by decide +kernel
theorem dX8_looked_20 : decode cX8_looked 20 = .ok (.ireturn, 1) := by decide +kernel
theorem dX8_looked_21 : decode cX8_looked 21 = .ok (.iload_n 1, 1) := by decide +kernel
theorem dX8_looked_22 : decode cX8_looked 22 = .ok (.ifCond .ne 18, 3) := by decide +kernel
theorem dX8_looked_25 : decode cX8_looked 25 = .ok (.aload_n 0, 1) := by decide +kernel
theorem dX8_looked_26 : decode cX8_looked 26 = .ok (.getfield 158, 3) := by decide +kernel
theorem dX8_looked_29 : decode cX8_looked 29 = .ok (.ifCond .eq 7, 3) := by decide +kernel
theorem dX8_looked_32 : decode cX8_looked 32 = .ok (.iconst 1, 1) := by decide +kernel
theorem dX8_looked_33 : decode cX8_looked 33 = .ok (.goto 35, 3) := by decide +kernel
theorem dX8_looked_36 : decode cX8_looked 36 = .ok (.iconst 0, 1) := by decide +kernel
theorem dX8_looked_37 : decode cX8_looked 37 = .ok (.goto 31, 3) := by decide +kernel
theorem dX8_looked_40 : decode cX8_looked 40 = .ok (.iload_n 1, 1) := by decide +kernel
theorem dX8_looked_41 : decode cX8_looked 41 = .ok (.iconst 1, 1) := by decide +kernel
theorem dX8_looked_42 : decode cX8_looked 42 = .ok (.if_icmp .ne 10, 3) := by decide +kernel
theorem dX8_looked_45 : decode cX8_looked 45 = .ok (.aload_n 0, 1) := by decide +kernel
theorem dX8_looked_46 : decode cX8_looked 46 = .ok (.getfield 170, 3) := by decide +kernel
theorem dX8_looked_49 : decode cX8_looked 49 = .ok (.goto 19, 3) := by decide +kernel
theorem dX8_looked_52 : decode cX8_looked 52 = .ok (.iload_n 1, 1) := by decide +kernel
theorem dX8_looked_53 : decode cX8_looked 53 = .ok (.iconst 2, 1) := by decide +kernel
theorem dX8_looked_54 : decode cX8_looked 54 = .ok (.if_icmp .ne 10, 3) := by decide +kernel
theorem dX8_looked_57 : decode cX8_looked 57 = .ok (.aload_n 0, 1) := by decide +kernel
theorem dX8_looked_58 : decode cX8_looked 58 = .ok (.getfield 164, 3) := by decide +kernel
theorem dX8_looked_61 : decode cX8_looked 61 = .ok (.goto 7, 3) := by decide +kernel
theorem dX8_looked_64 : decode cX8_looked 64 = .ok (.aload_n 0, 1) := by decide +kernel
theorem dX8_looked_65 : decode cX8_looked 65 = .ok (.getfield 167, 3) := by decide +kernel
theorem dX8_looked_68 : decode cX8_looked 68 = .ok (.ireturn, 1) := by decide +kernel
set_option maxRecDepth 20000 in
theorem ggX8_end_X8_in : GoodIn wsX8_end wsX8_in := goodIn_r _ [8] (by decide +kernel) (by decide +kernel)
set_option maxRecDepth 20000 in
theorem gX8_end_X8_in : GoodIn wsX8_end (va_wsS RX8 67 yX8_in wsX8_in) := goodIn_app (goodIn_of _ (by decide +kernel)) ggX8_end_X8_in
theorem dX8_end_0 : decode cX8_end 0 = .ok (.aload_n 0, 1) := by decide +kernel
theorem dX8_end_1 : decode cX8_end 1 = .ok (.getfield 63, 3) := by decide +kernel
theorem dX8_end_4 : decode cX8_end 4 = .ok (.ifCond .eq 31, 3) := by decide +kernel
theorem dX8_end_7 : decode cX8_end 7 = .ok (.iload_n 1, 1) := by decide +kernel
theorem dX8_end_8 : decode cX8_end 8 = .ok (.iconst 0, 1) := by decide +kernel
theorem dX8_end_9 : decode cX8_end 9 = .ok (.aload_n 0, 1) := by decide +kernel
theorem dX8_end_10 : decode cX8_end 10 = .ok (.getfield 170, 3) := by decide +kernel
theorem dX8_end_13 : decode cX8_end 13 = .ok (.iconst 1, 1) := by decide +kernel
theorem dX8_end_14 : decode cX8_end 14 = .ok (.isub, 1) := by decide +kernel
theorem dX8_end_15 : decode cX8_end 15 = .ok (.invokestatic 67, 3) := by decide +kernel
theorem dX8_end_18 : decode cX8_end 18 = .ok (.ifCond .eq 17, 3) := by decide +kernel
theorem dX8_end_21 : decode cX8_end 21 = .ok (.iload_n 2, 1) := by decide +kernel
theorem dX8_end_22 : decode cX8_end 22 = .ok (.iconst 0, 1) := by decide +kernel
theorem dX8_end_23 : decode cX8_end 23 = .ok (.aload_n 0, 1) := by decide +kernel
theorem dX8_end_24 : decode cX8_end 24 = .ok (.getfield 161, 3) := by decide +kernel
theorem dX8_end_27 : decode cX8_end 27 = .ok (.iconst 1, 1) := by decide +kernel
theorem dX8_end_28 : decode cX8_end 28 = .ok (.isub, 1) := by decide +kernel
theorem dX8_end_29 : decode cX8_end 29 = .ok (.invokestatic 67, 3) := by decide +kernel
theorem dX8_end_32 : decode cX8_end 32 = .ok (.ifCond .ne 6, 3) := by decide +kernel
theorem dX8_end_35 : decode cX8_end 35 = .ok (.bipush (-101), 2) := by decide +kernel
theorem dX8_end_37 : decode cX8_end 37 = .ok (.ireturn, 1) := by decide +kernel
theorem dX8_end_38 : decode cX8_end 38 = .ok (.aload_n 0, 1) := by decide +kernel
theorem dX8_end_39 : decode cX8_end 39 = .ok (.getfield 48, 3) := by decide +kernel
theorem dX8_end_42 : decode cX8_end 42 = .ok (.iconst 5, 1) := by decide +kernel
theorem dX8_end_43 : decode cX8_end 43 = .ok (.iload_n 1, 1) := by decide +kernel
theorem dX8_end_44 : decode cX8_end 44 = .ok (.imul, 1) := by decide +kernel
theorem dX8_end_45 : decode cX8_end 45 = .ok (.iload_n 2, 1) := by decide +kernel
theorem dX8_end_46 : decode cX8_end 46 = .ok (.iadd, 1) := by decide +kernel
theorem dX8_end_47 : decode cX8_end 47 = .ok (.baload, 1) := by decide +kernel
theorem dX8_end_48 : decode cX8_end 48 = .ok (.ireturn, 1) := by decide +kernel
set_option maxRecDepth 20000 in
theorem ggX8_way_X8_in : GoodIn wsX8_way wsX8_in := goodIn_r _ [11] (by decide +kernel) (by decide +kernel)
set_option maxRecDepth 20000 in
theorem gX8_way_X8_in : GoodIn wsX8_way (va_wsS RX8 67 yX8_in wsX8_in) := goodIn_app (goodIn_of _ (by decide +kernel)) ggX8_way_X8_in
theorem dX8_way_0 : decode cX8_way 0 = .ok (.aload_n 0, 1) := by decide +kernel
theorem dX8_way_1 : decode cX8_way 1 = .ok (.getfield 63, 3) := by decide +kernel
theorem dX8_way_4 : decode cX8_way 4 = .ok (.ifCond .eq 22, 3) := by decide +kernel
theorem dX8_way_7 : decode cX8_way 7 = .ok (.iload_n 1, 1) := by decide +kernel
theorem dX8_way_8 : decode cX8_way 8 = .ok (.iconst 0, 1) := by decide +kernel
theorem dX8_way_9 : decode cX8_way 9 = .ok (.aload_n 0, 1) := by decide +kernel
theorem dX8_way_10 : decode cX8_way 10 = .ok (.getfield 170, 3) := by decide +kernel
theorem dX8_way_13 : decode cX8_way 13 = .ok (.iconst 1, 1) := by decide +kernel
theorem dX8_way_14 : decode cX8_way 14 = .ok (.isub, 1) := by decide +kernel
theorem dX8_way_15 : decode cX8_way 15 = .ok (.invokestatic 67, 3) := by decide +kernel
theorem dX8_way_18 : decode cX8_way 18 = .ok (.ifCond .eq 8, 3) := by decide +kernel
theorem dX8_way_21 : decode cX8_way 21 = .ok (.iload_n 2, 1) := by decide +kernel
theorem dX8_way_22 : decode cX8_way 22 = .ok (.iconst (-1), 1) := by decide +kernel
theorem dX8_way_23 : decode cX8_way 23 = .ok (.if_icmp .ge 6, 3) := by decide +kernel
theorem dX8_way_26 : decode cX8_way 26 = .ok (.bipush (-101), 2) := by decide +kernel
theorem dX8_way_28 : decode cX8_way 28 = .ok (.ireturn, 1) := by decide +kernel
theorem dX8_way_29 : decode cX8_way 29 = .ok (.iconst 0, 1) := by decide +kernel
theorem dX8_way_30 : decode cX8_way 30 = .ok (.istore 4, 2) := by decide +kernel
theorem dX8_way_32 : decode cX8_way 32 = .ok (.aload_n 0, 1) := by decide +kernel
theorem dX8_way_33 : decode cX8_way 33 = .ok (.getfield 45, 3) := by decide +kernel
theorem dX8_way_36 : decode cX8_way 36 = .ok (.iload_n 1, 1) := by decide +kernel
theorem dX8_way_37 : decode cX8_way 37 = .ok (.iaload, 1) := by decide +kernel
theorem dX8_way_38 : decode cX8_way 38 = .ok (.istore 5, 2) := by decide +kernel
theorem dX8_way_40 : decode cX8_way 40 = .ok (.aload_n 0, 1) := by decide +kernel
theorem dX8_way_41 : decode cX8_way 41 = .ok (.getfield 51, 3) := by decide +kernel
theorem dX8_way_44 : decode cX8_way 44 = .ok (.iload 5, 2) := by decide +kernel
theorem dX8_way_46 : decode cX8_way 46 = .ok (.iaload, 1) := by decide +kernel
theorem dX8_way_47 : decode cX8_way 47 = .ok (.iconst (-1), 1) := by decide +kernel
theorem dX8_way_48 : decode cX8_way 48 = .ok (.if_icmp .eq 18, 3) := by decide +kernel
theorem dX8_way_51 : decode cX8_way 51 = .ok (.iinc 4 1, 3) := by decide +kernel
theorem dX8_way_54 : decode cX8_way 54 = .ok (.aload_n 0, 1) := by decide +kernel
theorem dX8_way_55 : decode cX8_way 55 = .ok (.getfield 51, 3) := by decide +kernel
theorem dX8_way_58 : decode cX8_way 58 = .ok (.iload 5, 2) := by decide +kernel
theorem dX8_way_60 : decode cX8_way 60 = .ok (.iaload, 1) := by decide +kernel
theorem dX8_way_61 : decode cX8_way 61 = .ok (.istore 5, 2) := by decide +kernel
theorem dX8_way_63 : decode cX8_way 63 = .ok (.goto (-23), 3) := by decide +kernel
theorem dX8_way_66 : decode cX8_way 66 = .ok (.iload_n 2, 1) := by decide +kernel
theorem dX8_way_67 : decode cX8_way 67 = .ok (.iconst (-1), 1) := by decide +kernel
theorem dX8_way_68 : decode cX8_way 68 = .ok (.if_icmp .ne 6, 3) := by decide +kernel
theorem dX8_way_71 : decode cX8_way 71 = .ok (.iload 4, 2) := by decide +kernel
theorem dX8_way_73 : decode cX8_way 73 = .ok (.ireturn, 1) := by decide +kernel
theorem dX8_way_74 : decode cX8_way 74 = .ok (.iload_n 2, 1) := by decide +kernel
theorem dX8_way_75 : decode cX8_way 75 = .ok (.iload 4, 2) := by decide +kernel
theorem dX8_way_77 : decode cX8_way 77 = .ok (.if_icmp .lt 6, 3) := by decide +kernel
theorem dX8_way_80 : decode cX8_way 80 = .ok (.bipush (-101), 2) := by decide +kernel
theorem dX8_way_82 : decode cX8_way 82 = .ok (.ireturn, 1) := by decide +kernel
theorem dX8_way_83 : decode cX8_way 83 = .ok (.iload_n 3, 1) := by decide +kernel
theorem dX8_way_84 : decode cX8_way 84 = .ok (.iconst 0, 1) := by decide +kernel
theorem dX8_way_85 : decode cX8_way 85 = .ok (.iconst 2, 1) := by decide +kernel
theorem dX8_way_86 : decode cX8_way 86 = .ok (.invokestatic 67, 3) := by decide +kernel
theorem dX8_way_89 : decode cX8_way 89 = .ok (.ifCond .ne 6, 3) := by decide +kernel
theorem dX8_way_92 : decode cX8_way 92 = .ok (.bipush (-102), 2) := by decide +kernel
theorem dX8_way_94 : decode cX8_way 94 = .ok (.ireturn, 1) := by decide +kernel
theorem dX8_way_95 : decode cX8_way 95 = .ok (.aload_n 0, 1) := by decide +kernel
theorem dX8_way_96 : decode cX8_way 96 = .ok (.getfield 45, 3) := by decide +kernel
theorem dX8_way_99 : decode cX8_way 99 = .ok (.iload_n 1, 1) := by decide +kernel
theorem dX8_way_100 : decode cX8_way 100 = .ok (.iaload, 1) := by decide +kernel
theorem dX8_way_101 : decode cX8_way 101 = .ok (.istore 5, 2) := by decide +kernel
theorem dX8_way_103 : decode cX8_way 103 = .ok (.iload 4, 2) := by decide +kernel
theorem dX8_way_105 : decode cX8_way 105 = .ok (.iconst 1, 1) := by decide +kernel
theorem dX8_way_106 : decode cX8_way 106 = .ok (.isub, 1) := by decide +kernel
theorem dX8_way_107 : decode cX8_way 107 = .ok (.istore 6, 2) := by decide +kernel
theorem dX8_way_109 : decode cX8_way 109 = .ok (.iload 6, 2) := by decide +kernel
theorem dX8_way_111 : decode cX8_way 111 = .ok (.iload_n 2, 1) := by decide +kernel
theorem dX8_way_112 : decode cX8_way 112 = .ok (.if_icmp .le 18, 3) := by decide +kernel
theorem dX8_way_115 : decode cX8_way 115 = .ok (.aload_n 0, 1) := by decide +kernel
theorem dX8_way_116 : decode cX8_way 116 = .ok (.getfield 51, 3) := by decide +kernel
theorem dX8_way_119 : decode cX8_way 119 = .ok (.iload 5, 2) := by decide +kernel
theorem dX8_way_121 : decode cX8_way 121 = .ok (.iaload, 1) := by decide +kernel
theorem dX8_way_122 : decode cX8_way 122 = .ok (.istore 5, 2) := by decide +kernel
theorem dX8_way_124 : decode cX8_way 124 = .ok (.iinc 6 (-1), 3) := by decide +kernel
theorem dX8_way_127 : decode cX8_way 127 = .ok (.goto (-18), 3) := by decide +kernel
theorem dX8_way_130 : decode cX8_way 130 = .ok (.iload_n 3, 1) := by decide +kernel
theorem dX8_way_131 : decode cX8_way 131 = .ok (.ifCond .ne 13, 3) := by decide +kernel
theorem dX8_way_134 : decode cX8_way 134 = .ok (.aload_n 0, 1) := by decide +kernel
theorem dX8_way_135 : decode cX8_way 135 = .ok (.getfield 54, 3) := by decide +kernel
theorem dX8_way_138 : decode cX8_way 138 = .ok (.iload 5, 2) := by decide +kernel
theorem dX8_way_140 : decode cX8_way 140 = .ok (.iaload, 1) := by decide +kernel
theorem dX8_way_141 : decode cX8_way 141 = .ok (.goto 25, 3) := by decide +kernel
theorem dX8_way_144 : decode cX8_way 144 = .ok (.iload_n 3, 1) := by decide +kernel
theorem dX8_way_145 : decode cX8_way 145 = .ok (.iconst 1, 1) := by decide +kernel
theorem dX8_way_146 : decode cX8_way 146 = .ok (.if_icmp .ne 13, 3) := by decide +kernel
theorem dX8_way_149 : decode cX8_way 149 = .ok (.aload_n 0, 1) := by decide +kernel
theorem dX8_way_150 : decode cX8_way 150 = .ok (.getfield 57, 3) := by decide +kernel
theorem dX8_way_153 : decode cX8_way 153 = .ok (.iload 5, 2) := by decide +kernel
theorem dX8_way_155 : decode cX8_way 155 = .ok (.iaload, 1) := by decide +kernel
theorem dX8_way_156 : decode cX8_way 156 = .ok (.goto 10, 3) := by decide +kernel
theorem dX8_way_159 : decode cX8_way 159 = .ok (.aload_n 0, 1) := by decide +kernel
theorem dX8_way_160 : decode cX8_way 160 = .ok (.getfield 60, 3) := by decide +kernel
theorem dX8_way_163 : decode cX8_way 163 = .ok (.iload 5, 2) := by decide +kernel
theorem dX8_way_165 : decode cX8_way 165 = .ok (.iaload, 1) := by decide +kernel
theorem dX8_way_166 : decode cX8_way 166 = .ok (.ireturn, 1) := by decide +kernel
set_option maxRecDepth 20000 in
theorem ggX8_shrink_X8_in : GoodIn wsX8_shrink wsX8_in := goodIn_r _ [6] (by decide +kernel) (by decide +kernel)
set_option maxRecDepth 20000 in
theorem gX8_shrink_X8_in : GoodIn wsX8_shrink (va_wsS RX8 67 yX8_in wsX8_in) := goodIn_app (goodIn_of _ (by decide +kernel)) ggX8_shrink_X8_in
set_option maxRecDepth 20000 in
theorem ggX8_shrink_X8_search : GoodIn wsX8_shrink wsX8_search := goodIn_r _ [10, 11, 12, 13, 14, 15, 16, 17, 18, 19, 20, 5, 21, 22, 23, 24, 25, 26, 27, 28, 29, 30, 31, 32, 33, 34, 2, 35, 36, 37, 38, 39, 40, 41, 42, 43, 44, 45, 1, 46, 47, 48, 49, 50, 51, 52, 53, 54, 55, 56, 57, 58, 59, 60, 61, 62, 63, 64, 65, 66, 67, 68, 69, 70, 71, 72, 73, 74, 75, 76, 77, 78, 79, 96, 97, 98, 99, 100, 101, 102, 103, 104, 105, 106, 107, 108, 109, 110, 111, 112, 113, 114, 115, 116, 117, 118, 119, 120, 121, 122, 123, 124] (by decide +kernel) (by decide +kernel)
set_option maxRecDepth 20000 in
theorem gX8_shrink_X8_search : GoodIn wsX8_shrink (wsV RX8 155 RX8 yX8_search wsX8_search) := goodIn_app (goodIn_of _ (by decide +kernel)) ggX8_shrink_X8_search
set_option maxRecDepth 20000 in
theorem ggX8_shrink_X8_countEnds : GoodIn wsX8_shrink wsX8_countEnds := goodIn_r _ [83, 11, 84, 85, 86, 5, 87, 88, 89, 90, 91, 34, 22, 2, 54, 55, 56, 92, 93, 94, 95, 96, 97, 98, 99, 100, 101, 102, 103, 104, 105, 106, 107, 108, 109, 110, 111, 112, 113, 114, 115, 116, 117, 118, 119, 120, 121, 122, 123, 124] (by decide +kernel) (by decide +kernel)
set_option maxRecDepth 20000 in
theorem gX8_shrink_X8_countEnds : GoodIn wsX8_shrink (wsV RX8 173 RX8 yX8_countEnds wsX8_countEnds) := goodIn_app (goodIn_of _ (by decide +kernel)) ggX8_shrink_X8_countEnds
theorem dX8_shrink_0 : decode cX8_shrink 0 = .ok (.iload_n 1, 1) := by decide +kernel
theorem dX8_shrink_1 : decode cX8_shrink 1 = .ok (.iconst 1, 1) := by decide +kernel
theorem dX8_shrink_2 : decode cX8_shrink 2 = .ok (.sipush 600, 3) := by decide +kernel
theorem dX8_shrink_5 : decode cX8_shrink 5 = .ok (.invokestatic 67, 3) := by decide +kernel
theorem dX8_shrink_8 : decode cX8_shrink 8 = .ok (.ifCond .ne 6, 3) := by decide +kernel
theorem dX8_shrink_11 : decode cX8_shrink 11 = .ok (.bipush (-102), 2) := by decide +kernel
theorem dX8_shrink_13 : decode cX8_shrink 13 = .ok (.ireturn, 1) := by decide +kernel
theorem dX8_shrink_14 : decode cX8_shrink 14 = .ok (.aload_n 0, 1) := by decide +kernel
theorem dX8_shrink_15 : decode cX8_shrink 15 = .ok (.iconst 0, 1) := by decide +kernel
theorem dX8_shrink_16 : decode cX8_shrink 16 = .ok (.putfield 131, 3) := by decide +kernel
theorem dX8_shrink_19 : decode cX8_shrink 19 = .ok (.aload_n 0, 1) := by decide +kernel
theorem dX8_shrink_20 : decode cX8_shrink 20 = .ok (.iload_n 1, 1) := by decide +kernel
theorem dX8_shrink_21 : decode cX8_shrink 21 = .ok (.iconst 0, 1) := by decide +kernel
theorem dX8_shrink_22 : decode cX8_shrink 22 = .ok (.invokevirtual 155, 3) := by decide +kernel
theorem dX8_shrink_25 : decode cX8_shrink 25 = .ok (.pop, 1) := by decide +kernel
theorem dX8_shrink_26 : decode cX8_shrink 26 = .ok (.aload_n 0, 1) := by decide +kernel
theorem dX8_shrink_27 : decode cX8_shrink 27 = .ok (.invokevirtual 173, 3) := by decide +kernel
theorem dX8_shrink_30 : decode cX8_shrink 30 = .ok (.iconst 2, 1) := by decide +kernel
theorem dX8_shrink_31 : decode cX8_shrink 31 = .ok (.if_icmp .ge 5, 3) := by decide +kernel
theorem dX8_shrink_34 : decode cX8_shrink 34 = .ok (.iconst (-1), 1) := by decide +kernel
theorem dX8_shrink_35 : decode cX8_shrink 35 = .ok (.ireturn, 1) := by decide +kernel
theorem dX8_shrink_36 : decode cX8_shrink 36 = .ok (.iconst 0, 1) := by decide +kernel
theorem dX8_shrink_37 : decode cX8_shrink 37 = .ok (.istore_n 2, 1) := by decide +kernel
theorem dX8_shrink_38 : decode cX8_shrink 38 = .ok (.iconst 0, 1) := by decide +kernel
theorem dX8_shrink_39 : decode cX8_shrink 39 = .ok (.istore_n 3, 1) := by decide +kernel
theorem dX8_shrink_40 : decode cX8_shrink 40 = .ok (.iload_n 3, 1) := by decide +kernel
theorem dX8_shrink_41 : decode cX8_shrink 41 = .ok (.aload_n 0, 1) := by decide +kernel
theorem dX8_shrink_42 : decode cX8_shrink 42 = .ok (.getfield 75, 3) := by decide +kernel
theorem dX8_shrink_45 : decode cX8_shrink 45 = .ok (.if_icmp .ge 38, 3) := by decide +kernel
theorem dX8_shrink_48 : decode cX8_shrink 48 = .ok (.aload_n 0, 1) := by decide +kernel
theorem dX8_shrink_49 : decode cX8_shrink 49 = .ok (.iload_n 1, 1) := by decide +kernel
theorem dX8_shrink_50 : decode cX8_shrink 50 = .ok (.iload_n 2, 1) := by decide +kernel
theorem dX8_shrink_51 : decode cX8_shrink 51 = .ok (.iconst 1, 1) := by decide +kernel
theorem dX8_shrink_52 : decode cX8_shrink 52 = .ok (.iload_n 3, 1) := by decide +kernel
theorem dX8_shrink_53 : decode cX8_shrink 53 = .ok (.ishl, 1) := by decide +kernel
theorem dX8_shrink_54 : decode cX8_shrink 54 = .ok (.ior, 1) := by decide +kernel
theorem dX8_shrink_55 : decode cX8_shrink 55 = .ok (.invokevirtual 155, 3) := by decide +kernel
theorem dX8_shrink_58 : decode cX8_shrink 58 = .ok (.pop, 1) := by decide +kernel
theorem dX8_shrink_59 : decode cX8_shrink 59 = .ok (.aload_n 0, 1) := by decide +kernel
theorem dX8_shrink_60 : decode cX8_shrink 60 = .ok (.invokevirtual 173, 3) := by decide +kernel
theorem dX8_shrink_63 : decode cX8_shrink 63 = .ok (.iconst 2, 1) := by decide +kernel
theorem dX8_shrink_64 : decode cX8_shrink 64 = .ok (.if_icmp .lt 11, 3) := by decide +kernel
theorem dX8_shrink_67 : decode cX8_shrink 67 = .ok (.iload_n 2, 1) := by decide +kernel
theorem dX8_shrink_68 : decode cX8_shrink 68 = .ok (.iconst 1, 1) := by decide +kernel
theorem dX8_shrink_69 : decode cX8_shrink 69 = .ok (.iload_n 3, 1) := by decide +kernel
theorem dX8_shrink_70 : decode cX8_shrink 70 = .ok (.ishl, 1) := by decide +kernel
theorem dX8_shrink_71 : decode cX8_shrink 71 = .ok (.ior, 1) := by decide +kernel
theorem dX8_shrink_72 : decode cX8_shrink 72 = .ok (.goto 4, 3) := by decide +kernel
theorem dX8_shrink_75 : decode cX8_shrink 75 = .ok (.iload_n 2, 1) := by decide +kernel
theorem dX8_shrink_76 : decode cX8_shrink 76 = .ok (.istore_n 2, 1) := by decide +kernel
theorem dX8_shrink_77 : decode cX8_shrink 77 = .ok (.iinc 3 1, 3) := by decide +kernel
theorem dX8_shrink_80 : decode cX8_shrink 80 = .ok (.goto (-40), 3) := by decide +kernel
theorem dX8_shrink_83 : decode cX8_shrink 83 = .ok (.iconst 1, 1) := by decide +kernel
theorem dX8_shrink_84 : decode cX8_shrink 84 = .ok (.aload_n 0, 1) := by decide +kernel
theorem dX8_shrink_85 : decode cX8_shrink 85 = .ok (.getfield 75, 3) := by decide +kernel
theorem dX8_shrink_88 : decode cX8_shrink 88 = .ok (.ishl, 1) := by decide +kernel
theorem dX8_shrink_89 : decode cX8_shrink 89 = .ok (.iconst 1, 1) := by decide +kernel
theorem dX8_shrink_90 : decode cX8_shrink 90 = .ok (.isub, 1) := by decide +kernel
theorem dX8_shrink_91 : decode cX8_shrink 91 = .ok (.iload_n 2, 1) := by decide +kernel
theorem dX8_shrink_92 : decode cX8_shrink 92 = .ok (.iconst (-1), 1) := by decide +kernel
theorem dX8_shrink_93 : decode cX8_shrink 93 = .ok (.ixor, 1) := by decide +kernel
theorem dX8_shrink_94 : decode cX8_shrink 94 = .ok (.iand, 1) := by decide +kernel
theorem dX8_shrink_95 : decode cX8_shrink 95 = .ok (.ireturn, 1) := by decide +kernel
theorem dJ13_bitCount_95d88_0 : decode cJ13_bitCount_95d88 0 = .ok (.lload_n 0, 1) := by decide +kernel
theorem dJ13_bitCount_95d88_1 : decode cJ13_bitCount_95d88 1 = .ok (.lload_n 0, 1) := by decide +kernel
theorem dJ13_bitCount_95d88_2 : decode cJ13_bitCount_95d88 2 = .ok (.iconst 1, 1) := by decide +kernel
theorem dJ13_bitCount_95d88_3 : decode cJ13_bitCount_95d88 3 = .ok (.lushr, 1) := by decide +kernel
theorem dJ13_bitCount_95d88_4 : decode cJ13_bitCount_95d88 4 = .ok (.ldc2_w 314, 3) := by decide +kernel
theorem dJ13_bitCount_95d88_7 : decode cJ13_bitCount_95d88 7 = .ok (.land, 1) := by decide +kernel
theorem dJ13_bitCount_95d88_8 : decode cJ13_bitCount_95d88 8 = .ok (.lsub, 1) := by decide +kernel
theorem dJ13_bitCount_95d88_9 : decode cJ13_bitCount_95d88 9 = .ok (.lstore_n 0, 1) := by decide +kernel
theorem dJ13_bitCount_95d88_10 : decode cJ13_bitCount_95d88 10 = .ok (.lload_n 0, 1) := by decide +kernel
theorem dJ13_bitCount_95d88_11 : decode cJ13_bitCount_95d88 11 = .ok (.ldc2_w 316, 3) := by decide +kernel
theorem dJ13_bitCount_95d88_14 : decode cJ13_bitCount_95d88 14 = .ok (.land, 1) := by decide +kernel
theorem dJ13_bitCount_95d88_15 : decode cJ13_bitCount_95d88 15 = .ok (.lload_n 0, 1) := by decide +kernel
theorem dJ13_bitCount_95d88_16 : decode cJ13_bitCount_95d88 16 = .ok (.iconst 2, 1) := by decide +kernel
theorem dJ13_bitCount_95d88_17 : decode cJ13_bitCount_95d88 17 = .ok (.lushr, 1) := by decide +kernel
theorem dJ13_bitCount_95d88_18 : decode cJ13_bitCount_95d88 18 = .ok (.ldc2_w 316, 3) := by decide +kernel
theorem dJ13_bitCount_95d88_21 : decode cJ13_bitCount_95d88 21 = .ok (.land, 1) := by decide +kernel
theorem dJ13_bitCount_95d88_22 : decode cJ13_bitCount_95d88 22 = .ok (.ladd, 1) := by decide +kernel
theorem dJ13_bitCount_95d88_23 : decode cJ13_bitCount_95d88 23 = .ok (.lstore_n 0, 1) := by decide +kernel
theorem dJ13_bitCount_95d88_24 : decode cJ13_bitCount_95d88 24 = .ok (.lload_n 0, 1) := by decide +kernel
theorem dJ13_bitCount_95d88_25 : decode cJ13_bitCount_95d88 25 = .ok (.lload_n 0, 1) := by decide +kernel
theorem dJ13_bitCount_95d88_26 : decode cJ13_bitCount_95d88 26 = .ok (.iconst 4, 1) := by decide +kernel
theorem dJ13_bitCount_95d88_27 : decode cJ13_bitCount_95d88 27 = .ok (.lushr, 1) := by decide +kernel
theorem dJ13_bitCount_95d88_28 : decode cJ13_bitCount_95d88 28 = .ok (.ladd, 1) := by decide +kernel
theorem dJ13_bitCount_95d88_29 : decode cJ13_bitCount_95d88 29 = .ok (.ldc2_w 318, 3) := by decide +kernel
theorem dJ13_bitCount_95d88_32 : decode cJ13_bitCount_95d88 32 = .ok (.land, 1) := by decide +kernel
theorem dJ13_bitCount_95d88_33 : decode cJ13_bitCount_95d88 33 = .ok (.lstore_n 0, 1) := by decide +kernel
theorem dJ13_bitCount_95d88_34 : decode cJ13_bitCount_95d88 34 = .ok (.lload_n 0, 1) := by decide +kernel
theorem dJ13_bitCount_95d88_35 : decode cJ13_bitCount_95d88 35 = .ok (.lload_n 0, 1) := by decide +kernel
theorem dJ13_bitCount_95d88_36 : decode cJ13_bitCount_95d88 36 = .ok (.bipush 8, 2) := by decide +kernel
theorem dJ13_bitCount_95d88_38 : decode cJ13_bitCount_95d88 38 = .ok (.lushr, 1) := by decide +kernel
theorem dJ13_bitCount_95d88_39 : decode cJ13_bitCount_95d88 39 = .ok (.ladd, 1) := by decide +kernel
theorem dJ13_bitCount_95d88_40 : decode cJ13_bitCount_95d88 40 = .ok (.lstore_n 0, 1) := by decide +kernel
theorem dJ13_bitCount_95d88_41 : decode cJ13_bitCount_95d88 41 = .ok (.lload_n 0, 1) := by decide +kernel
theorem dJ13_bitCount_95d88_42 : decode cJ13_bitCount_95d88 42 = .ok (.lload_n 0, 1) := by decide +kernel
theorem dJ13_bitCount_95d88_43 : decode cJ13_bitCount_95d88 43 = .ok (.bipush 16, 2) := by decide +kernel
theorem dJ13_bitCount_95d88_45 : decode cJ13_bitCount_95d88 45 = .ok (.lushr, 1) := by decide +kernel
theorem dJ13_bitCount_95d88_46 : decode cJ13_bitCount_95d88 46 = .ok (.ladd, 1) := by decide +kernel
theorem dJ13_bitCount_95d88_47 : decode cJ13_bitCount_95d88 47 = .ok (.lstore_n 0, 1) := by decide +kernel
theorem dJ13_bitCount_95d88_48 : decode cJ13_bitCount_95d88 48 = .ok (.lload_n 0, 1) := by decide +kernel
theorem dJ13_bitCount_95d88_49 : decode cJ13_bitCount_95d88 49 = .ok (.lload_n 0, 1) := by decide +kernel
theorem dJ13_bitCount_95d88_50 : decode cJ13_bitCount_95d88 50 = .ok (.bipush 32, 2) := by decide +kernel
theorem dJ13_bitCount_95d88_52 : decode cJ13_bitCount_95d88 52 = .ok (.lushr, 1) := by decide +kernel
theorem dJ13_bitCount_95d88_53 : decode cJ13_bitCount_95d88 53 = .ok (.ladd, 1) := by decide +kernel
theorem dJ13_bitCount_95d88_54 : decode cJ13_bitCount_95d88 54 = .ok (.lstore_n 0, 1) := by decide +kernel
theorem dJ13_bitCount_95d88_55 : decode cJ13_bitCount_95d88 55 = .ok (.lload_n 0, 1) := by decide +kernel
theorem dJ13_bitCount_95d88_56 : decode cJ13_bitCount_95d88 56 = .ok (.l2i, 1) := by decide +kernel
theorem dJ13_bitCount_95d88_57 : decode cJ13_bitCount_95d88 57 = .ok (.bipush 127, 2) := by decide +kernel
theorem dJ13_bitCount_95d88_59 : decode cJ13_bitCount_95d88 59 = .ok (.iand, 1) := by decide +kernel
theorem dJ13_bitCount_95d88_60 : decode cJ13_bitCount_95d88 60 = .ok (.ireturn, 1) := by decide +kernel
theorem dJ9_max_7cf53_0 : decode cJ9_max_7cf53 0 = .ok (.iload_n 0, 1) := by decide +kernel
theorem dJ9_max_7cf53_1 : decode cJ9_max_7cf53 1 = .ok (.iload_n 1, 1) := by decide +kernel
theorem dJ9_max_7cf53_2 : decode cJ9_max_7cf53 2 = .ok (.if_icmp .lt 7, 3) := by decide +kernel
theorem dJ9_max_7cf53_5 : decode cJ9_max_7cf53 5 = .ok (.iload_n 0, 1) := by decide +kernel
theorem dJ9_max_7cf53_6 : decode cJ9_max_7cf53 6 = .ok (.goto 4, 3) := by decide +kernel
theorem dJ9_max_7cf53_9 : decode cJ9_max_7cf53 9 = .ok (.iload_n 1, 1) := by decide +kernel
theorem dJ9_max_7cf53_10 : decode cJ9_max_7cf53 10 = .ok (.ireturn, 1) := by decide +kernel
theorem dJ9_min_7cf53_0 : decode cJ9_min_7cf53 0 = .ok (.iload_n 0, 1) := by decide +kernel
theorem dJ9_min_7cf53_1 : decode cJ9_min_7cf53 1 = .ok (.iload_n 1, 1) := by decide +kernel
theorem dJ9_min_7cf53_2 : decode cJ9_min_7cf53 2 = .ok (.if_icmp .gt 7, 3) := by decide +kernel
theorem dJ9_min_7cf53_5 : decode cJ9_min_7cf53 5 = .ok (.iload_n 0, 1) := by decide +kernel
theorem dJ9_min_7cf53_6 : decode cJ9_min_7cf53 6 = .ok (.goto 4, 3) := by decide +kernel
theorem dJ9_min_7cf53_9 : decode cJ9_min_7cf53 9 = .ok (.iload_n 1, 1) := by decide +kernel
theorem dJ9_min_7cf53_10 : decode cJ9_min_7cf53 10 = .ok (.ireturn, 1) := by decide +kernel
theorem dJ7_fill_d0a16_0 : decode cJ7_fill_d0a16 0 = .ok (.iconst 0, 1) := by decide +kernel
theorem dJ7_fill_d0a16_1 : decode cJ7_fill_d0a16 1 = .ok (.istore_n 3, 1) := by decide +kernel
theorem dJ7_fill_d0a16_2 : decode cJ7_fill_d0a16 2 = .ok (.aload_n 0, 1) := by decide +kernel
theorem dJ7_fill_d0a16_3 : decode cJ7_fill_d0a16 3 = .ok (.arraylength, 1) := by decide +kernel
theorem dJ7_fill_d0a16_4 : decode cJ7_fill_d0a16 4 = .ok (.istore 4, 2) := by decide +kernel
theorem dJ7_fill_d0a16_6 : decode cJ7_fill_d0a16 6 = .ok (.iload_n 3, 1) := by decide +kernel
theorem dJ7_fill_d0a16_7 : decode cJ7_fill_d0a16 7 = .ok (.iload 4, 2) := by decide +kernel
theorem dJ7_fill_d0a16_9 : decode cJ7_fill_d0a16 9 = .ok (.if_icmp .ge 13, 3) := by decide +kernel
theorem dJ7_fill_d0a16_12 : decode cJ7_fill_d0a16 12 = .ok (.aload_n 0, 1) := by decide +kernel
theorem dJ7_fill_d0a16_13 : decode cJ7_fill_d0a16 13 = .ok (.iload_n 3, 1) := by decide +kernel
theorem dJ7_fill_d0a16_14 : decode cJ7_fill_d0a16 14 = .ok (.lload_n 1, 1) := by decide +kernel
theorem dJ7_fill_d0a16_15 : decode cJ7_fill_d0a16 15 = .ok (.lastore, 1) := by decide +kernel
theorem dJ7_fill_d0a16_16 : decode cJ7_fill_d0a16 16 = .ok (.iinc 3 1, 3) := by decide +kernel
theorem dJ7_fill_d0a16_19 : decode cJ7_fill_d0a16 19 = .ok (.goto (-13), 3) := by decide +kernel
theorem dJ7_fill_d0a16_22 : decode cJ7_fill_d0a16 22 = .ok (.return_, 1) := by decide +kernel
theorem dJ7_fill_53178_0 : decode cJ7_fill_53178 0 = .ok (.iconst 0, 1) := by decide +kernel
theorem dJ7_fill_53178_1 : decode cJ7_fill_53178 1 = .ok (.istore_n 2, 1) := by decide +kernel
theorem dJ7_fill_53178_2 : decode cJ7_fill_53178 2 = .ok (.aload_n 0, 1) := by decide +kernel
theorem dJ7_fill_53178_3 : decode cJ7_fill_53178 3 = .ok (.arraylength, 1) := by decide +kernel
theorem dJ7_fill_53178_4 : decode cJ7_fill_53178 4 = .ok (.istore_n 3, 1) := by decide +kernel
theorem dJ7_fill_53178_5 : decode cJ7_fill_53178 5 = .ok (.iload_n 2, 1) := by decide +kernel
theorem dJ7_fill_53178_6 : decode cJ7_fill_53178 6 = .ok (.iload_n 3, 1) := by decide +kernel
theorem dJ7_fill_53178_7 : decode cJ7_fill_53178 7 = .ok (.if_icmp .ge 13, 3) := by decide +kernel
theorem dJ7_fill_53178_10 : decode cJ7_fill_53178 10 = .ok (.aload_n 0, 1) := by decide +kernel
theorem dJ7_fill_53178_11 : decode cJ7_fill_53178 11 = .ok (.iload_n 2, 1) := by decide +kernel
theorem dJ7_fill_53178_12 : decode cJ7_fill_53178 12 = .ok (.iload_n 1, 1) := by decide +kernel
theorem dJ7_fill_53178_13 : decode cJ7_fill_53178 13 = .ok (.iastore, 1) := by decide +kernel
theorem dJ7_fill_53178_14 : decode cJ7_fill_53178 14 = .ok (.iinc 2 1, 3) := by decide +kernel
theorem dJ7_fill_53178_17 : decode cJ7_fill_53178 17 = .ok (.goto (-12), 3) := by decide +kernel
theorem dJ7_fill_53178_20 : decode cJ7_fill_53178 20 = .ok (.return_, 1) := by decide +kernel
set_option maxRecDepth 20000 in
theorem ggL_law_X7_init : GoodIn wsL_law wsX7_init := goodIn_r _ [8, 9, 10, 11, 12, 13, 14, 15, 16, 17, 18, 19, 20, 21, 22, 23, 24, 25, 26, 27, 28, 29, 30, 31, 32, 33, 34, 35, 36, 37, 38, 39, 40, 41, 42, 43, 44, 45, 46, 47, 48, 49, 50, 51, 52, 53, 54, 55, 56, 57, 58, 59, 60, 61, 62, 63, 64, 65, 66, 67, 68, 69, 70, 71, 72, 73, 74, 75, 76, 77, 78, 625, 626, 627, 628, 629, 630, 631, 632, 633, 591, 592, 593, 594, 595, 634, 635, 636, 637, 638, 639, 640, 641, 642, 643, 644, 645, 646, 647, 648, 649, 650, 651, 652, 653, 654, 655, 656, 657, 658, 659, 660, 661, 662] (by decide +kernel) (by decide +kernel)
set_option maxRecDepth 20000 in
theorem gL_law_X7_init : GoodIn wsL_law (wsX7_init) := ggL_law_X7_init
set_option maxRecDepth 20000 in
theorem ggL_law_X8_init : GoodIn wsL_law wsX8_init := goodIn_r _ [81, 82, 10, 11, 32, 83, 84, 85, 86, 87, 88, 89, 90, 91, 92, 93, 94, 95, 96, 97, 98, 99, 100, 101, 102, 596, 597, 598, 599, 600, 601, 602, 603, 604, 605, 606, 607, 608, 609, 610, 611, 612, 613, 614, 615, 616, 617, 618, 619, 620, 621, 622, 623, 624] (by decide +kernel) (by decide +kernel)
set_option maxRecDepth 20000 in
theorem gL_law_X8_init : GoodIn wsL_law (wsX8_init) := ggL_law_X8_init
set_option maxRecDepth 20000 in
theorem ggL_law_X7_vertex : GoodIn wsL_law wsX7_vertex := goodIn_r _ [106, 15, 107, 108, 2, 109, 110, 111, 112, 14, 113, 114, 33, 591, 592, 593, 594, 595, 625, 626, 627, 628, 629, 630, 631, 632, 633] (by decide +kernel) (by decide +kernel)
set_option maxRecDepth 20000 in
theorem gL_law_X7_vertex : GoodIn wsL_law (wsV RL 13 RX7 yX7_vertex wsX7_vertex) := goodIn_app (goodIn_of _ (by decide +kernel)) ggL_law_X7_vertex
set_option maxRecDepth 20000 in
theorem ggL_law_X8_vertex : GoodIn wsL_law wsX8_vertex := goodIn_r _ [118, 119, 83, 120, 121, 5, 122, 596, 597, 598, 599, 600, 601, 602, 603, 604, 605, 606, 607, 608, 609, 610, 611, 612, 613, 614, 615, 616, 617, 618, 619, 620, 621, 622, 623, 624] (by decide +kernel) (by decide +kernel)
set_option maxRecDepth 20000 in
theorem gL_law_X8_vertex : GoodIn wsL_law (wsV RL 17 RX8 yX8_vertex wsX8_vertex) := goodIn_app (goodIn_of _ (by decide +kernel)) ggL_law_X8_vertex
set_option maxRecDepth 20000 in
theorem ggL_law_X7_arc : GoodIn wsL_law wsX7_arc := goodIn_r _ [126, 15, 127, 128, 129, 14, 130, 114, 107, 108, 2, 109, 131, 132, 133, 134, 135, 34, 35, 36, 591, 592, 593, 594, 595, 625, 626, 627, 628, 629, 630, 631, 632, 633] (by decide +kernel) (by decide +kernel)
set_option maxRecDepth 20000 in
theorem gL_law_X7_arc : GoodIn wsL_law (wsV RL 18 RX7 yX7_arc wsX7_arc) := goodIn_app (goodIn_of _ (by decide +kernel)) ggL_law_X7_arc
set_option maxRecDepth 20000 in
theorem ggL_law_X8_arc : GoodIn wsL_law wsX8_arc := goodIn_r _ [139, 119, 140, 84, 85, 86, 120, 121, 5, 122, 596, 597, 598, 599, 600, 601, 602, 603, 604, 605, 606, 607, 608, 609, 610, 611, 612, 613, 614, 615, 616, 617, 618, 619, 620, 621, 622, 623, 624] (by decide +kernel) (by decide +kernel)
set_option maxRecDepth 20000 in
theorem gL_law_X8_arc : GoodIn wsL_law (wsV RL 22 RX8 yX8_arc wsX8_arc) := goodIn_app (goodIn_of _ (by decide +kernel)) ggL_law_X8_arc
set_option maxRecDepth 20000 in
theorem ggL_law_X7_first : GoodIn wsL_law wsX7_first := goodIn_r _ [144, 15, 127, 128, 129, 14, 130, 114, 107, 108, 2, 109, 145, 146, 147, 148, 149, 37, 38, 591, 592, 593, 594, 595, 625, 626, 627, 628, 629, 630, 631, 632, 633] (by decide +kernel) (by decide +kernel)
set_option maxRecDepth 20000 in
theorem gL_law_X7_first : GoodIn wsL_law (wsV RL 23 RX7 yX7_first wsX7_first) := goodIn_app (goodIn_of _ (by decide +kernel)) ggL_law_X7_first
set_option maxRecDepth 20000 in
theorem ggL_law_X8_first : GoodIn wsL_law wsX8_first := goodIn_r _ [153, 119, 154, 87, 88, 120, 121, 5, 122, 596, 597, 598, 599, 600, 601, 602, 603, 604, 605, 606, 607, 608, 609, 610, 611, 612, 613, 614, 615, 616, 617, 618, 619, 620, 621, 622, 623, 624] (by decide +kernel) (by decide +kernel)
set_option maxRecDepth 20000 in
theorem gL_law_X8_first : GoodIn wsL_law (wsV RL 27 RX8 yX8_first wsX8_first) := goodIn_app (goodIn_of _ (by decide +kernel)) ggL_law_X8_first
set_option maxRecDepth 20000 in
theorem ggL_law_X7_set : GoodIn wsL_law wsX7_set := goodIn_r _ [158, 159, 160, 19, 161, 162, 163, 2, 164, 591, 592, 593, 594, 595, 634, 635] (by decide +kernel) (by decide +kernel)
set_option maxRecDepth 20000 in
theorem gL_law_X7_set : GoodIn wsL_law (wsV RL 28 RX7 yX7_set wsX7_set) := goodIn_app (goodIn_of _ (by decide +kernel)) ggL_law_X7_set
set_option maxRecDepth 20000 in
theorem ggL_law_X8_set : GoodIn wsL_law wsX8_set := goodIn_r _ [168, 89, 120, 121, 5, 122, 169, 170, 171, 596, 597, 598, 599, 600, 601, 602, 603, 604, 605, 606, 607, 608, 609, 610, 611, 612, 613, 614, 615, 616, 617, 618, 619, 620, 621, 622, 623, 624] (by decide +kernel) (by decide +kernel)
set_option maxRecDepth 20000 in
theorem gL_law_X8_set : GoodIn wsL_law (wsV RL 31 RX8 yX8_set wsX8_set) := goodIn_app (goodIn_of _ (by decide +kernel)) ggL_law_X8_set
set_option maxRecDepth 20000 in
theorem ggL_law_X7_table : GoodIn wsL_law wsX7_table := goodIn_r _ [175, 19, 107, 108, 2, 109, 176, 177, 178, 18, 179, 43, 180, 181, 182, 591, 592, 593, 594, 595, 634, 635] (by decide +kernel) (by decide +kernel)
set_option maxRecDepth 20000 in
theorem gL_law_X7_table : GoodIn wsL_law (wsV RL 32 RX7 yX7_table wsX7_table) := goodIn_app (goodIn_of _ (by decide +kernel)) ggL_law_X7_table
set_option maxRecDepth 20000 in
theorem ggL_law_X8_table : GoodIn wsL_law wsX8_table := goodIn_r _ [186, 90, 120, 121, 5, 122, 596, 597, 598, 599, 600, 601, 602, 603, 604, 605, 606, 607, 608, 609, 610, 611, 612, 613, 614, 615, 616, 617, 618, 619, 620, 621, 622, 623, 624] (by decide +kernel) (by decide +kernel)
set_option maxRecDepth 20000 in
theorem gL_law_X8_table : GoodIn wsL_law (wsV RL 35 RX8 yX8_table wsX8_table) := goodIn_app (goodIn_of _ (by decide +kernel)) ggL_law_X8_table
set_option maxRecDepth 20000 in
theorem ggL_law_X7_value : GoodIn wsL_law wsX7_value := goodIn_r _ [190, 15, 191, 127, 128, 129, 14, 130, 114, 107, 108, 2, 109, 591, 592, 593, 594, 595, 625, 626, 627, 628, 629, 630, 631, 632, 633] (by decide +kernel) (by decide +kernel)
set_option maxRecDepth 20000 in
theorem gL_law_X7_value : GoodIn wsL_law (wsV RL 36 RX7 yX7_value wsX7_value) := goodIn_app (goodIn_of _ (by decide +kernel)) ggL_law_X7_value
set_option maxRecDepth 20000 in
theorem ggL_law_X8_value : GoodIn wsL_law wsX8_value := goodIn_r _ [195, 119, 83, 120, 121, 5, 122, 596, 597, 598, 599, 600, 601, 602, 603, 604, 605, 606, 607, 608, 609, 610, 611, 612, 613, 614, 615, 616, 617, 618, 619, 620, 621, 622, 623, 624] (by decide +kernel) (by decide +kernel)
set_option maxRecDepth 20000 in
theorem gL_law_X8_value : GoodIn wsL_law (wsV RL 39 RX8 yX8_value wsX8_value) := goodIn_app (goodIn_of _ (by decide +kernel)) ggL_law_X8_value
set_option maxRecDepth 20000 in
theorem ggL_law_X7_fold : GoodIn wsL_law wsX7_fold := goodIn_r _ [199, 19, 107, 108, 2, 109, 200, 201, 202, 18, 203, 42, 204, 205, 206, 207, 208, 209, 210, 43, 180, 181, 182, 591, 592, 593, 594, 595, 634, 635] (by decide +kernel) (by decide +kernel)
set_option maxRecDepth 20000 in
theorem gL_law_X7_fold : GoodIn wsL_law (wsV RL 40 RX7 yX7_fold wsX7_fold) := goodIn_app (goodIn_of _ (by decide +kernel)) ggL_law_X7_fold
set_option maxRecDepth 20000 in
theorem ggL_law_X8_fold : GoodIn wsL_law wsX8_fold := goodIn_r _ [214, 120, 121, 5, 122, 215, 216, 217, 218, 89, 90, 596, 597, 598, 599, 600, 601, 602, 603, 604, 605, 606, 607, 608, 609, 610, 611, 612, 613, 614, 615, 616, 617, 618, 619, 620, 621, 622, 623, 624] (by decide +kernel) (by decide +kernel)
set_option maxRecDepth 20000 in
theorem gL_law_X8_fold : GoodIn wsL_law (wsV RL 43 RX8 yX8_fold wsX8_fold) := goodIn_app (goodIn_of _ (by decide +kernel)) ggL_law_X8_fold
set_option maxRecDepth 20000 in
theorem ggL_law_X7_out : GoodIn wsL_law wsX7_out := goodIn_r _ [222, 19, 107, 108, 2, 109, 223, 224, 225, 18, 226, 42, 204, 205, 206, 207, 208, 209, 210, 591, 592, 593, 594, 595, 634, 635] (by decide +kernel) (by decide +kernel)
set_option maxRecDepth 20000 in
theorem gL_law_X7_out : GoodIn wsL_law (wsV RL 44 RX7 yX7_out wsX7_out) := goodIn_app (goodIn_of _ (by decide +kernel)) ggL_law_X7_out
set_option maxRecDepth 20000 in
theorem ggL_law_X8_out : GoodIn wsL_law wsX8_out := goodIn_r _ [230, 120, 121, 5, 122, 231, 232, 233, 234, 89, 596, 597, 598, 599, 600, 601, 602, 603, 604, 605, 606, 607, 608, 609, 610, 611, 612, 613, 614, 615, 616, 617, 618, 619, 620, 621, 622, 623, 624] (by decide +kernel) (by decide +kernel)
set_option maxRecDepth 20000 in
theorem gL_law_X8_out : GoodIn wsL_law (wsV RL 47 RX8 yX8_out wsX8_out) := goodIn_app (goodIn_of _ (by decide +kernel)) ggL_law_X8_out
set_option maxRecDepth 20000 in
theorem ggL_law_X7_law : GoodIn wsL_law wsX7_law := goodIn_r _ [238, 239, 19, 162, 163, 2, 164, 240, 241, 242, 18, 243, 244, 201, 202, 203, 42, 204, 205, 206, 207, 208, 209, 210, 43, 180, 181, 182, 591, 592, 593, 594, 595, 634, 635] (by decide +kernel) (by decide +kernel)
set_option maxRecDepth 20000 in
theorem gL_law_X7_law : GoodIn wsL_law (wsV RL 48 RX7 yX7_law wsX7_law) := goodIn_app (goodIn_of _ (by decide +kernel)) ggL_law_X7_law
set_option maxRecDepth 20000 in
theorem ggL_law_X8_law : GoodIn wsL_law wsX8_law := goodIn_r _ [248, 120, 121, 5, 122, 249, 250, 251, 252, 215, 216, 217, 218, 89, 90, 596, 597, 598, 599, 600, 601, 602, 603, 604, 605, 606, 607, 608, 609, 610, 611, 612, 613, 614, 615, 616, 617, 618, 619, 620, 621, 622, 623, 624] (by decide +kernel) (by decide +kernel)
set_option maxRecDepth 20000 in
theorem gL_law_X8_law : GoodIn wsL_law (wsV RL 51 RX8 yX8_law wsX8_law) := goodIn_app (goodIn_of _ (by decide +kernel)) ggL_law_X8_law
set_option maxRecDepth 20000 in
theorem ggL_law_X7_about : GoodIn wsL_law wsX7_about := goodIn_r _ [256, 15, 257, 258, 259, 19, 161, 162, 163, 2, 164, 591, 592, 593, 594, 595, 625, 626, 627, 628, 629, 630, 631, 632, 633, 634, 635] (by decide +kernel) (by decide +kernel)
set_option maxRecDepth 20000 in
theorem gL_law_X7_about : GoodIn wsL_law (wsV RL 52 RX7 yX7_about wsX7_about) := goodIn_app (goodIn_of _ (by decide +kernel)) ggL_law_X7_about
set_option maxRecDepth 20000 in
theorem ggL_law_X8_about : GoodIn wsL_law wsX8_about := goodIn_r _ [263, 119, 140, 154, 89, 120, 121, 5, 122, 596, 597, 598, 599, 600, 601, 602, 603, 604, 605, 606, 607, 608, 609, 610, 611, 612, 613, 614, 615, 616, 617, 618, 619, 620, 621, 622, 623, 624] (by decide +kernel) (by decide +kernel)
set_option maxRecDepth 20000 in
theorem gL_law_X8_about : GoodIn wsL_law (wsV RL 55 RX8 yX8_about wsX8_about) := goodIn_app (goodIn_of _ (by decide +kernel)) ggL_law_X8_about
set_option maxRecDepth 20000 in
theorem ggL_law_X7_look : GoodIn wsL_law wsX7_look := goodIn_r _ [267, 28, 15, 23, 268, 162, 163, 2, 164, 269, 270, 271, 14, 272, 135, 273, 274, 275, 27, 276, 66, 277, 278, 279, 58, 64, 280, 63, 65, 281, 282, 283, 284, 285, 286, 57, 287, 288, 74, 289, 290, 291, 292, 293, 294, 295, 22, 296, 297, 298, 299, 300, 301, 302, 303, 304, 305, 61, 306, 307, 308, 309, 310, 78, 311, 312, 313, 314, 315, 316, 317, 318, 319, 320, 321, 322, 323, 324, 325, 326, 327, 328, 329, 330, 331, 71, 332, 72, 333, 73, 334, 335, 336, 337, 338, 339, 340, 341, 342, 343, 344, 345, 346, 347, 348, 349, 350, 351, 352, 353, 354, 355, 356, 357, 358, 359, 360, 361, 362, 363, 364, 365, 366, 367, 49, 50, 368, 209, 206, 210, 369, 370, 371, 372, 47, 48, 373, 374, 375, 376, 62, 377, 378, 379, 380, 381, 382, 383, 384, 385, 386, 387, 388, 389, 390, 391, 392, 393, 394, 395, 396, 397, 398, 399, 400, 401, 402, 403, 404, 405, 406, 407, 408, 409, 410, 411, 412, 413, 414, 415, 416, 417, 418, 419, 420, 421, 422, 423, 424, 425, 426, 427, 428, 429, 201, 202, 18, 203, 42, 204, 205, 207, 208, 43, 180, 181, 182, 430, 431, 432, 433, 434, 435, 436, 437, 438, 439, 440, 441, 442, 443, 224, 225, 226, 444, 445, 446, 447, 448, 449, 450, 451, 452, 453, 454, 455, 456, 457, 591, 592, 593, 594, 595, 636, 637, 638, 639, 640, 641, 642, 643, 644, 645, 625, 626, 627, 628, 629, 630, 631, 632, 633, 646, 647, 648, 649, 650, 651, 652, 653, 654, 634, 635, 655, 656, 657, 658, 659, 660, 661, 662] (by decide +kernel) (by decide +kernel)
set_option maxRecDepth 20000 in
theorem gL_law_X7_look : GoodIn wsL_law (wsV RL 56 RX7 yX7_look wsX7_look) := goodIn_app (goodIn_of _ (by decide +kernel)) ggL_law_X7_look
set_option maxRecDepth 20000 in
theorem ggL_law_X8_look : GoodIn wsL_law wsX8_look := goodIn_r _ [461, 462, 98, 463, 102, 119, 464, 465, 466, 467, 468, 96, 97, 93, 120, 121, 5, 122, 469, 470, 471, 472, 473, 94, 95, 83, 89, 474, 475, 476, 477, 478, 479, 480, 481, 482, 483, 484, 485, 486, 487, 488, 154, 140, 489, 490, 491, 492, 493, 494, 495, 496, 87, 88, 85, 99, 100, 101, 497, 498, 499, 500, 501, 502, 503, 504, 505, 506, 507, 508, 509, 510, 511, 84, 86, 215, 216, 217, 218, 90, 231, 232, 233, 234, 512, 513, 514, 515, 516, 517, 518, 519, 520, 521, 522, 523, 524, 525, 526, 527, 596, 597, 598, 599, 600, 601, 602, 603, 604, 605, 606, 607, 608, 609, 610, 611, 612, 613, 614, 615, 616, 617, 618, 619, 620, 621, 622, 623, 624] (by decide +kernel) (by decide +kernel)
set_option maxRecDepth 20000 in
theorem gL_law_X8_look : GoodIn wsL_law (wsV RL 59 RX8 yX8_look wsX8_look) := goodIn_app (goodIn_of _ (by decide +kernel)) ggL_law_X8_look
set_option maxRecDepth 20000 in
theorem ggL_law_X7_looked : GoodIn wsL_law wsX7_looked := goodIn_r _ [531, 23, 268, 532, 533, 534, 535, 162, 163, 2, 164, 591, 592, 593, 594, 595, 636, 637, 638, 639, 640, 641, 642, 643, 644, 645] (by decide +kernel) (by decide +kernel)
set_option maxRecDepth 20000 in
theorem gL_law_X7_looked : GoodIn wsL_law (wsV RL 60 RX7 yX7_looked wsX7_looked) := goodIn_app (goodIn_of _ (by decide +kernel)) ggL_law_X7_looked
set_option maxRecDepth 20000 in
theorem ggL_law_X8_looked : GoodIn wsL_law wsX8_looked := goodIn_r _ [539, 102, 463, 467, 465, 466, 120, 121, 5, 122, 596, 597, 598, 599, 600, 601, 602, 603, 604, 605, 606, 607, 608, 609, 610, 611, 612, 613, 614, 615, 616, 617, 618, 619, 620, 621, 622, 623, 624] (by decide +kernel) (by decide +kernel)
set_option maxRecDepth 20000 in
theorem gL_law_X8_looked : GoodIn wsL_law (wsV RL 63 RX8 yX8_looked wsX8_looked) := goodIn_app (goodIn_of _ (by decide +kernel)) ggL_law_X8_looked
set_option maxRecDepth 20000 in
theorem ggL_law_X7_end : GoodIn wsL_law wsX7_end := goodIn_r _ [543, 23, 544, 545, 546, 547, 548, 22, 549, 299, 162, 163, 2, 164, 591, 592, 593, 594, 595, 636, 637, 638, 639, 640, 641, 642, 643, 644, 645] (by decide +kernel) (by decide +kernel)
set_option maxRecDepth 20000 in
theorem gL_law_X7_end : GoodIn wsL_law (wsV RL 64 RX7 yX7_end wsX7_end) := goodIn_app (goodIn_of _ (by decide +kernel)) ggL_law_X7_end
set_option maxRecDepth 20000 in
theorem ggL_law_X8_end : GoodIn wsL_law wsX8_end := goodIn_r _ [553, 102, 467, 464, 97, 120, 121, 5, 122, 596, 597, 598, 599, 600, 601, 602, 603, 604, 605, 606, 607, 608, 609, 610, 611, 612, 613, 614, 615, 616, 617, 618, 619, 620, 621, 622, 623, 624] (by decide +kernel) (by decide +kernel)
set_option maxRecDepth 20000 in
theorem gL_law_X8_end : GoodIn wsL_law (wsV RL 67 RX8 yX8_end wsX8_end) := goodIn_app (goodIn_of _ (by decide +kernel)) ggL_law_X8_end
set_option maxRecDepth 20000 in
theorem ggL_law_X7_way : GoodIn wsL_law wsX7_way := goodIn_r _ [557, 23, 546, 547, 548, 22, 549, 299, 558, 559, 560, 561, 48, 49, 162, 163, 2, 164, 562, 563, 564, 565, 50, 566, 567, 451, 568, 569, 570, 571, 572, 573, 574, 591, 592, 593, 594, 595, 636, 637, 638, 639, 640, 641, 642, 643, 644, 645] (by decide +kernel) (by decide +kernel)
set_option maxRecDepth 20000 in
theorem gL_law_X7_way : GoodIn wsL_law (wsV RL 68 RX7 yX7_way wsX7_way) := goodIn_app (goodIn_of _ (by decide +kernel)) ggL_law_X7_way
set_option maxRecDepth 20000 in
theorem ggL_law_X8_way : GoodIn wsL_law wsX8_way := goodIn_r _ [578, 102, 467, 96, 98, 99, 100, 101, 120, 121, 5, 122, 596, 597, 598, 599, 600, 601, 602, 603, 604, 605, 606, 607, 608, 609, 610, 611, 612, 613, 614, 615, 616, 617, 618, 619, 620, 621, 622, 623, 624] (by decide +kernel) (by decide +kernel)
set_option maxRecDepth 20000 in
theorem gL_law_X8_way : GoodIn wsL_law (wsV RL 71 RX8 yX8_way wsX8_way) := goodIn_app (goodIn_of _ (by decide +kernel)) ggL_law_X8_way
set_option maxRecDepth 20000 in
theorem ggL_law_X7_shrink : GoodIn wsL_law wsX7_shrink := goodIn_r _ [582, 15, 28, 24, 533, 258, 162, 163, 2, 164, 269, 270, 271, 14, 272, 135, 273, 274, 275, 27, 276, 66, 277, 278, 279, 58, 64, 280, 63, 65, 281, 282, 283, 284, 285, 286, 57, 287, 288, 74, 289, 290, 291, 292, 293, 294, 295, 22, 296, 297, 298, 299, 300, 301, 302, 303, 304, 305, 61, 306, 307, 308, 309, 310, 78, 311, 312, 313, 314, 315, 316, 317, 318, 319, 320, 321, 322, 323, 324, 325, 326, 327, 328, 329, 330, 331, 71, 332, 72, 333, 73, 334, 335, 336, 337, 338, 339, 340, 341, 342, 343, 344, 345, 346, 347, 348, 349, 350, 351, 352, 353, 354, 355, 356, 357, 358, 359, 360, 361, 362, 363, 364, 365, 366, 367, 49, 50, 368, 209, 206, 210, 369, 370, 371, 372, 47, 48, 373, 374, 375, 376, 62, 377, 378, 379, 380, 381, 382, 383, 384, 385, 386, 387, 388, 389, 390, 391, 392, 393, 394, 395, 396, 397, 398, 399, 400, 401, 402, 403, 404, 405, 406, 407, 408, 409, 410, 411, 412, 413, 414, 415, 416, 417, 418, 419, 420, 421, 422, 423, 424, 425, 426, 427, 428, 429, 201, 202, 18, 203, 42, 204, 205, 207, 208, 43, 180, 181, 182, 430, 431, 432, 433, 434, 435, 436, 437, 438, 439, 440, 441, 442, 443, 224, 225, 226, 444, 445, 446, 447, 448, 449, 450, 451, 452, 453, 454, 455, 456, 457, 591, 592, 593, 594, 595, 636, 637, 638, 639, 640, 641, 642, 643, 644, 645, 625, 626, 627, 628, 629, 630, 631, 632, 633, 646, 647, 648, 649, 650, 651, 652, 653, 654, 634, 635, 655, 656, 657, 658, 659, 660, 661, 662] (by decide +kernel) (by decide +kernel)
set_option maxRecDepth 20000 in
theorem gL_law_X7_shrink : GoodIn wsL_law (wsV RL 72 RX7 yX7_shrink wsX7_shrink) := goodIn_app (goodIn_of _ (by decide +kernel)) ggL_law_X7_shrink
set_option maxRecDepth 20000 in
theorem ggL_law_X8_shrink : GoodIn wsL_law wsX8_shrink := goodIn_r _ [586, 462, 140, 120, 121, 5, 122, 469, 470, 471, 472, 468, 473, 94, 95, 119, 83, 89, 474, 475, 476, 477, 93, 478, 479, 480, 481, 482, 483, 484, 485, 486, 487, 488, 154, 489, 490, 491, 492, 493, 494, 495, 496, 87, 88, 85, 98, 99, 100, 101, 497, 498, 499, 500, 501, 502, 503, 504, 505, 506, 507, 508, 509, 510, 511, 84, 86, 215, 216, 217, 218, 90, 231, 232, 233, 234, 512, 513, 514, 515, 587, 588, 589, 590, 520, 521, 522, 523, 516, 517, 518, 519, 524, 525, 526, 527, 596, 597, 598, 599, 600, 601, 602, 603, 604, 605, 606, 607, 608, 609, 610, 611, 612, 613, 614, 615, 616, 617, 618, 619, 620, 621, 622, 623, 624] (by decide +kernel) (by decide +kernel)
set_option maxRecDepth 20000 in
theorem gL_law_X8_shrink : GoodIn wsL_law (wsV RL 75 RX8 yX8_shrink wsX8_shrink) := goodIn_app (goodIn_of _ (by decide +kernel)) ggL_law_X8_shrink
theorem dL_law_0 : decode cL_law 0 = .ok (.new 7, 3) := by decide +kernel
