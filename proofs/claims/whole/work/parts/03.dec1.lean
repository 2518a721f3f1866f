theorem dX3_take_106 : decode cX3_take 106 = .ok (.istore 7, 2) := by decide +kernel
theorem dX3_take_108 : decode cX3_take 108 = .ok (.aload_n 0, 1) := by decide +kernel
theorem dX3_take_109 : decode cX3_take 109 = .ok (.iload 6, 2) := by decide +kernel
theorem dX3_take_111 : decode cX3_take 111 = .ok (.ifCond .eq 16, 3) := by decide +kernel
theorem dX3_take_114 : decode cX3_take 114 = .ok (.aload_n 0, 1) := by decide +kernel
theorem dX3_take_115 : decode cX3_take 115 = .ok (.getfield 28, 3) := by decide +kernel
theorem dX3_take_118 : decode cX3_take 118 = .ok (.getfield 136, 3) := by decide +kernel
theorem dX3_take_121 : decode cX3_take 121 = .ok (.iload 5, 2) := by decide +kernel
theorem dX3_take_123 : decode cX3_take 123 = .ok (.iaload, 1) := by decide +kernel
theorem dX3_take_124 : decode cX3_take 124 = .ok (.goto 12, 3) := by decide +kernel
theorem dX3_take_127 : decode cX3_take 127 = .ok (.aload_n 0, 1) := by decide +kernel
theorem dX3_take_128 : decode cX3_take 128 = .ok (.getfield 28, 3) := by decide +kernel
theorem dX3_take_131 : decode cX3_take 131 = .ok (.getfield 139, 3) := by decide +kernel
theorem dX3_take_134 : decode cX3_take 134 = .ok (.iload_n 2, 1) := by decide +kernel
theorem dX3_take_135 : decode cX3_take 135 = .ok (.iaload, 1) := by decide +kernel
theorem dX3_take_136 : decode cX3_take 136 = .ok (.iload 7, 2) := by decide +kernel
theorem dX3_take_138 : decode cX3_take 138 = .ok (.invokevirtual 142, 3) := by decide +kernel
theorem dX3_take_141 : decode cX3_take 141 = .ok (.aload_n 0, 1) := by decide +kernel
theorem dX3_take_142 : decode cX3_take 142 = .ok (.iload_n 1, 1) := by decide +kernel
theorem dX3_take_143 : decode cX3_take 143 = .ok (.iload_n 2, 1) := by decide +kernel
theorem dX3_take_144 : decode cX3_take 144 = .ok (.iload 7, 2) := by decide +kernel
theorem dX3_take_146 : decode cX3_take 146 = .ok (.iload 4, 2) := by decide +kernel
theorem dX3_take_148 : decode cX3_take 148 = .ok (.invokestatic 145, 3) := by decide +kernel
theorem dX3_take_151 : decode cX3_take 151 = .ok (.invokevirtual 74, 3) := by decide +kernel
theorem dX3_take_154 : decode cX3_take 154 = .ok (.return_, 1) := by decide +kernel
set_option maxRecDepth 20000 in
theorem ggX3_deliver_X4_valueOf : GoodIn wsX3_deliver wsX4_valueOf := goodIn_r _ [13, 14, 83, 84, 85] (by decide +kernel) (by decide +kernel)
set_option maxRecDepth 20000 in
theorem gX3_deliver_X4_valueOf : GoodIn wsX3_deliver (wsV RX3 151 RX4 yX4_valueOf wsX4_valueOf) := goodIn_app (goodIn_of _ (by decide +kernel)) ggX3_deliver_X4_valueOf
set_option maxRecDepth 20000 in
theorem ggX3_deliver_X2_folded : GoodIn wsX3_deliver wsX2_folded := goodIn_r _ [19, 20, 21, 22, 23, 24, 25, 26, 27, 28, 29, 30, 18, 31, 72, 73] (by decide +kernel) (by decide +kernel)
set_option maxRecDepth 20000 in
theorem gX3_deliver_X2_folded : GoodIn wsX3_deliver (wsV RX3 154 RX2 yX2_folded wsX2_folded) := goodIn_app (goodIn_of _ (by decide +kernel)) ggX3_deliver_X2_folded
set_option maxRecDepth 20000 in
theorem ggX3_deliver_X4_change : GoodIn wsX3_deliver wsX4_change := goodIn_r _ [35, 14, 36, 10, 11, 12, 13, 83, 84, 85] (by decide +kernel) (by decide +kernel)
set_option maxRecDepth 20000 in
theorem gX3_deliver_X4_change : GoodIn wsX3_deliver (wsV RX3 157 RX4 yX4_change wsX4_change) := goodIn_app (goodIn_of _ (by decide +kernel)) ggX3_deliver_X4_change
set_option maxRecDepth 20000 in
theorem ggX3_deliver_X4_sentBy : GoodIn wsX3_deliver wsX4_sentBy := goodIn_r _ [40, 14, 83, 84, 85] (by decide +kernel) (by decide +kernel)
set_option maxRecDepth 20000 in
theorem gX3_deliver_X4_sentBy : GoodIn wsX3_deliver (wsV RX3 160 RX4 yX4_sentBy wsX4_sentBy) := goodIn_app (goodIn_of _ (by decide +kernel)) ggX3_deliver_X4_sentBy
set_option maxRecDepth 20000 in
theorem ggX3_deliver_X4_countSend : GoodIn wsX3_deliver wsX4_countSend := goodIn_r _ [44, 14, 83, 84, 85] (by decide +kernel) (by decide +kernel)
set_option maxRecDepth 20000 in
theorem gX3_deliver_X4_countSend : GoodIn wsX3_deliver (wsV RX3 163 RX4 yX4_countSend wsX4_countSend) := goodIn_app (goodIn_of _ (by decide +kernel)) ggX3_deliver_X4_countSend
set_option maxRecDepth 20000 in
theorem ggX3_deliver_X2_sentOut : GoodIn wsX3_deliver wsX2_sentOut := goodIn_r _ [48, 20, 21, 22, 23, 24, 25, 26, 27, 72, 73] (by decide +kernel) (by decide +kernel)
set_option maxRecDepth 20000 in
theorem gX3_deliver_X2_sentOut : GoodIn wsX3_deliver (wsV RX3 172 RX2 yX2_sentOut wsX2_sentOut) := goodIn_app (goodIn_of _ (by decide +kernel)) ggX3_deliver_X2_sentOut
set_option maxRecDepth 20000 in
theorem ggX3_deliver_X4_put : GoodIn wsX3_deliver wsX4_put := goodIn_r _ [52, 53, 54, 55, 56, 57, 12, 58, 59, 60, 61, 62, 83, 84, 85] (by decide +kernel) (by decide +kernel)
set_option maxRecDepth 20000 in
theorem gX3_deliver_X4_put : GoodIn wsX3_deliver (wsV RX3 175 RX4 yX4_put wsX4_put) := goodIn_app (goodIn_of _ (by decide +kernel)) ggX3_deliver_X4_put
theorem dX3_deliver_0 : decode cX3_deliver 0 = .ok (.aload_n 0, 1) := by decide +kernel
theorem dX3_deliver_1 : decode cX3_deliver 1 = .ok (.getfield 25, 3) := by decide +kernel
theorem dX3_deliver_4 : decode cX3_deliver 4 = .ok (.iload_n 1, 1) := by decide +kernel
theorem dX3_deliver_5 : decode cX3_deliver 5 = .ok (.invokevirtual 151, 3) := by decide +kernel
theorem dX3_deliver_8 : decode cX3_deliver 8 = .ok (.istore_n 3, 1) := by decide +kernel
theorem dX3_deliver_9 : decode cX3_deliver 9 = .ok (.aload_n 0, 1) := by decide +kernel
theorem dX3_deliver_10 : decode cX3_deliver 10 = .ok (.getfield 32, 3) := by decide +kernel
theorem dX3_deliver_13 : decode cX3_deliver 13 = .ok (.iload_n 3, 1) := by decide +kernel
theorem dX3_deliver_14 : decode cX3_deliver 14 = .ok (.iload_n 2, 1) := by decide +kernel
theorem dX3_deliver_15 : decode cX3_deliver 15 = .ok (.invokevirtual 154, 3) := by decide +kernel
theorem dX3_deliver_18 : decode cX3_deliver 18 = .ok (.istore 4, 2) := by decide +kernel
theorem dX3_deliver_20 : decode cX3_deliver 20 = .ok (.aload_n 0, 1) := by decide +kernel
theorem dX3_deliver_21 : decode cX3_deliver 21 = .ok (.getfield 25, 3) := by decide +kernel
theorem dX3_deliver_24 : decode cX3_deliver 24 = .ok (.iload_n 1, 1) := by decide +kernel
theorem dX3_deliver_25 : decode cX3_deliver 25 = .ok (.iload 4, 2) := by decide +kernel
theorem dX3_deliver_27 : decode cX3_deliver 27 = .ok (.invokevirtual 157, 3) := by decide +kernel
theorem dX3_deliver_30 : decode cX3_deliver 30 = .ok (.iload 4, 2) := by decide +kernel
theorem dX3_deliver_32 : decode cX3_deliver 32 = .ok (.iload_n 3, 1) := by decide +kernel
theorem dX3_deliver_33 : decode cX3_deliver 33 = .ok (.if_icmp .ne 16, 3) := by decide +kernel
theorem dX3_deliver_36 : decode cX3_deliver 36 = .ok (.aload_n 0, 1) := by decide +kernel
theorem dX3_deliver_37 : decode cX3_deliver 37 = .ok (.getfield 32, 3) := by decide +kernel
theorem dX3_deliver_40 : decode cX3_deliver 40 = .ok (.getfield 64, 3) := by decide +kernel
theorem dX3_deliver_43 : decode cX3_deliver 43 = .ok (.iconst 2, 1) := by decide +kernel
theorem dX3_deliver_44 : decode cX3_deliver 44 = .ok (.iaload, 1) := by decide +kernel
theorem dX3_deliver_45 : decode cX3_deliver 45 = .ok (.iconst 1, 1) := by decide +kernel
theorem dX3_deliver_46 : decode cX3_deliver 46 = .ok (.if_icmp .ne 7, 3) := by decide +kernel
theorem dX3_deliver_49 : decode cX3_deliver 49 = .ok (.iconst 1, 1) := by decide +kernel
theorem dX3_deliver_50 : decode cX3_deliver 50 = .ok (.goto 4, 3) := by decide +kernel
theorem dX3_deliver_53 : decode cX3_deliver 53 = .ok (.iconst 0, 1) := by decide +kernel
theorem dX3_deliver_54 : decode cX3_deliver 54 = .ok (.istore 5, 2) := by decide +kernel
theorem dX3_deliver_56 : decode cX3_deliver 56 = .ok (.iload 5, 2) := by decide +kernel
theorem dX3_deliver_58 : decode cX3_deliver 58 = .ok (.ifCond .eq 23, 3) := by decide +kernel
theorem dX3_deliver_61 : decode cX3_deliver 61 = .ok (.aload_n 0, 1) := by decide +kernel
theorem dX3_deliver_62 : decode cX3_deliver 62 = .ok (.getfield 25, 3) := by decide +kernel
theorem dX3_deliver_65 : decode cX3_deliver 65 = .ok (.iload_n 1, 1) := by decide +kernel
theorem dX3_deliver_66 : decode cX3_deliver 66 = .ok (.invokevirtual 160, 3) := by decide +kernel
theorem dX3_deliver_69 : decode cX3_deliver 69 = .ok (.aload_n 0, 1) := by decide +kernel
theorem dX3_deliver_70 : decode cX3_deliver 70 = .ok (.getfield 32, 3) := by decide +kernel
theorem dX3_deliver_73 : decode cX3_deliver 73 = .ok (.getfield 64, 3) := by decide +kernel
theorem dX3_deliver_76 : decode cX3_deliver 76 = .ok (.iconst 3, 1) := by decide +kernel
theorem dX3_deliver_77 : decode cX3_deliver 77 = .ok (.iaload, 1) := by decide +kernel
theorem dX3_deliver_78 : decode cX3_deliver 78 = .ok (.if_icmp .lt 4, 3) := by decide +kernel
theorem dX3_deliver_81 : decode cX3_deliver 81 = .ok (.return_, 1) := by decide +kernel
theorem dX3_deliver_82 : decode cX3_deliver 82 = .ok (.aload_n 0, 1) := by decide +kernel
theorem dX3_deliver_83 : decode cX3_deliver 83 = .ok (.getfield 25, 3) := by decide +kernel
theorem dX3_deliver_86 : decode cX3_deliver 86 = .ok (.iload_n 1, 1) := by decide +kernel
theorem dX3_deliver_87 : decode cX3_deliver 87 = .ok (.invokevirtual 163, 3) := by decide +kernel
theorem dX3_deliver_90 : decode cX3_deliver 90 = .ok (.iconst 0, 1) := by decide +kernel
theorem dX3_deliver_91 : decode cX3_deliver 91 = .ok (.istore 6, 2) := by decide +kernel
theorem dX3_deliver_93 : decode cX3_deliver 93 = .ok (.iload 6, 2) := by decide +kernel
theorem dX3_deliver_95 : decode cX3_deliver 95 = .ok (.aload_n 0, 1) := by decide +kernel
theorem dX3_deliver_96 : decode cX3_deliver 96 = .ok (.getfield 28, 3) := by decide +kernel
theorem dX3_deliver_99 : decode cX3_deliver 99 = .ok (.getfield 106, 3) := by decide +kernel
theorem dX3_deliver_102 : decode cX3_deliver 102 = .ok (.if_icmp .ge 82, 3) := by decide +kernel
theorem dX3_deliver_105 : decode cX3_deliver 105 = .ok (.aload_n 0, 1) := by decide +kernel
theorem dX3_deliver_106 : decode cX3_deliver 106 = .ok (.getfield 28, 3) := by decide +kernel
theorem dX3_deliver_109 : decode cX3_deliver 109 = .ok (.getfield 166, 3) := by decide +kernel
theorem dX3_deliver_112 : decode cX3_deliver 112 = .ok (.iload 6, 2) := by decide +kernel
theorem dX3_deliver_114 : decode cX3_deliver 114 = .ok (.iaload, 1) := by decide +kernel
theorem dX3_deliver_115 : decode cX3_deliver 115 = .ok (.iload_n 1, 1) := by decide +kernel
theorem dX3_deliver_116 : decode cX3_deliver 116 = .ok (.if_icmp .ne 62, 3) := by decide +kernel
theorem dX3_deliver_119 : decode cX3_deliver 119 = .ok (.aload_n 0, 1) := by decide +kernel
theorem dX3_deliver_120 : decode cX3_deliver 120 = .ok (.getfield 44, 3) := by decide +kernel
theorem dX3_deliver_123 : decode cX3_deliver 123 = .ok (.iload 6, 2) := by decide +kernel
theorem dX3_deliver_125 : decode cX3_deliver 125 = .ok (.iushr, 1) := by decide +kernel
theorem dX3_deliver_126 : decode cX3_deliver 126 = .ok (.iconst 1, 1) := by decide +kernel
theorem dX3_deliver_127 : decode cX3_deliver 127 = .ok (.iand, 1) := by decide +kernel
theorem dX3_deliver_128 : decode cX3_deliver 128 = .ok (.iconst 1, 1) := by decide +kernel
theorem dX3_deliver_129 : decode cX3_deliver 129 = .ok (.if_icmp .ne 49, 3) := by decide +kernel
theorem dX3_deliver_132 : decode cX3_deliver 132 = .ok (.aload_n 0, 1) := by decide +kernel
theorem dX3_deliver_133 : decode cX3_deliver 133 = .ok (.getfield 25, 3) := by decide +kernel
theorem dX3_deliver_136 : decode cX3_deliver 136 = .ok (.iload 6, 2) := by decide +kernel
theorem dX3_deliver_138 : decode cX3_deliver 138 = .ok (.aload_n 0, 1) := by decide +kernel
theorem dX3_deliver_139 : decode cX3_deliver 139 = .ok (.getfield 32, 3) := by decide +kernel
theorem dX3_deliver_142 : decode cX3_deliver 142 = .ok (.iload 4, 2) := by decide +kernel
theorem dX3_deliver_144 : decode cX3_deliver 144 = .ok (.aload_n 0, 1) := by decide +kernel
theorem dX3_deliver_145 : decode cX3_deliver 145 = .ok (.getfield 28, 3) := by decide +kernel
theorem dX3_deliver_148 : decode cX3_deliver 148 = .ok (.getfield 169, 3) := by decide +kernel
theorem dX3_deliver_151 : decode cX3_deliver 151 = .ok (.iload 6, 2) := by decide +kernel
theorem dX3_deliver_153 : decode cX3_deliver 153 = .ok (.iaload, 1) := by decide +kernel
theorem dX3_deliver_154 : decode cX3_deliver 154 = .ok (.invokevirtual 172, 3) := by decide +kernel
theorem dX3_deliver_157 : decode cX3_deliver 157 = .ok (.aload_n 0, 1) := by decide +kernel
theorem dX3_deliver_158 : decode cX3_deliver 158 = .ok (.getfield 32, 3) := by decide +kernel
theorem dX3_deliver_161 : decode cX3_deliver 161 = .ok (.getfield 64, 3) := by decide +kernel
theorem dX3_deliver_164 : decode cX3_deliver 164 = .ok (.iconst 4, 1) := by decide +kernel
theorem dX3_deliver_165 : decode cX3_deliver 165 = .ok (.iaload, 1) := by decide +kernel
theorem dX3_deliver_166 : decode cX3_deliver 166 = .ok (.iconst 1, 1) := by decide +kernel
theorem dX3_deliver_167 : decode cX3_deliver 167 = .ok (.if_icmp .ne 7, 3) := by decide +kernel
theorem dX3_deliver_170 : decode cX3_deliver 170 = .ok (.iconst 1, 1) := by decide +kernel
theorem dX3_deliver_171 : decode cX3_deliver 171 = .ok (.goto 4, 3) := by decide +kernel
theorem dX3_deliver_174 : decode cX3_deliver 174 = .ok (.iconst 0, 1) := by decide +kernel
theorem dX3_deliver_175 : decode cX3_deliver 175 = .ok (.invokevirtual 175, 3) := by decide +kernel
theorem dX3_deliver_178 : decode cX3_deliver 178 = .ok (.iinc 6 1, 3) := by decide +kernel
theorem dX3_deliver_181 : decode cX3_deliver 181 = .ok (.goto (-88), 3) := by decide +kernel
theorem dX3_deliver_184 : decode cX3_deliver 184 = .ok (.return_, 1) := by decide +kernel
set_option maxRecDepth 20000 in
theorem ggX3_keepNext_X5_freeSlot : GoodIn wsX3_keepNext wsX5_freeSlot := goodIn_r _ [13, 14, 15, 16, 17, 18, 19, 20, 21, 22, 23, 24, 25, 26, 12, 27, 28, 29, 30, 31, 32, 33, 94, 95, 96, 97, 98, 108, 109, 110] (by decide +kernel) (by decide +kernel)
set_option maxRecDepth 20000 in
theorem gX3_keepNext_X5_freeSlot : GoodIn wsX3_keepNext (wsV RX3 179 RX5 yX5_freeSlot wsX5_freeSlot) := goodIn_app (goodIn_of _ (by decide +kernel)) ggX3_keepNext_X5_freeSlot
set_option maxRecDepth 20000 in
theorem ggX3_keepNext_X5_add : GoodIn wsX3_keepNext wsX5_add := goodIn_r _ [37, 38, 28, 29, 30, 31, 33, 32, 39, 40, 41, 42, 14, 94, 95, 96, 97, 98, 108, 109, 110] (by decide +kernel) (by decide +kernel)
set_option maxRecDepth 20000 in
theorem gX3_keepNext_X5_add : GoodIn wsX3_keepNext (wsV RX3 183 RX5 yX5_add wsX5_add) := goodIn_app (goodIn_of _ (by decide +kernel)) ggX3_keepNext_X5_add
set_option maxRecDepth 20000 in
theorem ggX3_keepNext_X4_pending : GoodIn wsX3_keepNext wsX4_pending := goodIn_r _ [46, 20, 47, 48, 49, 50, 51, 52, 53, 54, 55, 56, 57, 18, 58, 21, 108, 109, 110] (by decide +kernel) (by decide +kernel)
set_option maxRecDepth 20000 in
theorem gX3_keepNext_X4_pending : GoodIn wsX3_keepNext (wsV RX3 187 RX4 yX4_pending wsX4_pending) := goodIn_app (goodIn_of _ (by decide +kernel)) ggX3_keepNext_X4_pending
set_option maxRecDepth 20000 in
theorem ggX3_keepNext_X4_allValues : GoodIn wsX3_keepNext wsX4_allValues := goodIn_r _ [62, 20, 63, 108, 109, 110] (by decide +kernel) (by decide +kernel)
set_option maxRecDepth 20000 in
theorem gX3_keepNext_X4_allValues : GoodIn wsX3_keepNext (wsV RX3 190 RX4 yX4_allValues wsX4_allValues) := goodIn_app (goodIn_of _ (by decide +kernel)) ggX3_keepNext_X4_allValues
set_option maxRecDepth 20000 in
theorem ggX3_keepNext_X0_note : GoodIn wsX3_keepNext wsX0_note := goodIn_r _ [68, 69, 70, 71, 72, 73, 74, 75, 76, 77, 78, 79, 80, 67, 81, 82, 83, 84, 111, 112, 113, 114, 115, 116, 117, 118, 119, 120] (by decide +kernel) (by decide +kernel)
set_option maxRecDepth 20000 in
theorem gX3_keepNext_X0_note : GoodIn wsX3_keepNext (wsV RX3 193 RX0 yX0_note wsX0_note) := goodIn_app (goodIn_of _ (by decide +kernel)) ggX3_keepNext_X0_note
theorem dX3_keepNext_0 : decode cX3_keepNext 0 = .ok (.aload_n 0, 1) := by decide +kernel
theorem dX3_keepNext_1 : decode cX3_keepNext 1 = .ok (.getfield 12, 3) := by decide +kernel
theorem dX3_keepNext_4 : decode cX3_keepNext 4 = .ok (.aload_n 0, 1) := by decide +kernel
theorem dX3_keepNext_5 : decode cX3_keepNext 5 = .ok (.getfield 25, 3) := by decide +kernel
theorem dX3_keepNext_8 : decode cX3_keepNext 8 = .ok (.invokevirtual 179, 3) := by decide +kernel
theorem dX3_keepNext_11 : decode cX3_keepNext 11 = .ok (.istore_n 3, 1) := by decide +kernel
theorem dX3_keepNext_12 : decode cX3_keepNext 12 = .ok (.iload_n 3, 1) := by decide +kernel
theorem dX3_keepNext_13 : decode cX3_keepNext 13 = .ok (.iconst (-1), 1) := by decide +kernel
theorem dX3_keepNext_14 : decode cX3_keepNext 14 = .ok (.if_icmp .ne 4, 3) := by decide +kernel
theorem dX3_keepNext_17 : decode cX3_keepNext 17 = .ok (.return_, 1) := by decide +kernel
theorem dX3_keepNext_18 : decode cX3_keepNext 18 = .ok (.aload_n 0, 1) := by decide +kernel
theorem dX3_keepNext_19 : decode cX3_keepNext 19 = .ok (.getfield 12, 3) := by decide +kernel
theorem dX3_keepNext_22 : decode cX3_keepNext 22 = .ok (.getfield 78, 3) := by decide +kernel
theorem dX3_keepNext_25 : decode cX3_keepNext 25 = .ok (.aload_n 0, 1) := by decide +kernel
theorem dX3_keepNext_26 : decode cX3_keepNext 26 = .ok (.getfield 40, 3) := by decide +kernel
theorem dX3_keepNext_29 : decode cX3_keepNext 29 = .ok (.if_icmp .lt 9, 3) := by decide +kernel
theorem dX3_keepNext_32 : decode cX3_keepNext 32 = .ok (.aload_n 0, 1) := by decide +kernel
theorem dX3_keepNext_33 : decode cX3_keepNext 33 = .ok (.iconst 1, 1) := by decide +kernel
theorem dX3_keepNext_34 : decode cX3_keepNext 34 = .ok (.putfield 47, 3) := by decide +kernel
theorem dX3_keepNext_37 : decode cX3_keepNext 37 = .ok (.return_, 1) := by decide +kernel
theorem dX3_keepNext_38 : decode cX3_keepNext 38 = .ok (.aload_n 0, 1) := by decide +kernel
theorem dX3_keepNext_39 : decode cX3_keepNext 39 = .ok (.getfield 12, 3) := by decide +kernel
theorem dX3_keepNext_42 : decode cX3_keepNext 42 = .ok (.aload_n 0, 1) := by decide +kernel
theorem dX3_keepNext_43 : decode cX3_keepNext 43 = .ok (.getfield 25, 3) := by decide +kernel
theorem dX3_keepNext_46 : decode cX3_keepNext 46 = .ok (.iload_n 3, 1) := by decide +kernel
theorem dX3_keepNext_47 : decode cX3_keepNext 47 = .ok (.invokevirtual 183, 3) := by decide +kernel
theorem dX3_keepNext_50 : decode cX3_keepNext 50 = .ok (.aload_n 0, 1) := by decide +kernel
theorem dX3_keepNext_51 : decode cX3_keepNext 51 = .ok (.getfield 36, 3) := by decide +kernel
theorem dX3_keepNext_54 : decode cX3_keepNext 54 = .ok (.iload_n 1, 1) := by decide +kernel
theorem dX3_keepNext_55 : decode cX3_keepNext 55 = .ok (.iload_n 2, 1) := by decide +kernel
theorem dX3_keepNext_56 : decode cX3_keepNext 56 = .ok (.aload_n 0, 1) := by decide +kernel
theorem dX3_keepNext_57 : decode cX3_keepNext 57 = .ok (.getfield 25, 3) := by decide +kernel
theorem dX3_keepNext_60 : decode cX3_keepNext 60 = .ok (.aload_n 0, 1) := by decide +kernel
theorem dX3_keepNext_61 : decode cX3_keepNext 61 = .ok (.getfield 28, 3) := by decide +kernel
theorem dX3_keepNext_64 : decode cX3_keepNext 64 = .ok (.getfield 95, 3) := by decide +kernel
theorem dX3_keepNext_67 : decode cX3_keepNext 67 = .ok (.invokevirtual 187, 3) := by decide +kernel
theorem dX3_keepNext_70 : decode cX3_keepNext 70 = .ok (.aload_n 0, 1) := by decide +kernel
theorem dX3_keepNext_71 : decode cX3_keepNext 71 = .ok (.getfield 25, 3) := by decide +kernel
theorem dX3_keepNext_74 : decode cX3_keepNext 74 = .ok (.invokevirtual 190, 3) := by decide +kernel
theorem dX3_keepNext_77 : decode cX3_keepNext 77 = .ok (.invokevirtual 193, 3) := by decide +kernel
theorem dX3_keepNext_80 : decode cX3_keepNext 80 = .ok (.return_, 1) := by decide +kernel
theorem dX4_init_0 : decode cX4_init 0 = .ok (.aload_n 0, 1) := by decide +kernel
theorem dX4_init_1 : decode cX4_init 1 = .ok (.invokespecial 5, 3) := by decide +kernel
theorem dX4_init_4 : decode cX4_init 4 = .ok (.aload_n 0, 1) := by decide +kernel
theorem dX4_init_5 : decode cX4_init 5 = .ok (.bipush 8, 2) := by decide +kernel
theorem dX4_init_7 : decode cX4_init 7 = .ok (.newarray .long, 2) := by decide +kernel
theorem dX4_init_9 : decode cX4_init 9 = .ok (.putfield 11, 3) := by decide +kernel
theorem dX4_init_12 : decode cX4_init 12 = .ok (.return_, 1) := by decide +kernel
set_option maxRecDepth 20000 in
theorem ggX4_begin_J7_fill_d0a16 : GoodIn wsX4_begin wsJ7_fill_d0a16 := goodIn_r _ [9] (by decide +kernel) (by decide +kernel)
set_option maxRecDepth 20000 in
theorem gX4_begin_J7_fill_d0a16 : GoodIn wsX4_begin (va_wsS RX4 32 yJ7_fill_d0a16 wsJ7_fill_d0a16) := goodIn_app (goodIn_of _ (by decide +kernel)) ggX4_begin_J7_fill_d0a16
theorem dX4_begin_0 : decode cX4_begin 0 = .ok (.aload_n 0, 1) := by decide +kernel
theorem dX4_begin_1 : decode cX4_begin 1 = .ok (.iload_n 2, 1) := by decide +kernel
theorem dX4_begin_2 : decode cX4_begin 2 = .ok (.i2l, 1) := by decide +kernel
theorem dX4_begin_3 : decode cX4_begin 3 = .ok (.bipush 49, 2) := by decide +kernel
theorem dX4_begin_5 : decode cX4_begin 5 = .ok (.lshl, 1) := by decide +kernel
theorem dX4_begin_6 : decode cX4_begin 6 = .ok (.putfield 15, 3) := by decide +kernel
theorem dX4_begin_9 : decode cX4_begin 9 = .ok (.iconst 0, 1) := by decide +kernel
theorem dX4_begin_10 : decode cX4_begin 10 = .ok (.istore_n 3, 1) := by decide +kernel
theorem dX4_begin_11 : decode cX4_begin 11 = .ok (.iload_n 3, 1) := by decide +kernel
theorem dX4_begin_12 : decode cX4_begin 12 = .ok (.aload_n 1, 1) := by decide +kernel
theorem dX4_begin_13 : decode cX4_begin 13 = .ok (.getfield 19, 3) := by decide +kernel
theorem dX4_begin_16 : decode cX4_begin 16 = .ok (.if_icmp .ge 29, 3) := by decide +kernel
theorem dX4_begin_19 : decode cX4_begin 19 = .ok (.aload_n 0, 1) := by decide +kernel
theorem dX4_begin_20 : decode cX4_begin 20 = .ok (.dup, 1) := by decide +kernel
theorem dX4_begin_21 : decode cX4_begin 21 = .ok (.getfield 15, 3) := by decide +kernel
theorem dX4_begin_24 : decode cX4_begin 24 = .ok (.aload_n 1, 1) := by decide +kernel
theorem dX4_begin_25 : decode cX4_begin 25 = .ok (.getfield 25, 3) := by decide +kernel
theorem dX4_begin_28 : decode cX4_begin 28 = .ok (.iload_n 3, 1) := by decide +kernel
theorem dX4_begin_29 : decode cX4_begin 29 = .ok (.iaload, 1) := by decide +kernel
theorem dX4_begin_30 : decode cX4_begin 30 = .ok (.i2l, 1) := by decide +kernel
theorem dX4_begin_31 : decode cX4_begin 31 = .ok (.iconst 4, 1) := by decide +kernel
theorem dX4_begin_32 : decode cX4_begin 32 = .ok (.iload_n 3, 1) := by decide +kernel
theorem dX4_begin_33 : decode cX4_begin 33 = .ok (.imul, 1) := by decide +kernel
theorem dX4_begin_34 : decode cX4_begin 34 = .ok (.lshl, 1) := by decide +kernel
theorem dX4_begin_35 : decode cX4_begin 35 = .ok (.lor, 1) := by decide +kernel
theorem dX4_begin_36 : decode cX4_begin 36 = .ok (.putfield 15, 3) := by decide +kernel
theorem dX4_begin_39 : decode cX4_begin 39 = .ok (.iinc 3 1, 3) := by decide +kernel
theorem dX4_begin_42 : decode cX4_begin 42 = .ok (.goto (-31), 3) := by decide +kernel
theorem dX4_begin_45 : decode cX4_begin 45 = .ok (.aload_n 0, 1) := by decide +kernel
theorem dX4_begin_46 : decode cX4_begin 46 = .ok (.lconst 0, 1) := by decide +kernel
theorem dX4_begin_47 : decode cX4_begin 47 = .ok (.putfield 29, 3) := by decide +kernel
theorem dX4_begin_50 : decode cX4_begin 50 = .ok (.aload_n 0, 1) := by decide +kernel
theorem dX4_begin_51 : decode cX4_begin 51 = .ok (.getfield 11, 3) := by decide +kernel
theorem dX4_begin_54 : decode cX4_begin 54 = .ok (.lconst 0, 1) := by decide +kernel
theorem dX4_begin_55 : decode cX4_begin 55 = .ok (.invokestatic 32, 3) := by decide +kernel
theorem dX4_begin_58 : decode cX4_begin 58 = .ok (.return_, 1) := by decide +kernel
theorem dX4_copy_0 : decode cX4_copy 0 = .ok (.aload_n 0, 1) := by decide +kernel
theorem dX4_copy_1 : decode cX4_copy 1 = .ok (.aload_n 1, 1) := by decide +kernel
theorem dX4_copy_2 : decode cX4_copy 2 = .ok (.getfield 15, 3) := by decide +kernel
theorem dX4_copy_5 : decode cX4_copy 5 = .ok (.putfield 15, 3) := by decide +kernel
theorem dX4_copy_8 : decode cX4_copy 8 = .ok (.aload_n 0, 1) := by decide +kernel
theorem dX4_copy_9 : decode cX4_copy 9 = .ok (.aload_n 1, 1) := by decide +kernel
theorem dX4_copy_10 : decode cX4_copy 10 = .ok (.getfield 29, 3) := by decide +kernel
theorem dX4_copy_13 : decode cX4_copy 13 = .ok (.putfield 29, 3) := by decide +kernel
theorem dX4_copy_16 : decode cX4_copy 16 = .ok (.aload_n 1, 1) := by decide +kernel
theorem dX4_copy_17 : decode cX4_copy 17 = .ok (.getfield 11, 3) := by decide +kernel
theorem dX4_copy_20 : decode cX4_copy 20 = .ok (.iconst 0, 1) := by decide +kernel
theorem dX4_copy_21 : decode cX4_copy 21 = .ok (.aload_n 0, 1) := by decide +kernel
theorem dX4_copy_22 : decode cX4_copy 22 = .ok (.getfield 11, 3) := by decide +kernel
theorem dX4_copy_25 : decode cX4_copy 25 = .ok (.iconst 0, 1) := by decide +kernel
theorem dX4_copy_26 : decode cX4_copy 26 = .ok (.bipush 8, 2) := by decide +kernel
theorem dX4_copy_28 : decode cX4_copy 28 = .ok (.invokestatic 38, 3) := by decide +kernel
theorem dX4_copy_31 : decode cX4_copy 31 = .ok (.return_, 1) := by decide +kernel
theorem dX4_allValues_0 : decode cX4_allValues 0 = .ok (.aload_n 0, 1) := by decide +kernel
theorem dX4_allValues_1 : decode cX4_allValues 1 = .ok (.getfield 15, 3) := by decide +kernel
theorem dX4_allValues_4 : decode cX4_allValues 4 = .ok (.l2i, 1) := by decide +kernel
theorem dX4_allValues_5 : decode cX4_allValues 5 = .ok (.ldc 44, 2) := by decide +kernel
theorem dX4_allValues_7 : decode cX4_allValues 7 = .ok (.iand, 1) := by decide +kernel
theorem dX4_allValues_8 : decode cX4_allValues 8 = .ok (.ireturn, 1) := by decide +kernel
theorem dX4_valueOf_0 : decode cX4_valueOf 0 = .ok (.aload_n 0, 1) := by decide +kernel
theorem dX4_valueOf_1 : decode cX4_valueOf 1 = .ok (.getfield 15, 3) := by decide +kernel
theorem dX4_valueOf_4 : decode cX4_valueOf 4 = .ok (.iconst 4, 1) := by decide +kernel
theorem dX4_valueOf_5 : decode cX4_valueOf 5 = .ok (.iload_n 1, 1) := by decide +kernel
theorem dX4_valueOf_6 : decode cX4_valueOf 6 = .ok (.imul, 1) := by decide +kernel
theorem dX4_valueOf_7 : decode cX4_valueOf 7 = .ok (.lushr, 1) := by decide +kernel
theorem dX4_valueOf_8 : decode cX4_valueOf 8 = .ok (.l2i, 1) := by decide +kernel
theorem dX4_valueOf_9 : decode cX4_valueOf 9 = .ok (.bipush 15, 2) := by decide +kernel
theorem dX4_valueOf_11 : decode cX4_valueOf 11 = .ok (.iand, 1) := by decide +kernel
theorem dX4_valueOf_12 : decode cX4_valueOf 12 = .ok (.ireturn, 1) := by decide +kernel
set_option maxRecDepth 20000 in
theorem ggX4_change_X4_valueOf : GoodIn wsX4_change wsX4_valueOf := goodIn_r _ [6, 1, 7, 8, 9] (by decide +kernel) (by decide +kernel)
set_option maxRecDepth 20000 in
theorem gX4_change_X4_valueOf : GoodIn wsX4_change (wsV RX4 45 RX4 yX4_valueOf wsX4_valueOf) := goodIn_app (goodIn_of _ (by decide +kernel)) ggX4_change_X4_valueOf
theorem dX4_change_0 : decode cX4_change 0 = .ok (.aload_n 0, 1) := by decide +kernel
theorem dX4_change_1 : decode cX4_change 1 = .ok (.dup, 1) := by decide +kernel
theorem dX4_change_2 : decode cX4_change 2 = .ok (.getfield 15, 3) := by decide +kernel
theorem dX4_change_5 : decode cX4_change 5 = .ok (.aload_n 0, 1) := by decide +kernel
theorem dX4_change_6 : decode cX4_change 6 = .ok (.iload_n 1, 1) := by decide +kernel
theorem dX4_change_7 : decode cX4_change 7 = .ok (.invokevirtual 45, 3) := by decide +kernel
theorem dX4_change_10 : decode cX4_change 10 = .ok (.iload_n 2, 1) := by decide +kernel
theorem dX4_change_11 : decode cX4_change 11 = .ok (.ixor, 1) := by decide +kernel
theorem dX4_change_12 : decode cX4_change 12 = .ok (.i2l, 1) := by decide +kernel
theorem dX4_change_13 : decode cX4_change 13 = .ok (.iconst 4, 1) := by decide +kernel
theorem dX4_change_14 : decode cX4_change 14 = .ok (.iload_n 1, 1) := by decide +kernel
theorem dX4_change_15 : decode cX4_change 15 = .ok (.imul, 1) := by decide +kernel
theorem dX4_change_16 : decode cX4_change 16 = .ok (.lshl, 1) := by decide +kernel
theorem dX4_change_17 : decode cX4_change 17 = .ok (.lxor, 1) := by decide +kernel
theorem dX4_change_18 : decode cX4_change 18 = .ok (.putfield 15, 3) := by decide +kernel
theorem dX4_change_21 : decode cX4_change 21 = .ok (.return_, 1) := by decide +kernel
theorem dX4_sentBy_0 : decode cX4_sentBy 0 = .ok (.aload_n 0, 1) := by decide +kernel
theorem dX4_sentBy_1 : decode cX4_sentBy 1 = .ok (.getfield 15, 3) := by decide +kernel
theorem dX4_sentBy_4 : decode cX4_sentBy 4 = .ok (.bipush 20, 2) := by decide +kernel
theorem dX4_sentBy_6 : decode cX4_sentBy 6 = .ok (.iconst 5, 1) := by decide +kernel
theorem dX4_sentBy_7 : decode cX4_sentBy 7 = .ok (.iload_n 1, 1) := by decide +kernel
theorem dX4_sentBy_8 : decode cX4_sentBy 8 = .ok (.imul, 1) := by decide +kernel
theorem dX4_sentBy_9 : decode cX4_sentBy 9 = .ok (.iadd, 1) := by decide +kernel
theorem dX4_sentBy_10 : decode cX4_sentBy 10 = .ok (.lushr, 1) := by decide +kernel
theorem dX4_sentBy_11 : decode cX4_sentBy 11 = .ok (.l2i, 1) := by decide +kernel
theorem dX4_sentBy_12 : decode cX4_sentBy 12 = .ok (.bipush 31, 2) := by decide +kernel
theorem dX4_sentBy_14 : decode cX4_sentBy 14 = .ok (.iand, 1) := by decide +kernel
theorem dX4_sentBy_15 : decode cX4_sentBy 15 = .ok (.ireturn, 1) := by decide +kernel
theorem dX4_countSend_0 : decode cX4_countSend 0 = .ok (.aload_n 0, 1) := by decide +kernel
theorem dX4_countSend_1 : decode cX4_countSend 1 = .ok (.dup, 1) := by decide +kernel
theorem dX4_countSend_2 : decode cX4_countSend 2 = .ok (.getfield 15, 3) := by decide +kernel
theorem dX4_countSend_5 : decode cX4_countSend 5 = .ok (.lconst 1, 1) := by decide +kernel
theorem dX4_countSend_6 : decode cX4_countSend 6 = .ok (.bipush 20, 2) := by decide +kernel
theorem dX4_countSend_8 : decode cX4_countSend 8 = .ok (.iconst 5, 1) := by decide +kernel
theorem dX4_countSend_9 : decode cX4_countSend 9 = .ok (.iload_n 1, 1) := by decide +kernel
theorem dX4_countSend_10 : decode cX4_countSend 10 = .ok (.imul, 1) := by decide +kernel
theorem dX4_countSend_11 : decode cX4_countSend 11 = .ok (.iadd, 1) := by decide +kernel
theorem dX4_countSend_12 : decode cX4_countSend 12 = .ok (.lshl, 1) := by decide +kernel
theorem dX4_countSend_13 : decode cX4_countSend 13 = .ok (.ladd, 1) := by decide +kernel
theorem dX4_countSend_14 : decode cX4_countSend 14 = .ok (.putfield 15, 3) := by decide +kernel
theorem dX4_countSend_17 : decode cX4_countSend 17 = .ok (.return_, 1) := by decide +kernel
theorem dX4_hasCome_0 : decode cX4_hasCome 0 = .ok (.aload_n 0, 1) := by decide +kernel
theorem dX4_hasCome_1 : decode cX4_hasCome 1 = .ok (.getfield 15, 3) := by decide +kernel
theorem dX4_hasCome_4 : decode cX4_hasCome 4 = .ok (.bipush 45, 2) := by decide +kernel
theorem dX4_hasCome_6 : decode cX4_hasCome 6 = .ok (.iload_n 1, 1) := by decide +kernel
theorem dX4_hasCome_7 : decode cX4_hasCome 7 = .ok (.iadd, 1) := by decide +kernel
theorem dX4_hasCome_8 : decode cX4_hasCome 8 = .ok (.lushr, 1) := by decide +kernel
theorem dX4_hasCome_9 : decode cX4_hasCome 9 = .ok (.lconst 1, 1) := by decide +kernel
theorem dX4_hasCome_10 : decode cX4_hasCome 10 = .ok (.land, 1) := by decide +kernel
theorem dX4_hasCome_11 : decode cX4_hasCome 11 = .ok (.lconst 0, 1) := by decide +kernel
theorem dX4_hasCome_12 : decode cX4_hasCome 12 = .ok (.lcmp, 1) := by decide +kernel
theorem dX4_hasCome_13 : decode cX4_hasCome 13 = .ok (.ifCond .eq 7, 3) := by decide +kernel
theorem dX4_hasCome_16 : decode cX4_hasCome 16 = .ok (.iconst 1, 1) := by decide +kernel
theorem dX4_hasCome_17 : decode cX4_hasCome 17 = .ok (.goto 4, 3) := by decide +kernel
theorem dX4_hasCome_20 : decode cX4_hasCome 20 = .ok (.iconst 0, 1) := by decide +kernel
theorem dX4_hasCome_21 : decode cX4_hasCome 21 = .ok (.ireturn, 1) := by decide +kernel
theorem dX4_markCome_0 : decode cX4_markCome 0 = .ok (.aload_n 0, 1) := by decide +kernel
theorem dX4_markCome_1 : decode cX4_markCome 1 = .ok (.dup, 1) := by decide +kernel
theorem dX4_markCome_2 : decode cX4_markCome 2 = .ok (.getfield 15, 3) := by decide +kernel
theorem dX4_markCome_5 : decode cX4_markCome 5 = .ok (.lconst 1, 1) := by decide +kernel
theorem dX4_markCome_6 : decode cX4_markCome 6 = .ok (.bipush 45, 2) := by decide +kernel
theorem dX4_markCome_8 : decode cX4_markCome 8 = .ok (.iload_n 1, 1) := by decide +kernel
theorem dX4_markCome_9 : decode cX4_markCome 9 = .ok (.iadd, 1) := by decide +kernel
theorem dX4_markCome_10 : decode cX4_markCome 10 = .ok (.lshl, 1) := by decide +kernel
theorem dX4_markCome_11 : decode cX4_markCome 11 = .ok (.lor, 1) := by decide +kernel
theorem dX4_markCome_12 : decode cX4_markCome 12 = .ok (.putfield 15, 3) := by decide +kernel
theorem dX4_markCome_15 : decode cX4_markCome 15 = .ok (.return_, 1) := by decide +kernel
theorem dX4_doublesLeft_0 : decode cX4_doublesLeft 0 = .ok (.aload_n 0, 1) := by decide +kernel
theorem dX4_doublesLeft_1 : decode cX4_doublesLeft 1 = .ok (.getfield 15, 3) := by decide +kernel
theorem dX4_doublesLeft_4 : decode cX4_doublesLeft 4 = .ok (.bipush 49, 2) := by decide +kernel
theorem dX4_doublesLeft_6 : decode cX4_doublesLeft 6 = .ok (.lushr, 1) := by decide +kernel
theorem dX4_doublesLeft_7 : decode cX4_doublesLeft 7 = .ok (.l2i, 1) := by decide +kernel
theorem dX4_doublesLeft_8 : decode cX4_doublesLeft 8 = .ok (.iconst 3, 1) := by decide +kernel
theorem dX4_doublesLeft_9 : decode cX4_doublesLeft 9 = .ok (.iand, 1) := by decide +kernel
theorem dX4_doublesLeft_10 : decode cX4_doublesLeft 10 = .ok (.ireturn, 1) := by decide +kernel
theorem dX4_useDouble_0 : decode cX4_useDouble 0 = .ok (.aload_n 0, 1) := by decide +kernel
theorem dX4_useDouble_1 : decode cX4_useDouble 1 = .ok (.dup, 1) := by decide +kernel
theorem dX4_useDouble_2 : decode cX4_useDouble 2 = .ok (.getfield 15, 3) := by decide +kernel
theorem dX4_useDouble_5 : decode cX4_useDouble 5 = .ok (.ldc2_w 49, 3) := by decide +kernel
theorem dX4_useDouble_8 : decode cX4_useDouble 8 = .ok (.lsub, 1) := by decide +kernel
theorem dX4_useDouble_9 : decode cX4_useDouble 9 = .ok (.putfield 15, 3) := by decide +kernel
theorem dX4_useDouble_12 : decode cX4_useDouble 12 = .ok (.return_, 1) := by decide +kernel
theorem dX4_underWay_0 : decode cX4_underWay 0 = .ok (.aload_n 0, 1) := by decide +kernel
theorem dX4_underWay_1 : decode cX4_underWay 1 = .ok (.getfield 29, 3) := by decide +kernel
theorem dX4_underWay_4 : decode cX4_underWay 4 = .ok (.iconst 5, 1) := by decide +kernel
theorem dX4_underWay_5 : decode cX4_underWay 5 = .ok (.iload_n 1, 1) := by decide +kernel
theorem dX4_underWay_6 : decode cX4_underWay 6 = .ok (.imul, 1) := by decide +kernel
theorem dX4_underWay_7 : decode cX4_underWay 7 = .ok (.lushr, 1) := by decide +kernel
theorem dX4_underWay_8 : decode cX4_underWay 8 = .ok (.l2i, 1) := by decide +kernel
theorem dX4_underWay_9 : decode cX4_underWay 9 = .ok (.bipush 31, 2) := by decide +kernel
theorem dX4_underWay_11 : decode cX4_underWay 11 = .ok (.iand, 1) := by decide +kernel
theorem dX4_underWay_12 : decode cX4_underWay 12 = .ok (.ireturn, 1) := by decide +kernel
theorem dX4_messageAt_0 : decode cX4_messageAt 0 = .ok (.aload_n 0, 1) := by decide +kernel
theorem dX4_messageAt_1 : decode cX4_messageAt 1 = .ok (.getfield 11, 3) := by decide +kernel
theorem dX4_messageAt_4 : decode cX4_messageAt 4 = .ok (.iload_n 1, 1) := by decide +kernel
theorem dX4_messageAt_5 : decode cX4_messageAt 5 = .ok (.laload, 1) := by decide +kernel
theorem dX4_messageAt_6 : decode cX4_messageAt 6 = .ok (.iconst 4, 1) := by decide +kernel
theorem dX4_messageAt_7 : decode cX4_messageAt 7 = .ok (.iload_n 2, 1) := by decide +kernel
theorem dX4_messageAt_8 : decode cX4_messageAt 8 = .ok (.imul, 1) := by decide +kernel
theorem dX4_messageAt_9 : decode cX4_messageAt 9 = .ok (.lushr, 1) := by decide +kernel
theorem dX4_messageAt_10 : decode cX4_messageAt 10 = .ok (.l2i, 1) := by decide +kernel
theorem dX4_messageAt_11 : decode cX4_messageAt 11 = .ok (.bipush 15, 2) := by decide +kernel
theorem dX4_messageAt_13 : decode cX4_messageAt 13 = .ok (.iand, 1) := by decide +kernel
theorem dX4_messageAt_14 : decode cX4_messageAt 14 = .ok (.ireturn, 1) := by decide +kernel
theorem dX4_take_0 : decode cX4_take 0 = .ok (.iconst 4, 1) := by decide +kernel
theorem dX4_take_1 : decode cX4_take 1 = .ok (.iload_n 2, 1) := by decide +kernel
theorem dX4_take_2 : decode cX4_take 2 = .ok (.imul, 1) := by decide +kernel
theorem dX4_take_3 : decode cX4_take 3 = .ok (.istore_n 3, 1) := by decide +kernel
theorem dX4_take_4 : decode cX4_take 4 = .ok (.aload_n 0, 1) := by decide +kernel
theorem dX4_take_5 : decode cX4_take 5 = .ok (.getfield 11, 3) := by decide +kernel
theorem dX4_take_8 : decode cX4_take 8 = .ok (.iload_n 1, 1) := by decide +kernel
theorem dX4_take_9 : decode cX4_take 9 = .ok (.laload, 1) := by decide +kernel
theorem dX4_take_10 : decode cX4_take 10 = .ok (.lstore 4, 2) := by decide +kernel
theorem dX4_take_12 : decode cX4_take 12 = .ok (.lload 4, 2) := by decide +kernel
theorem dX4_take_14 : decode cX4_take 14 = .ok (.lconst 1, 1) := by decide +kernel
theorem dX4_take_15 : decode cX4_take 15 = .ok (.iload_n 3, 1) := by decide +kernel
theorem dX4_take_16 : decode cX4_take 16 = .ok (.lshl, 1) := by decide +kernel
theorem dX4_take_17 : decode cX4_take 17 = .ok (.lconst 1, 1) := by decide +kernel
theorem dX4_take_18 : decode cX4_take 18 = .ok (.lsub, 1) := by decide +kernel
theorem dX4_take_19 : decode cX4_take 19 = .ok (.land, 1) := by decide +kernel
theorem dX4_take_20 : decode cX4_take 20 = .ok (.lstore 6, 2) := by decide +kernel
theorem dX4_take_22 : decode cX4_take 22 = .ok (.lload 4, 2) := by decide +kernel
theorem dX4_take_24 : decode cX4_take 24 = .ok (.iload_n 3, 1) := by decide +kernel
theorem dX4_take_25 : decode cX4_take 25 = .ok (.lushr, 1) := by decide +kernel
theorem dX4_take_26 : decode cX4_take 26 = .ok (.iconst 4, 1) := by decide +kernel
theorem dX4_take_27 : decode cX4_take 27 = .ok (.lushr, 1) := by decide +kernel
theorem dX4_take_28 : decode cX4_take 28 = .ok (.iload_n 3, 1) := by decide +kernel
theorem dX4_take_29 : decode cX4_take 29 = .ok (.lshl, 1) := by decide +kernel
theorem dX4_take_30 : decode cX4_take 30 = .ok (.lstore 8, 2) := by decide +kernel
theorem dX4_take_32 : decode cX4_take 32 = .ok (.aload_n 0, 1) := by decide +kernel
theorem dX4_take_33 : decode cX4_take 33 = .ok (.getfield 11, 3) := by decide +kernel
theorem dX4_take_36 : decode cX4_take 36 = .ok (.iload_n 1, 1) := by decide +kernel
theorem dX4_take_37 : decode cX4_take 37 = .ok (.lload 6, 2) := by decide +kernel
theorem dX4_take_39 : decode cX4_take 39 = .ok (.lload 8, 2) := by decide +kernel
theorem dX4_take_41 : decode cX4_take 41 = .ok (.lor, 1) := by decide +kernel
theorem dX4_take_42 : decode cX4_take 42 = .ok (.lastore, 1) := by decide +kernel
theorem dX4_take_43 : decode cX4_take 43 = .ok (.aload_n 0, 1) := by decide +kernel
theorem dX4_take_44 : decode cX4_take 44 = .ok (.dup, 1) := by decide +kernel
theorem dX4_take_45 : decode cX4_take 45 = .ok (.getfield 29, 3) := by decide +kernel
theorem dX4_take_48 : decode cX4_take 48 = .ok (.lconst 1, 1) := by decide +kernel
theorem dX4_take_49 : decode cX4_take 49 = .ok (.iconst 5, 1) := by decide +kernel
theorem dX4_take_50 : decode cX4_take 50 = .ok (.iload_n 1, 1) := by decide +kernel
theorem dX4_take_51 : decode cX4_take 51 = .ok (.imul, 1) := by decide +kernel
theorem dX4_take_52 : decode cX4_take 52 = .ok (.lshl, 1) := by decide +kernel
theorem dX4_take_53 : decode cX4_take 53 = .ok (.lsub, 1) := by decide +kernel
theorem dX4_take_54 : decode cX4_take 54 = .ok (.putfield 29, 3) := by decide +kernel
theorem dX4_take_57 : decode cX4_take 57 = .ok (.return_, 1) := by decide +kernel
set_option maxRecDepth 20000 in
theorem ggX4_put_X4_underWay : GoodIn wsX4_put wsX4_underWay := goodIn_r _ [7, 2, 12, 13, 14] (by decide +kernel) (by decide +kernel)
set_option maxRecDepth 20000 in
theorem gX4_put_X4_underWay : GoodIn wsX4_put (wsV RX4 51 RX4 yX4_underWay wsX4_underWay) := goodIn_app (goodIn_of _ (by decide +kernel)) ggX4_put_X4_underWay
set_option maxRecDepth 20000 in
theorem ggX4_put_X4_messageAt : GoodIn wsX4_put wsX4_messageAt := goodIn_r _ [11, 1, 12, 13, 14] (by decide +kernel) (by decide +kernel)
set_option maxRecDepth 20000 in
theorem gX4_put_X4_messageAt : GoodIn wsX4_put (wsV RX4 54 RX4 yX4_messageAt wsX4_messageAt) := goodIn_app (goodIn_of _ (by decide +kernel)) ggX4_put_X4_messageAt
theorem dX4_put_0 : decode cX4_put 0 = .ok (.aload_n 0, 1) := by decide +kernel
theorem dX4_put_1 : decode cX4_put 1 = .ok (.iload_n 1, 1) := by decide +kernel
theorem dX4_put_2 : decode cX4_put 2 = .ok (.invokevirtual 51, 3) := by decide +kernel
theorem dX4_put_5 : decode cX4_put 5 = .ok (.istore 4, 2) := by decide +kernel
theorem dX4_put_7 : decode cX4_put 7 = .ok (.iload 4, 2) := by decide +kernel
theorem dX4_put_9 : decode cX4_put 9 = .ok (.bipush 16, 2) := by decide +kernel
theorem dX4_put_11 : decode cX4_put 11 = .ok (.if_icmp .lt 4, 3) := by decide +kernel
theorem dX4_put_14 : decode cX4_put 14 = .ok (.return_, 1) := by decide +kernel
theorem dX4_put_15 : decode cX4_put 15 = .ok (.iload 4, 2) := by decide +kernel
theorem dX4_put_17 : decode cX4_put 17 = .ok (.istore 5, 2) := by decide +kernel
theorem dX4_put_19 : decode cX4_put 19 = .ok (.iload_n 3, 1) := by decide +kernel
theorem dX4_put_20 : decode cX4_put 20 = .ok (.ifCond .ne 27, 3) := by decide +kernel
theorem dX4_put_23 : decode cX4_put 23 = .ok (.iload 5, 2) := by decide +kernel
theorem dX4_put_25 : decode cX4_put 25 = .ok (.ifCond .le 22, 3) := by decide +kernel
theorem dX4_put_28 : decode cX4_put 28 = .ok (.aload_n 0, 1) := by decide +kernel
theorem dX4_put_29 : decode cX4_put 29 = .ok (.iload_n 1, 1) := by decide +kernel
theorem dX4_put_30 : decode cX4_put 30 = .ok (.iload 5, 2) := by decide +kernel
theorem dX4_put_32 : decode cX4_put 32 = .ok (.iconst 1, 1) := by decide +kernel
theorem dX4_put_33 : decode cX4_put 33 = .ok (.isub, 1) := by decide +kernel
theorem dX4_put_34 : decode cX4_put 34 = .ok (.invokevirtual 54, 3) := by decide +kernel
theorem dX4_put_37 : decode cX4_put 37 = .ok (.iload_n 2, 1) := by decide +kernel
theorem dX4_put_38 : decode cX4_put 38 = .ok (.if_icmp .le 9, 3) := by decide +kernel
theorem dX4_put_41 : decode cX4_put 41 = .ok (.iinc 5 (-1), 3) := by decide +kernel
theorem dX4_put_44 : decode cX4_put 44 = .ok (.goto (-21), 3) := by decide +kernel
theorem dX4_put_47 : decode cX4_put 47 = .ok (.iconst 4, 1) := by decide +kernel
theorem dX4_put_48 : decode cX4_put 48 = .ok (.iload 5, 2) := by decide +kernel
theorem dX4_put_50 : decode cX4_put 50 = .ok (.imul, 1) := by decide +kernel
theorem dX4_put_51 : decode cX4_put 51 = .ok (.istore 6, 2) := by decide +kernel
theorem dX4_put_53 : decode cX4_put 53 = .ok (.aload_n 0, 1) := by decide +kernel
theorem dX4_put_54 : decode cX4_put 54 = .ok (.getfield 11, 3) := by decide +kernel
theorem dX4_put_57 : decode cX4_put 57 = .ok (.iload_n 1, 1) := by decide +kernel
theorem dX4_put_58 : decode cX4_put 58 = .ok (.laload, 1) := by decide +kernel
theorem dX4_put_59 : decode cX4_put 59 = .ok (.lstore 7, 2) := by decide +kernel
theorem dX4_put_61 : decode cX4_put 61 = .ok (.lload 7, 2) := by decide +kernel
theorem dX4_put_63 : decode cX4_put 63 = .ok (.lconst 1, 1) := by decide +kernel
theorem dX4_put_64 : decode cX4_put 64 = .ok (.iload 6, 2) := by decide +kernel
theorem dX4_put_66 : decode cX4_put 66 = .ok (.lshl, 1) := by decide +kernel
theorem dX4_put_67 : decode cX4_put 67 = .ok (.lconst 1, 1) := by decide +kernel
theorem dX4_put_68 : decode cX4_put 68 = .ok (.lsub, 1) := by decide +kernel
theorem dX4_put_69 : decode cX4_put 69 = .ok (.land, 1) := by decide +kernel
theorem dX4_put_70 : decode cX4_put 70 = .ok (.lstore 9, 2) := by decide +kernel
theorem dX4_put_72 : decode cX4_put 72 = .ok (.lload 7, 2) := by decide +kernel
theorem dX4_put_74 : decode cX4_put 74 = .ok (.iload 6, 2) := by decide +kernel
theorem dX4_put_76 : decode cX4_put 76 = .ok (.lushr, 1) := by decide +kernel
theorem dX4_put_77 : decode cX4_put 77 = .ok (.iload 6, 2) := by decide +kernel
theorem dX4_put_79 : decode cX4_put 79 = .ok (.lshl, 1) := by decide +kernel
theorem dX4_put_80 : decode cX4_put 80 = .ok (.iconst 4, 1) := by decide +kernel
theorem dX4_put_81 : decode cX4_put 81 = .ok (.lshl, 1) := by decide +kernel
theorem dX4_put_82 : decode cX4_put 82 = .ok (.lstore 11, 2) := by decide +kernel
theorem dX4_put_84 : decode cX4_put 84 = .ok (.aload_n 0, 1) := by decide +kernel
theorem dX4_put_85 : decode cX4_put 85 = .ok (.getfield 11, 3) := by decide +kernel
theorem dX4_put_88 : decode cX4_put 88 = .ok (.iload_n 1, 1) := by decide +kernel
theorem dX4_put_89 : decode cX4_put 89 = .ok (.lload 9, 2) := by decide +kernel
theorem dX4_put_91 : decode cX4_put 91 = .ok (.iload_n 2, 1) := by decide +kernel
theorem dX4_put_92 : decode cX4_put 92 = .ok (.i2l, 1) := by decide +kernel
theorem dX4_put_93 : decode cX4_put 93 = .ok (.iload 6, 2) := by decide +kernel
theorem dX4_put_95 : decode cX4_put 95 = .ok (.lshl, 1) := by decide +kernel
theorem dX4_put_96 : decode cX4_put 96 = .ok (.lor, 1) := by decide +kernel
theorem dX4_put_97 : decode cX4_put 97 = .ok (.lload 11, 2) := by decide +kernel
theorem dX4_put_99 : decode cX4_put 99 = .ok (.lor, 1) := by decide +kernel
theorem dX4_put_100 : decode cX4_put 100 = .ok (.lastore, 1) := by decide +kernel
theorem dX4_put_101 : decode cX4_put 101 = .ok (.aload_n 0, 1) := by decide +kernel
theorem dX4_put_102 : decode cX4_put 102 = .ok (.dup, 1) := by decide +kernel
theorem dX4_put_103 : decode cX4_put 103 = .ok (.getfield 29, 3) := by decide +kernel
theorem dX4_put_106 : decode cX4_put 106 = .ok (.lconst 1, 1) := by decide +kernel
theorem dX4_put_107 : decode cX4_put 107 = .ok (.iconst 5, 1) := by decide +kernel
theorem dX4_put_108 : decode cX4_put 108 = .ok (.iload_n 1, 1) := by decide +kernel
theorem dX4_put_109 : decode cX4_put 109 = .ok (.imul, 1) := by decide +kernel
theorem dX4_put_110 : decode cX4_put 110 = .ok (.lshl, 1) := by decide +kernel
theorem dX4_put_111 : decode cX4_put 111 = .ok (.ladd, 1) := by decide +kernel
theorem dX4_put_112 : decode cX4_put 112 = .ok (.putfield 29, 3) := by decide +kernel
theorem dX4_put_115 : decode cX4_put 115 = .ok (.return_, 1) := by decide +kernel
set_option maxRecDepth 20000 in
theorem ggX4_pending_J13_bitCount_95d88 : GoodIn wsX4_pending wsJ13_bitCount_95d88 := goodIn_r _ [6, 7, 8, 9] (by decide +kernel) (by decide +kernel)
set_option maxRecDepth 20000 in
theorem gX4_pending_J13_bitCount_95d88 : GoodIn wsX4_pending (va_wsS RX4 60 yJ13_bitCount_95d88 wsJ13_bitCount_95d88) := goodIn_app (goodIn_of _ (by decide +kernel)) ggX4_pending_J13_bitCount_95d88
set_option maxRecDepth 20000 in
theorem ggX4_pending_X4_underWay : GoodIn wsX4_pending wsX4_underWay := goodIn_r _ [14, 15, 16, 17, 18] (by decide +kernel) (by decide +kernel)
set_option maxRecDepth 20000 in
theorem gX4_pending_X4_underWay : GoodIn wsX4_pending (wsV RX4 51 RX4 yX4_underWay wsX4_underWay) := goodIn_app (goodIn_of _ (by decide +kernel)) ggX4_pending_X4_underWay
theorem dX4_pending_0 : decode cX4_pending 0 = .ok (.iload_n 1, 1) := by decide +kernel
theorem dX4_pending_1 : decode cX4_pending 1 = .ok (.aload_n 0, 1) := by decide +kernel
theorem dX4_pending_2 : decode cX4_pending 2 = .ok (.getfield 15, 3) := by decide +kernel
theorem dX4_pending_5 : decode cX4_pending 5 = .ok (.bipush 45, 2) := by decide +kernel
theorem dX4_pending_7 : decode cX4_pending 7 = .ok (.lushr, 1) := by decide +kernel
theorem dX4_pending_8 : decode cX4_pending 8 = .ok (.ldc2_w 58, 3) := by decide +kernel
theorem dX4_pending_11 : decode cX4_pending 11 = .ok (.land, 1) := by decide +kernel
theorem dX4_pending_12 : decode cX4_pending 12 = .ok (.invokestatic 60, 3) := by decide +kernel
theorem dX4_pending_15 : decode cX4_pending 15 = .ok (.isub, 1) := by decide +kernel
theorem dX4_pending_16 : decode cX4_pending 16 = .ok (.istore_n 2, 1) := by decide +kernel
theorem dX4_pending_17 : decode cX4_pending 17 = .ok (.iconst 0, 1) := by decide +kernel
theorem dX4_pending_18 : decode cX4_pending 18 = .ok (.istore_n 3, 1) := by decide +kernel
theorem dX4_pending_19 : decode cX4_pending 19 = .ok (.iload_n 3, 1) := by decide +kernel
theorem dX4_pending_20 : decode cX4_pending 20 = .ok (.bipush 8, 2) := by decide +kernel
theorem dX4_pending_22 : decode cX4_pending 22 = .ok (.if_icmp .ge 17, 3) := by decide +kernel
theorem dX4_pending_25 : decode cX4_pending 25 = .ok (.iload_n 2, 1) := by decide +kernel
theorem dX4_pending_26 : decode cX4_pending 26 = .ok (.aload_n 0, 1) := by decide +kernel
theorem dX4_pending_27 : decode cX4_pending 27 = .ok (.iload_n 3, 1) := by decide +kernel
theorem dX4_pending_28 : decode cX4_pending 28 = .ok (.invokevirtual 51, 3) := by decide +kernel
theorem dX4_pending_31 : decode cX4_pending 31 = .ok (.iadd, 1) := by decide +kernel
theorem dX4_pending_32 : decode cX4_pending 32 = .ok (.istore_n 2, 1) := by decide +kernel
theorem dX4_pending_33 : decode cX4_pending 33 = .ok (.iinc 3 1, 3) := by decide +kernel
theorem dX4_pending_36 : decode cX4_pending 36 = .ok (.goto (-17), 3) := by decide +kernel
theorem dX4_pending_39 : decode cX4_pending 39 = .ok (.iload_n 2, 1) := by decide +kernel
theorem dX4_pending_40 : decode cX4_pending 40 = .ok (.ireturn, 1) := by decide +kernel
theorem dX4_hash_0 : decode cX4_hash 0 = .ok (.aload_n 0, 1) := by decide +kernel
theorem dX4_hash_1 : decode cX4_hash 1 = .ok (.getfield 15, 3) := by decide +kernel
theorem dX4_hash_4 : decode cX4_hash 4 = .ok (.aload_n 0, 1) := by decide +kernel
theorem dX4_hash_5 : decode cX4_hash 5 = .ok (.getfield 29, 3) := by decide +kernel
theorem dX4_hash_8 : decode cX4_hash 8 = .ok (.ldc2_w 66, 3) := by decide +kernel
theorem dX4_hash_11 : decode cX4_hash 11 = .ok (.lmul, 1) := by decide +kernel
theorem dX4_hash_12 : decode cX4_hash 12 = .ok (.lxor, 1) := by decide +kernel
theorem dX4_hash_13 : decode cX4_hash 13 = .ok (.ldc2_w 66, 3) := by decide +kernel
theorem dX4_hash_16 : decode cX4_hash 16 = .ok (.lmul, 1) := by decide +kernel
theorem dX4_hash_17 : decode cX4_hash 17 = .ok (.lstore_n 1, 1) := by decide +kernel
theorem dX4_hash_18 : decode cX4_hash 18 = .ok (.iconst 0, 1) := by decide +kernel
theorem dX4_hash_19 : decode cX4_hash 19 = .ok (.istore_n 3, 1) := by decide +kernel
theorem dX4_hash_20 : decode cX4_hash 20 = .ok (.iload_n 3, 1) := by decide +kernel
theorem dX4_hash_21 : decode cX4_hash 21 = .ok (.bipush 8, 2) := by decide +kernel
theorem dX4_hash_23 : decode cX4_hash 23 = .ok (.if_icmp .ge 27, 3) := by decide +kernel
theorem dX4_hash_26 : decode cX4_hash 26 = .ok (.lload_n 1, 1) := by decide +kernel
theorem dX4_hash_27 : decode cX4_hash 27 = .ok (.lload_n 1, 1) := by decide +kernel
theorem dX4_hash_28 : decode cX4_hash 28 = .ok (.bipush 29, 2) := by decide +kernel
theorem dX4_hash_30 : decode cX4_hash 30 = .ok (.lushr, 1) := by decide +kernel
theorem dX4_hash_31 : decode cX4_hash 31 = .ok (.lxor, 1) := by decide +kernel
theorem dX4_hash_32 : decode cX4_hash 32 = .ok (.aload_n 0, 1) := by decide +kernel
theorem dX4_hash_33 : decode cX4_hash 33 = .ok (.getfield 11, 3) := by decide +kernel
theorem dX4_hash_36 : decode cX4_hash 36 = .ok (.iload_n 3, 1) := by decide +kernel
theorem dX4_hash_37 : decode cX4_hash 37 = .ok (.laload, 1) := by decide +kernel
theorem dX4_hash_38 : decode cX4_hash 38 = .ok (.lxor, 1) := by decide +kernel
theorem dX4_hash_39 : decode cX4_hash 39 = .ok (.ldc2_w 66, 3) := by decide +kernel
theorem dX4_hash_42 : decode cX4_hash 42 = .ok (.lmul, 1) := by decide +kernel
theorem dX4_hash_43 : decode cX4_hash 43 = .ok (.lstore_n 1, 1) := by decide +kernel
theorem dX4_hash_44 : decode cX4_hash 44 = .ok (.iinc 3 1, 3) := by decide +kernel
theorem dX4_hash_47 : decode cX4_hash 47 = .ok (.goto (-27), 3) := by decide +kernel
theorem dX4_hash_50 : decode cX4_hash 50 = .ok (.lload_n 1, 1) := by decide +kernel
theorem dX4_hash_51 : decode cX4_hash 51 = .ok (.bipush 33, 2) := by decide +kernel
theorem dX4_hash_53 : decode cX4_hash 53 = .ok (.lushr, 1) := by decide +kernel
theorem dX4_hash_54 : decode cX4_hash 54 = .ok (.l2i, 1) := by decide +kernel
theorem dX4_hash_55 : decode cX4_hash 55 = .ok (.ireturn, 1) := by decide +kernel
theorem dX5_init_0 : decode cX5_init 0 = .ok (.aload_n 0, 1) := by decide +kernel
theorem dX5_init_1 : decode cX5_init 1 = .ok (.invokespecial 3, 3) := by decide +kernel
theorem dX5_init_4 : decode cX5_init 4 = .ok (.aload_n 0, 1) := by decide +kernel
theorem dX5_init_5 : decode cX5_init 5 = .ok (.sipush 600, 3) := by decide +kernel
theorem dX5_init_8 : decode cX5_init 8 = .ok (.newarray .long, 2) := by decide +kernel
theorem dX5_init_10 : decode cX5_init 10 = .ok (.putfield 9, 3) := by decide +kernel
theorem dX5_init_13 : decode cX5_init 13 = .ok (.aload_n 0, 1) := by decide +kernel
theorem dX5_init_14 : decode cX5_init 14 = .ok (.sipush 600, 3) := by decide +kernel
theorem dX5_init_17 : decode cX5_init 17 = .ok (.newarray .long, 2) := by decide +kernel
theorem dX5_init_19 : decode cX5_init 19 = .ok (.putfield 15, 3) := by decide +kernel
theorem dX5_init_22 : decode cX5_init 22 = .ok (.aload_n 0, 1) := by decide +kernel
theorem dX5_init_23 : decode cX5_init 23 = .ok (.sipush 4800, 3) := by decide +kernel
theorem dX5_init_26 : decode cX5_init 26 = .ok (.newarray .long, 2) := by decide +kernel
theorem dX5_init_28 : decode cX5_init 28 = .ok (.putfield 18, 3) := by decide +kernel
theorem dX5_init_31 : decode cX5_init 31 = .ok (.aload_n 0, 1) := by decide +kernel
theorem dX5_init_32 : decode cX5_init 32 = .ok (.sipush 1024, 3) := by decide +kernel
theorem dX5_init_35 : decode cX5_init 35 = .ok (.newarray .int, 2) := by decide +kernel
theorem dX5_init_37 : decode cX5_init 37 = .ok (.putfield 21, 3) := by decide +kernel
theorem dX5_init_40 : decode cX5_init 40 = .ok (.return_, 1) := by decide +kernel
set_option maxRecDepth 20000 in
theorem ggX5_clear_J7_fill_53178 : GoodIn wsX5_clear wsJ7_fill_53178 := goodIn_r _ [6] (by decide +kernel) (by decide +kernel)
set_option maxRecDepth 20000 in
theorem gX5_clear_J7_fill_53178 : GoodIn wsX5_clear (va_wsS RX5 29 yJ7_fill_53178 wsJ7_fill_53178) := goodIn_app (goodIn_of _ (by decide +kernel)) ggX5_clear_J7_fill_53178
theorem dX5_clear_0 : decode cX5_clear 0 = .ok (.aload_n 0, 1) := by decide +kernel
theorem dX5_clear_1 : decode cX5_clear 1 = .ok (.iconst 0, 1) := by decide +kernel
theorem dX5_clear_2 : decode cX5_clear 2 = .ok (.putfield 25, 3) := by decide +kernel
theorem dX5_clear_5 : decode cX5_clear 5 = .ok (.aload_n 0, 1) := by decide +kernel
theorem dX5_clear_6 : decode cX5_clear 6 = .ok (.getfield 21, 3) := by decide +kernel
theorem dX5_clear_9 : decode cX5_clear 9 = .ok (.iconst 0, 1) := by decide +kernel
theorem dX5_clear_10 : decode cX5_clear 10 = .ok (.invokestatic 29, 3) := by decide +kernel
theorem dX5_clear_13 : decode cX5_clear 13 = .ok (.return_, 1) := by decide +kernel
set_option maxRecDepth 20000 in
theorem ggX5_freeSlot_X4_hash : GoodIn wsX5_freeSlot wsX4_hash := goodIn_r _ [6, 7, 8, 9, 10, 27, 28, 29] (by decide +kernel) (by decide +kernel)
set_option maxRecDepth 20000 in
theorem gX5_freeSlot_X4_hash : GoodIn wsX5_freeSlot (wsV RX5 35 RX4 yX4_hash wsX4_hash) := goodIn_app (goodIn_of _ (by decide +kernel)) ggX5_freeSlot_X4_hash
set_option maxRecDepth 20000 in
theorem ggX5_freeSlot_X5_isLike : GoodIn wsX5_freeSlot wsX5_isLike := goodIn_r _ [15, 16, 17, 18, 19, 20, 21, 22, 23, 24, 25, 26, 27, 28, 29] (by decide +kernel) (by decide +kernel)
set_option maxRecDepth 20000 in
theorem gX5_freeSlot_X5_isLike : GoodIn wsX5_freeSlot (wsV RX5 41 RX5 yX5_isLike wsX5_isLike) := goodIn_app (goodIn_of _ (by decide +kernel)) ggX5_freeSlot_X5_isLike
theorem dX5_freeSlot_0 : decode cX5_freeSlot 0 = .ok (.aload_n 1, 1) := by decide +kernel
theorem dX5_freeSlot_1 : decode cX5_freeSlot 1 = .ok (.invokevirtual 35, 3) := by decide +kernel
theorem dX5_freeSlot_4 : decode cX5_freeSlot 4 = .ok (.istore_n 2, 1) := by decide +kernel
theorem dX5_freeSlot_5 : decode cX5_freeSlot 5 = .ok (.iconst 0, 1) := by decide +kernel
theorem dX5_freeSlot_6 : decode cX5_freeSlot 6 = .ok (.istore_n 3, 1) := by decide +kernel
theorem dX5_freeSlot_7 : decode cX5_freeSlot 7 = .ok (.iload_n 3, 1) := by decide +kernel
theorem dX5_freeSlot_8 : decode cX5_freeSlot 8 = .ok (.sipush 1024, 3) := by decide +kernel
theorem dX5_freeSlot_11 : decode cX5_freeSlot 11 = .ok (.if_icmp .ge 50, 3) := by decide +kernel
theorem dX5_freeSlot_14 : decode cX5_freeSlot 14 = .ok (.iload_n 2, 1) := by decide +kernel
theorem dX5_freeSlot_15 : decode cX5_freeSlot 15 = .ok (.iload_n 3, 1) := by decide +kernel
theorem dX5_freeSlot_16 : decode cX5_freeSlot 16 = .ok (.iadd, 1) := by decide +kernel
theorem dX5_freeSlot_17 : decode cX5_freeSlot 17 = .ok (.sipush 1023, 3) := by decide +kernel
theorem dX5_freeSlot_20 : decode cX5_freeSlot 20 = .ok (.iand, 1) := by decide +kernel
theorem dX5_freeSlot_21 : decode cX5_freeSlot 21 = .ok (.istore 4, 2) := by decide +kernel
theorem dX5_freeSlot_23 : decode cX5_freeSlot 23 = .ok (.aload_n 0, 1) := by decide +kernel
theorem dX5_freeSlot_24 : decode cX5_freeSlot 24 = .ok (.getfield 21, 3) := by decide +kernel
theorem dX5_freeSlot_27 : decode cX5_freeSlot 27 = .ok (.iload 4, 2) := by decide +kernel
theorem dX5_freeSlot_29 : decode cX5_freeSlot 29 = .ok (.iaload, 1) := by decide +kernel
theorem dX5_freeSlot_30 : decode cX5_freeSlot 30 = .ok (.ifCond .ne 6, 3) := by decide +kernel
theorem dX5_freeSlot_33 : decode cX5_freeSlot 33 = .ok (.iload 4, 2) := by decide +kernel
theorem dX5_freeSlot_35 : decode cX5_freeSlot 35 = .ok (.ireturn, 1) := by decide +kernel
theorem dX5_freeSlot_36 : decode cX5_freeSlot 36 = .ok (.aload_n 0, 1) := by decide +kernel
theorem dX5_freeSlot_37 : decode cX5_freeSlot 37 = .ok (.aload_n 0, 1) := by decide +kernel
theorem dX5_freeSlot_38 : decode cX5_freeSlot 38 = .ok (.getfield 21, 3) := by decide +kernel
theorem dX5_freeSlot_41 : decode cX5_freeSlot 41 = .ok (.iload 4, 2) := by decide +kernel
theorem dX5_freeSlot_43 : decode cX5_freeSlot 43 = .ok (.iaload, 1) := by decide +kernel
theorem dX5_freeSlot_44 : decode cX5_freeSlot 44 = .ok (.iconst 1, 1) := by decide +kernel
theorem dX5_freeSlot_45 : decode cX5_freeSlot 45 = .ok (.isub, 1) := by decide +kernel
theorem dX5_freeSlot_46 : decode cX5_freeSlot 46 = .ok (.aload_n 1, 1) := by decide +kernel
theorem dX5_freeSlot_47 : decode cX5_freeSlot 47 = .ok (.invokevirtual 41, 3) := by decide +kernel
theorem dX5_freeSlot_50 : decode cX5_freeSlot 50 = .ok (.ifCond .eq 5, 3) := by decide +kernel
theorem dX5_freeSlot_53 : decode cX5_freeSlot 53 = .ok (.iconst (-1), 1) := by decide +kernel
theorem dX5_freeSlot_54 : decode cX5_freeSlot 54 = .ok (.ireturn, 1) := by decide +kernel
theorem dX5_freeSlot_55 : decode cX5_freeSlot 55 = .ok (.iinc 3 1, 3) := by decide +kernel
theorem dX5_freeSlot_58 : decode cX5_freeSlot 58 = .ok (.goto (-51), 3) := by decide +kernel
theorem dX5_freeSlot_61 : decode cX5_freeSlot 61 = .ok (.iconst (-1), 1) := by decide +kernel
theorem dX5_freeSlot_62 : decode cX5_freeSlot 62 = .ok (.ireturn, 1) := by decide +kernel
theorem dX5_isLike_0 : decode cX5_isLike 0 = .ok (.aload_n 0, 1) := by decide +kernel
theorem dX5_isLike_1 : decode cX5_isLike 1 = .ok (.getfield 9, 3) := by decide +kernel
theorem dX5_isLike_4 : decode cX5_isLike 4 = .ok (.iload_n 1, 1) := by decide +kernel
theorem dX5_isLike_5 : decode cX5_isLike 5 = .ok (.laload, 1) := by decide +kernel
theorem dX5_isLike_6 : decode cX5_isLike 6 = .ok (.aload_n 2, 1) := by decide +kernel
theorem dX5_isLike_7 : decode cX5_isLike 7 = .ok (.getfield 45, 3) := by decide +kernel
theorem dX5_isLike_10 : decode cX5_isLike 10 = .ok (.lcmp, 1) := by decide +kernel
theorem dX5_isLike_11 : decode cX5_isLike 11 = .ok (.ifCond .ne 17, 3) := by decide +kernel
theorem dX5_isLike_14 : decode cX5_isLike 14 = .ok (.aload_n 0, 1) := by decide +kernel
theorem dX5_isLike_15 : decode cX5_isLike 15 = .ok (.getfield 15, 3) := by decide +kernel
theorem dX5_isLike_18 : decode cX5_isLike 18 = .ok (.iload_n 1, 1) := by decide +kernel
theorem dX5_isLike_19 : decode cX5_isLike 19 = .ok (.laload, 1) := by decide +kernel
theorem dX5_isLike_20 : decode cX5_isLike 20 = .ok (.aload_n 2, 1) := by decide +kernel
theorem dX5_isLike_21 : decode cX5_isLike 21 = .ok (.getfield 49, 3) := by decide +kernel
theorem dX5_isLike_24 : decode cX5_isLike 24 = .ok (.lcmp, 1) := by decide +kernel
theorem dX5_isLike_25 : decode cX5_isLike 25 = .ok (.ifCond .eq 5, 3) := by decide +kernel
theorem dX5_isLike_28 : decode cX5_isLike 28 = .ok (.iconst 0, 1) := by decide +kernel
theorem dX5_isLike_29 : decode cX5_isLike 29 = .ok (.ireturn, 1) := by decide +kernel
theorem dX5_isLike_30 : decode cX5_isLike 30 = .ok (.iconst 0, 1) := by decide +kernel
theorem dX5_isLike_31 : decode cX5_isLike 31 = .ok (.istore_n 3, 1) := by decide +kernel
theorem dX5_isLike_32 : decode cX5_isLike 32 = .ok (.iload_n 3, 1) := by decide +kernel
theorem dX5_isLike_33 : decode cX5_isLike 33 = .ok (.bipush 8, 2) := by decide +kernel
theorem dX5_isLike_35 : decode cX5_isLike 35 = .ok (.if_icmp .ge 32, 3) := by decide +kernel
theorem dX5_isLike_38 : decode cX5_isLike 38 = .ok (.aload_n 0, 1) := by decide +kernel
theorem dX5_isLike_39 : decode cX5_isLike 39 = .ok (.getfield 18, 3) := by decide +kernel
theorem dX5_isLike_42 : decode cX5_isLike 42 = .ok (.iload_n 1, 1) := by decide +kernel
theorem dX5_isLike_43 : decode cX5_isLike 43 = .ok (.bipush 8, 2) := by decide +kernel
theorem dX5_isLike_45 : decode cX5_isLike 45 = .ok (.imul, 1) := by decide +kernel
theorem dX5_isLike_46 : decode cX5_isLike 46 = .ok (.iload_n 3, 1) := by decide +kernel
theorem dX5_isLike_47 : decode cX5_isLike 47 = .ok (.iadd, 1) := by decide +kernel
theorem dX5_isLike_48 : decode cX5_isLike 48 = .ok (.laload, 1) := by decide +kernel
theorem dX5_isLike_49 : decode cX5_isLike 49 = .ok (.aload_n 2, 1) := by decide +kernel
theorem dX5_isLike_50 : decode cX5_isLike 50 = .ok (.getfield 51, 3) := by decide +kernel
theorem dX5_isLike_53 : decode cX5_isLike 53 = .ok (.iload_n 3, 1) := by decide +kernel
theorem dX5_isLike_54 : decode cX5_isLike 54 = .ok (.laload, 1) := by decide +kernel
theorem dX5_isLike_55 : decode cX5_isLike 55 = .ok (.lcmp, 1) := by decide +kernel
theorem dX5_isLike_56 : decode cX5_isLike 56 = .ok (.ifCond .eq 5, 3) := by decide +kernel
theorem dX5_isLike_59 : decode cX5_isLike 59 = .ok (.iconst 0, 1) := by decide +kernel
theorem dX5_isLike_60 : decode cX5_isLike 60 = .ok (.ireturn, 1) := by decide +kernel
theorem dX5_isLike_61 : decode cX5_isLike 61 = .ok (.iinc 3 1, 3) := by decide +kernel
theorem dX5_isLike_64 : decode cX5_isLike 64 = .ok (.goto (-32), 3) := by decide +kernel
theorem dX5_isLike_67 : decode cX5_isLike 67 = .ok (.iconst 1, 1) := by decide +kernel
theorem dX5_isLike_68 : decode cX5_isLike 68 = .ok (.ireturn, 1) := by decide +kernel
theorem dX5_add_0 : decode cX5_add 0 = .ok (.aload_n 0, 1) := by decide +kernel
theorem dX5_add_1 : decode cX5_add 1 = .ok (.getfield 25, 3) := by decide +kernel
theorem dX5_add_4 : decode cX5_add 4 = .ok (.sipush 600, 3) := by decide +kernel
theorem dX5_add_7 : decode cX5_add 7 = .ok (.if_icmp .lt 4, 3) := by decide +kernel
theorem dX5_add_10 : decode cX5_add 10 = .ok (.return_, 1) := by decide +kernel
theorem dX5_add_11 : decode cX5_add 11 = .ok (.aload_n 0, 1) := by decide +kernel
theorem dX5_add_12 : decode cX5_add 12 = .ok (.getfield 9, 3) := by decide +kernel
theorem dX5_add_15 : decode cX5_add 15 = .ok (.aload_n 0, 1) := by decide +kernel
theorem dX5_add_16 : decode cX5_add 16 = .ok (.getfield 25, 3) := by decide +kernel
theorem dX5_add_19 : decode cX5_add 19 = .ok (.aload_n 1, 1) := by decide +kernel
theorem dX5_add_20 : decode cX5_add 20 = .ok (.getfield 45, 3) := by decide +kernel
theorem dX5_add_23 : decode cX5_add 23 = .ok (.lastore, 1) := by decide +kernel
theorem dX5_add_24 : decode cX5_add 24 = .ok (.aload_n 0, 1) := by decide +kernel
theorem dX5_add_25 : decode cX5_add 25 = .ok (.getfield 15, 3) := by decide +kernel
theorem dX5_add_28 : decode cX5_add 28 = .ok (.aload_n 0, 1) := by decide +kernel
theorem dX5_add_29 : decode cX5_add 29 = .ok (.getfield 25, 3) := by decide +kernel
theorem dX5_add_32 : decode cX5_add 32 = .ok (.aload_n 1, 1) := by decide +kernel
theorem dX5_add_33 : decode cX5_add 33 = .ok (.getfield 49, 3) := by decide +kernel
theorem dX5_add_36 : decode cX5_add 36 = .ok (.lastore, 1) := by decide +kernel
theorem dX5_add_37 : decode cX5_add 37 = .ok (.aload_n 1, 1) := by decide +kernel
theorem dX5_add_38 : decode cX5_add 38 = .ok (.getfield 51, 3) := by decide +kernel
theorem dX5_add_41 : decode cX5_add 41 = .ok (.iconst 0, 1) := by decide +kernel
theorem dX5_add_42 : decode cX5_add 42 = .ok (.aload_n 0, 1) := by decide +kernel
theorem dX5_add_43 : decode cX5_add 43 = .ok (.getfield 18, 3) := by decide +kernel
theorem dX5_add_46 : decode cX5_add 46 = .ok (.aload_n 0, 1) := by decide +kernel
theorem dX5_add_47 : decode cX5_add 47 = .ok (.getfield 25, 3) := by decide +kernel
theorem dX5_add_50 : decode cX5_add 50 = .ok (.bipush 8, 2) := by decide +kernel
theorem dX5_add_52 : decode cX5_add 52 = .ok (.imul, 1) := by decide +kernel
theorem dX5_add_53 : decode cX5_add 53 = .ok (.bipush 8, 2) := by decide +kernel
theorem dX5_add_55 : decode cX5_add 55 = .ok (.invokestatic 52, 3) := by decide +kernel
theorem dX5_add_58 : decode cX5_add 58 = .ok (.aload_n 0, 1) := by decide +kernel
theorem dX5_add_59 : decode cX5_add 59 = .ok (.dup, 1) := by decide +kernel
theorem dX5_add_60 : decode cX5_add 60 = .ok (.getfield 25, 3) := by decide +kernel
theorem dX5_add_63 : decode cX5_add 63 = .ok (.iconst 1, 1) := by decide +kernel
theorem dX5_add_64 : decode cX5_add 64 = .ok (.iadd, 1) := by decide +kernel
theorem dX5_add_65 : decode cX5_add 65 = .ok (.putfield 25, 3) := by decide +kernel
theorem dX5_add_68 : decode cX5_add 68 = .ok (.aload_n 0, 1) := by decide +kernel
theorem dX5_add_69 : decode cX5_add 69 = .ok (.getfield 21, 3) := by decide +kernel
theorem dX5_add_72 : decode cX5_add 72 = .ok (.iload_n 2, 1) := by decide +kernel
theorem dX5_add_73 : decode cX5_add 73 = .ok (.aload_n 0, 1) := by decide +kernel
theorem dX5_add_74 : decode cX5_add 74 = .ok (.getfield 25, 3) := by decide +kernel
theorem dX5_add_77 : decode cX5_add 77 = .ok (.iastore, 1) := by decide +kernel
theorem dX5_add_78 : decode cX5_add 78 = .ok (.return_, 1) := by decide +kernel
theorem dX5_load_0 : decode cX5_load 0 = .ok (.aload_n 2, 1) := by decide +kernel
theorem dX5_load_1 : decode cX5_load 1 = .ok (.aload_n 0, 1) := by decide +kernel
theorem dX5_load_2 : decode cX5_load 2 = .ok (.getfield 9, 3) := by decide +kernel
theorem dX5_load_5 : decode cX5_load 5 = .ok (.iload_n 1, 1) := by decide +kernel
theorem dX5_load_6 : decode cX5_load 6 = .ok (.laload, 1) := by decide +kernel
theorem dX5_load_7 : decode cX5_load 7 = .ok (.putfield 45, 3) := by decide +kernel
theorem dX5_load_10 : decode cX5_load 10 = .ok (.aload_n 2, 1) := by decide +kernel
theorem dX5_load_11 : decode cX5_load 11 = .ok (.aload_n 0, 1) := by decide +kernel
theorem dX5_load_12 : decode cX5_load 12 = .ok (.getfield 15, 3) := by decide +kernel
theorem dX5_load_15 : decode cX5_load 15 = .ok (.iload_n 1, 1) := by decide +kernel
theorem dX5_load_16 : decode cX5_load 16 = .ok (.laload, 1) := by decide +kernel
theorem dX5_load_17 : decode cX5_load 17 = .ok (.putfield 49, 3) := by decide +kernel
theorem dX5_load_20 : decode cX5_load 20 = .ok (.aload_n 0, 1) := by decide +kernel
theorem dX5_load_21 : decode cX5_load 21 = .ok (.getfield 18, 3) := by decide +kernel
theorem dX5_load_24 : decode cX5_load 24 = .ok (.iload_n 1, 1) := by decide +kernel
theorem dX5_load_25 : decode cX5_load 25 = .ok (.bipush 8, 2) := by decide +kernel
theorem dX5_load_27 : decode cX5_load 27 = .ok (.imul, 1) := by decide +kernel
theorem dX5_load_28 : decode cX5_load 28 = .ok (.aload_n 2, 1) := by decide +kernel
theorem dX5_load_29 : decode cX5_load 29 = .ok (.getfield 51, 3) := by decide +kernel
theorem dX5_load_32 : decode cX5_load 32 = .ok (.iconst 0, 1) := by decide +kernel
theorem dX5_load_33 : decode cX5_load 33 = .ok (.bipush 8, 2) := by decide +kernel
theorem dX5_load_35 : decode cX5_load 35 = .ok (.invokestatic 52, 3) := by decide +kernel
theorem dX5_load_38 : decode cX5_load 38 = .ok (.return_, 1) := by decide +kernel
theorem dX6_of_0 : decode cX6_of 0 = .ok (.iload_n 0, 1) := by decide +kernel
theorem dX6_of_1 : decode cX6_of 1 = .ok (.iload_n 1, 1) := by decide +kernel
theorem dX6_of_2 : decode cX6_of 2 = .ok (.bipush 8, 2) := by decide +kernel
theorem dX6_of_4 : decode cX6_of 4 = .ok (.ishl, 1) := by decide +kernel
theorem dX6_of_5 : decode cX6_of 5 = .ok (.ior, 1) := by decide +kernel
theorem dX6_of_6 : decode cX6_of 6 = .ok (.iload_n 2, 1) := by decide +kernel
theorem dX6_of_7 : decode cX6_of 7 = .ok (.bipush 12, 2) := by decide +kernel
theorem dX6_of_9 : decode cX6_of 9 = .ok (.ishl, 1) := by decide +kernel
theorem dX6_of_10 : decode cX6_of 10 = .ok (.ior, 1) := by decide +kernel
theorem dX6_of_11 : decode cX6_of 11 = .ok (.ireturn, 1) := by decide +kernel
theorem dX6_source_0 : decode cX6_source 0 = .ok (.iload_n 0, 1) := by decide +kernel
theorem dX6_source_1 : decode cX6_source 1 = .ok (.sipush 255, 3) := by decide +kernel
theorem dX6_source_4 : decode cX6_source 4 = .ok (.iand, 1) := by decide +kernel
theorem dX6_source_5 : decode cX6_source 5 = .ok (.ireturn, 1) := by decide +kernel
theorem dX6_message_0 : decode cX6_message 0 = .ok (.iload_n 0, 1) := by decide +kernel
theorem dX6_message_1 : decode cX6_message 1 = .ok (.bipush 8, 2) := by decide +kernel
theorem dX6_message_3 : decode cX6_message 3 = .ok (.iushr, 1) := by decide +kernel
theorem dX6_message_4 : decode cX6_message 4 = .ok (.bipush 15, 2) := by decide +kernel
theorem dX6_message_6 : decode cX6_message 6 = .ok (.iand, 1) := by decide +kernel
theorem dX6_message_7 : decode cX6_message 7 = .ok (.ireturn, 1) := by decide +kernel
theorem dX6_doubled_0 : decode cX6_doubled 0 = .ok (.iload_n 0, 1) := by decide +kernel
theorem dX6_doubled_1 : decode cX6_doubled 1 = .ok (.bipush 12, 2) := by decide +kernel
theorem dX6_doubled_3 : decode cX6_doubled 3 = .ok (.iushr, 1) := by decide +kernel
theorem dX6_doubled_4 : decode cX6_doubled 4 = .ok (.iconst 1, 1) := by decide +kernel
theorem dX6_doubled_5 : decode cX6_doubled 5 = .ok (.iand, 1) := by decide +kernel
theorem dX6_doubled_6 : decode cX6_doubled 6 = .ok (.ireturn, 1) := by decide +kernel
set_option maxRecDepth 20000 in
theorem ggX7_init_X1_init : GoodIn wsX7_init wsX1_init := goodIn_r _ [22, 23, 2, 3, 24, 25, 26, 27, 28, 29, 30, 71, 72, 73, 74, 75, 76, 77, 78, 79] (by decide +kernel) (by decide +kernel)
set_option maxRecDepth 20000 in
theorem gX7_init_X1_init_n9 : GoodIn wsX7_init (wsX1_init) := ggX7_init_X1_init
set_option maxRecDepth 20000 in
theorem ggX7_init_X2_init : GoodIn wsX7_init wsX2_init := goodIn_r _ [32, 33, 2, 3, 24, 34, 35, 85, 86] (by decide +kernel) (by decide +kernel)
set_option maxRecDepth 20000 in
theorem gX7_init_X2_init_n18 : GoodIn wsX7_init (wsX2_init) := ggX7_init_X2_init
set_option maxRecDepth 20000 in
theorem ggX7_init_X0_init : GoodIn wsX7_init wsX0_init := goodIn_r _ [37, 38, 2, 3, 24, 39, 40, 41, 42, 87, 88, 89, 90, 91, 92, 93, 94, 95, 96] (by decide +kernel) (by decide +kernel)
set_option maxRecDepth 20000 in
theorem gX7_init_X0_init_n25 : GoodIn wsX7_init (wsX0_init) := ggX7_init_X0_init
set_option maxRecDepth 20000 in
theorem ggX7_init_X3_init : GoodIn wsX7_init wsX3_init := goodIn_r _ [45, 46, 2, 3, 47, 48, 49, 50, 51, 52, 53, 54, 55, 56, 57, 58, 59, 60, 61, 62, 63, 64, 65, 24, 66, 67, 68, 69, 70, 106, 107, 108, 109, 110, 97, 98, 99, 100, 101, 102, 103, 104, 105, 111, 112, 113] (by decide +kernel) (by decide +kernel)
set_option maxRecDepth 20000 in
theorem gX7_init_X3_init : GoodIn wsX7_init (wsX3_init) := ggX7_init_X3_init
theorem dX7_init_0 : decode cX7_init 0 = .ok (.aload_n 0, 1) := by decide +kernel
theorem dX7_init_1 : decode cX7_init 1 = .ok (.invokespecial 1, 3) := by decide +kernel
theorem dX7_init_4 : decode cX7_init 4 = .ok (.aload_n 0, 1) := by decide +kernel
theorem dX7_init_5 : decode cX7_init 5 = .ok (.new 7, 3) := by decide +kernel
theorem dX7_init_8 : decode cX7_init 8 = .ok (.dup, 1) := by decide +kernel
theorem dX7_init_9 : decode cX7_init 9 = .ok (.invokespecial 9, 3) := by decide +kernel
theorem dX7_init_12 : decode cX7_init 12 = .ok (.putfield 10, 3) := by decide +kernel
theorem dX7_init_15 : decode cX7_init 15 = .ok (.aload_n 0, 1) := by decide +kernel
theorem dX7_init_16 : decode cX7_init 16 = .ok (.new 16, 3) := by decide +kernel
theorem dX7_init_19 : decode cX7_init 19 = .ok (.dup, 1) := by decide +kernel
theorem dX7_init_20 : decode cX7_init 20 = .ok (.invokespecial 18, 3) := by decide +kernel
theorem dX7_init_23 : decode cX7_init 23 = .ok (.putfield 19, 3) := by decide +kernel
theorem dX7_init_26 : decode cX7_init 26 = .ok (.aload_n 0, 1) := by decide +kernel
theorem dX7_init_27 : decode cX7_init 27 = .ok (.new 23, 3) := by decide +kernel
theorem dX7_init_30 : decode cX7_init 30 = .ok (.dup, 1) := by decide +kernel
theorem dX7_init_31 : decode cX7_init 31 = .ok (.invokespecial 25, 3) := by decide +kernel
theorem dX7_init_34 : decode cX7_init 34 = .ok (.putfield 26, 3) := by decide +kernel
theorem dX7_init_37 : decode cX7_init 37 = .ok (.aload_n 0, 1) := by decide +kernel
theorem dX7_init_38 : decode cX7_init 38 = .ok (.new 23, 3) := by decide +kernel
theorem dX7_init_41 : decode cX7_init 41 = .ok (.dup, 1) := by decide +kernel
theorem dX7_init_42 : decode cX7_init 42 = .ok (.invokespecial 25, 3) := by decide +kernel
theorem dX7_init_45 : decode cX7_init 45 = .ok (.putfield 30, 3) := by decide +kernel
theorem dX7_init_48 : decode cX7_init 48 = .ok (.aload_n 0, 1) := by decide +kernel
theorem dX7_init_49 : decode cX7_init 49 = .ok (.new 33, 3) := by decide +kernel
theorem dX7_init_52 : decode cX7_init 52 = .ok (.dup, 1) := by decide +kernel
theorem dX7_init_53 : decode cX7_init 53 = .ok (.aload_n 0, 1) := by decide +kernel
theorem dX7_init_54 : decode cX7_init 54 = .ok (.getfield 10, 3) := by decide +kernel
theorem dX7_init_57 : decode cX7_init 57 = .ok (.aload_n 0, 1) := by decide +kernel
theorem dX7_init_58 : decode cX7_init 58 = .ok (.getfield 19, 3) := by decide +kernel
theorem dX7_init_61 : decode cX7_init 61 = .ok (.aload_n 0, 1) := by decide +kernel
theorem dX7_init_62 : decode cX7_init 62 = .ok (.getfield 30, 3) := by decide +kernel
theorem dX7_init_65 : decode cX7_init 65 = .ok (.invokespecial 35, 3) := by decide +kernel
theorem dX7_init_68 : decode cX7_init 68 = .ok (.putfield 38, 3) := by decide +kernel
theorem dX7_init_71 : decode cX7_init 71 = .ok (.return_, 1) := by decide +kernel
set_option maxRecDepth 20000 in
theorem ggX7_vertex_X7_isValue : GoodIn wsX7_vertex wsX7_isValue := goodIn_r _ [5] (by decide +kernel) (by decide +kernel)
set_option maxRecDepth 20000 in
theorem gX7_vertex_X7_isValue : GoodIn wsX7_vertex (va_wsS RX7 42 yX7_isValue wsX7_isValue) := goodIn_app (goodIn_of _ (by decide +kernel)) ggX7_vertex_X7_isValue
set_option maxRecDepth 20000 in
theorem ggX7_vertex_X1_addVertex : GoodIn wsX7_vertex wsX1_addVertex := goodIn_r _ [10, 11, 12, 18, 19, 20, 21, 22, 23, 24, 25, 26] (by decide +kernel) (by decide +kernel)
set_option maxRecDepth 20000 in
theorem gX7_vertex_X1_addVertex : GoodIn wsX7_vertex (wsV RX7 46 RX1 yX1_addVertex wsX1_addVertex) := goodIn_app (goodIn_of _ (by decide +kernel)) ggX7_vertex_X1_addVertex
theorem dX7_vertex_0 : decode cX7_vertex 0 = .ok (.iload_n 1, 1) := by decide +kernel
theorem dX7_vertex_1 : decode cX7_vertex 1 = .ok (.invokestatic 42, 3) := by decide +kernel
theorem dX7_vertex_4 : decode cX7_vertex 4 = .ok (.ifCond .ne 6, 3) := by decide +kernel
theorem dX7_vertex_7 : decode cX7_vertex 7 = .ok (.bipush (-102), 2) := by decide +kernel
theorem dX7_vertex_9 : decode cX7_vertex 9 = .ok (.ireturn, 1) := by decide +kernel
theorem dX7_vertex_10 : decode cX7_vertex 10 = .ok (.aload_n 0, 1) := by decide +kernel
theorem dX7_vertex_11 : decode cX7_vertex 11 = .ok (.getfield 10, 3) := by decide +kernel
theorem dX7_vertex_14 : decode cX7_vertex 14 = .ok (.iload_n 1, 1) := by decide +kernel
theorem dX7_vertex_15 : decode cX7_vertex 15 = .ok (.invokevirtual 46, 3) := by decide +kernel
theorem dX7_vertex_18 : decode cX7_vertex 18 = .ok (.ireturn, 1) := by decide +kernel
set_option maxRecDepth 20000 in
theorem ggX7_arc_X1_hasVertex : GoodIn wsX7_arc wsX1_hasVertex := goodIn_r _ [6, 7, 25, 26, 27, 28, 29, 30, 31, 32, 33] (by decide +kernel) (by decide +kernel)
set_option maxRecDepth 20000 in
theorem gX7_arc_X1_hasVertex : GoodIn wsX7_arc (wsV RX7 50 RX1 yX1_hasVertex wsX1_hasVertex) := goodIn_app (goodIn_of _ (by decide +kernel)) ggX7_arc_X1_hasVertex
set_option maxRecDepth 20000 in
theorem ggX7_arc_X7_isValue : GoodIn wsX7_arc wsX7_isValue := goodIn_r _ [11] (by decide +kernel) (by decide +kernel)
set_option maxRecDepth 20000 in
theorem gX7_arc_X7_isValue : GoodIn wsX7_arc (va_wsS RX7 42 yX7_isValue wsX7_isValue) := goodIn_app (goodIn_of _ (by decide +kernel)) ggX7_arc_X7_isValue
set_option maxRecDepth 20000 in
theorem ggX7_arc_X1_addArc : GoodIn wsX7_arc wsX1_addArc := goodIn_r _ [15, 16, 17, 18, 19, 25, 26, 27, 28, 29, 30, 31, 32, 33] (by decide +kernel) (by decide +kernel)
set_option maxRecDepth 20000 in
theorem gX7_arc_X1_addArc : GoodIn wsX7_arc (wsV RX7 53 RX1 yX1_addArc wsX1_addArc) := goodIn_app (goodIn_of _ (by decide +kernel)) ggX7_arc_X1_addArc
theorem dX7_arc_0 : decode cX7_arc 0 = .ok (.aload_n 0, 1) := by decide +kernel
theorem dX7_arc_1 : decode cX7_arc 1 = .ok (.getfield 10, 3) := by decide +kernel
theorem dX7_arc_4 : decode cX7_arc 4 = .ok (.iload_n 1, 1) := by decide +kernel
theorem dX7_arc_5 : decode cX7_arc 5 = .ok (.invokevirtual 50, 3) := by decide +kernel
theorem dX7_arc_8 : decode cX7_arc 8 = .ok (.ifCond .eq 14, 3) := by decide +kernel
theorem dX7_arc_11 : decode cX7_arc 11 = .ok (.aload_n 0, 1) := by decide +kernel
theorem dX7_arc_12 : decode cX7_arc 12 = .ok (.getfield 10, 3) := by decide +kernel
theorem dX7_arc_15 : decode cX7_arc 15 = .ok (.iload_n 2, 1) := by decide +kernel
theorem dX7_arc_16 : decode cX7_arc 16 = .ok (.invokevirtual 50, 3) := by decide +kernel
theorem dX7_arc_19 : decode cX7_arc 19 = .ok (.ifCond .ne 6, 3) := by decide +kernel
theorem dX7_arc_22 : decode cX7_arc 22 = .ok (.bipush (-101), 2) := by decide +kernel
theorem dX7_arc_24 : decode cX7_arc 24 = .ok (.ireturn, 1) := by decide +kernel
theorem dX7_arc_25 : decode cX7_arc 25 = .ok (.iload_n 3, 1) := by decide +kernel
theorem dX7_arc_26 : decode cX7_arc 26 = .ok (.invokestatic 42, 3) := by decide +kernel
theorem dX7_arc_29 : decode cX7_arc 29 = .ok (.ifCond .ne 6, 3) := by decide +kernel
theorem dX7_arc_32 : decode cX7_arc 32 = .ok (.bipush (-102), 2) := by decide +kernel
theorem dX7_arc_34 : decode cX7_arc 34 = .ok (.ireturn, 1) := by decide +kernel
theorem dX7_arc_35 : decode cX7_arc 35 = .ok (.aload_n 0, 1) := by decide +kernel
theorem dX7_arc_36 : decode cX7_arc 36 = .ok (.getfield 10, 3) := by decide +kernel
theorem dX7_arc_39 : decode cX7_arc 39 = .ok (.iload_n 1, 1) := by decide +kernel
theorem dX7_arc_40 : decode cX7_arc 40 = .ok (.iload_n 2, 1) := by decide +kernel
