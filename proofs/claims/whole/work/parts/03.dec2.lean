theorem dX7_arc_41 : decode cX7_arc 41 = .ok (.iload_n 3, 1) := by decide +kernel
theorem dX7_arc_42 : decode cX7_arc 42 = .ok (.invokevirtual 53, 3) := by decide +kernel
theorem dX7_arc_45 : decode cX7_arc 45 = .ok (.ireturn, 1) := by decide +kernel
set_option maxRecDepth 20000 in
theorem ggX7_first_X1_hasVertex : GoodIn wsX7_first wsX1_hasVertex := goodIn_r _ [6, 7, 24, 25, 26, 27, 28, 29, 30, 31, 32] (by decide +kernel) (by decide +kernel)
set_option maxRecDepth 20000 in
theorem gX7_first_X1_hasVertex : GoodIn wsX7_first (wsV RX7 50 RX1 yX1_hasVertex wsX1_hasVertex) := goodIn_app (goodIn_of _ (by decide +kernel)) ggX7_first_X1_hasVertex
set_option maxRecDepth 20000 in
theorem ggX7_first_X7_isValue : GoodIn wsX7_first wsX7_isValue := goodIn_r _ [11] (by decide +kernel) (by decide +kernel)
set_option maxRecDepth 20000 in
theorem gX7_first_X7_isValue : GoodIn wsX7_first (va_wsS RX7 42 yX7_isValue wsX7_isValue) := goodIn_app (goodIn_of _ (by decide +kernel)) ggX7_first_X7_isValue
set_option maxRecDepth 20000 in
theorem ggX7_first_X1_addFirst : GoodIn wsX7_first wsX1_addFirst := goodIn_r _ [15, 16, 17, 18, 24, 25, 26, 27, 28, 29, 30, 31, 32] (by decide +kernel) (by decide +kernel)
set_option maxRecDepth 20000 in
theorem gX7_first_X1_addFirst : GoodIn wsX7_first (wsV RX7 57 RX1 yX1_addFirst wsX1_addFirst) := goodIn_app (goodIn_of _ (by decide +kernel)) ggX7_first_X1_addFirst
theorem dX7_first_0 : decode cX7_first 0 = .ok (.aload_n 0, 1) := by decide +kernel
theorem dX7_first_1 : decode cX7_first 1 = .ok (.getfield 10, 3) := by decide +kernel
theorem dX7_first_4 : decode cX7_first 4 = .ok (.iload_n 1, 1) := by decide +kernel
theorem dX7_first_5 : decode cX7_first 5 = .ok (.invokevirtual 50, 3) := by decide +kernel
theorem dX7_first_8 : decode cX7_first 8 = .ok (.ifCond .ne 6, 3) := by decide +kernel
theorem dX7_first_11 : decode cX7_first 11 = .ok (.bipush (-101), 2) := by decide +kernel
theorem dX7_first_13 : decode cX7_first 13 = .ok (.ireturn, 1) := by decide +kernel
theorem dX7_first_14 : decode cX7_first 14 = .ok (.iload_n 2, 1) := by decide +kernel
theorem dX7_first_15 : decode cX7_first 15 = .ok (.invokestatic 42, 3) := by decide +kernel
theorem dX7_first_18 : decode cX7_first 18 = .ok (.ifCond .ne 6, 3) := by decide +kernel
theorem dX7_first_21 : decode cX7_first 21 = .ok (.bipush (-102), 2) := by decide +kernel
theorem dX7_first_23 : decode cX7_first 23 = .ok (.ireturn, 1) := by decide +kernel
theorem dX7_first_24 : decode cX7_first 24 = .ok (.aload_n 0, 1) := by decide +kernel
theorem dX7_first_25 : decode cX7_first 25 = .ok (.getfield 10, 3) := by decide +kernel
theorem dX7_first_28 : decode cX7_first 28 = .ok (.iload_n 1, 1) := by decide +kernel
theorem dX7_first_29 : decode cX7_first 29 = .ok (.iload_n 2, 1) := by decide +kernel
theorem dX7_first_30 : decode cX7_first 30 = .ok (.invokevirtual 57, 3) := by decide +kernel
theorem dX7_first_33 : decode cX7_first 33 = .ok (.ireturn, 1) := by decide +kernel
set_option maxRecDepth 20000 in
theorem ggX7_set_X7_isWithin : GoodIn wsX7_set wsX7_isWithin := goodIn_r _ [8] (by decide +kernel) (by decide +kernel)
set_option maxRecDepth 20000 in
theorem gX7_set_X7_isWithin : GoodIn wsX7_set (va_wsS RX7 61 yX7_isWithin wsX7_isWithin) := goodIn_app (goodIn_of _ (by decide +kernel)) ggX7_set_X7_isWithin
theorem dX7_set_0 : decode cX7_set 0 = .ok (.iload_n 1, 1) := by decide +kernel
theorem dX7_set_1 : decode cX7_set 1 = .ok (.iconst 0, 1) := by decide +kernel
theorem dX7_set_2 : decode cX7_set 2 = .ok (.iconst 5, 1) := by decide +kernel
theorem dX7_set_3 : decode cX7_set 3 = .ok (.invokestatic 61, 3) := by decide +kernel
theorem dX7_set_6 : decode cX7_set 6 = .ok (.ifCond .ne 6, 3) := by decide +kernel
theorem dX7_set_9 : decode cX7_set 9 = .ok (.bipush (-102), 2) := by decide +kernel
theorem dX7_set_11 : decode cX7_set 11 = .ok (.ireturn, 1) := by decide +kernel
theorem dX7_set_12 : decode cX7_set 12 = .ok (.iload_n 2, 1) := by decide +kernel
theorem dX7_set_13 : decode cX7_set 13 = .ok (.getstatic 65, 3) := by decide +kernel
theorem dX7_set_16 : decode cX7_set 16 = .ok (.iload_n 1, 1) := by decide +kernel
theorem dX7_set_17 : decode cX7_set 17 = .ok (.iaload, 1) := by decide +kernel
theorem dX7_set_18 : decode cX7_set 18 = .ok (.getstatic 69, 3) := by decide +kernel
theorem dX7_set_21 : decode cX7_set 21 = .ok (.iload_n 1, 1) := by decide +kernel
theorem dX7_set_22 : decode cX7_set 22 = .ok (.iaload, 1) := by decide +kernel
theorem dX7_set_23 : decode cX7_set 23 = .ok (.invokestatic 61, 3) := by decide +kernel
theorem dX7_set_26 : decode cX7_set 26 = .ok (.ifCond .ne 6, 3) := by decide +kernel
theorem dX7_set_29 : decode cX7_set 29 = .ok (.bipush (-102), 2) := by decide +kernel
theorem dX7_set_31 : decode cX7_set 31 = .ok (.ireturn, 1) := by decide +kernel
theorem dX7_set_32 : decode cX7_set 32 = .ok (.aload_n 0, 1) := by decide +kernel
theorem dX7_set_33 : decode cX7_set 33 = .ok (.getfield 19, 3) := by decide +kernel
theorem dX7_set_36 : decode cX7_set 36 = .ok (.getfield 72, 3) := by decide +kernel
theorem dX7_set_39 : decode cX7_set 39 = .ok (.iload_n 1, 1) := by decide +kernel
theorem dX7_set_40 : decode cX7_set 40 = .ok (.iaload, 1) := by decide +kernel
theorem dX7_set_41 : decode cX7_set 41 = .ok (.istore_n 3, 1) := by decide +kernel
theorem dX7_set_42 : decode cX7_set 42 = .ok (.aload_n 0, 1) := by decide +kernel
theorem dX7_set_43 : decode cX7_set 43 = .ok (.getfield 19, 3) := by decide +kernel
theorem dX7_set_46 : decode cX7_set 46 = .ok (.getfield 72, 3) := by decide +kernel
theorem dX7_set_49 : decode cX7_set 49 = .ok (.iload_n 1, 1) := by decide +kernel
theorem dX7_set_50 : decode cX7_set 50 = .ok (.iload_n 2, 1) := by decide +kernel
theorem dX7_set_51 : decode cX7_set 51 = .ok (.iastore, 1) := by decide +kernel
theorem dX7_set_52 : decode cX7_set 52 = .ok (.iload_n 3, 1) := by decide +kernel
theorem dX7_set_53 : decode cX7_set 53 = .ok (.ireturn, 1) := by decide +kernel
set_option maxRecDepth 20000 in
theorem ggX7_table_X7_isValue : GoodIn wsX7_table wsX7_isValue := goodIn_r _ [5] (by decide +kernel) (by decide +kernel)
set_option maxRecDepth 20000 in
theorem gX7_table_X7_isValue : GoodIn wsX7_table (va_wsS RX7 42 yX7_isValue wsX7_isValue) := goodIn_app (goodIn_of _ (by decide +kernel)) ggX7_table_X7_isValue
set_option maxRecDepth 20000 in
theorem ggX7_table_X2_tell : GoodIn wsX7_table wsX2_tell := goodIn_r _ [10, 11, 12, 13, 9, 14, 20, 21] (by decide +kernel) (by decide +kernel)
set_option maxRecDepth 20000 in
theorem gX7_table_X2_tell : GoodIn wsX7_table (wsV RX7 75 RX2 yX2_tell wsX2_tell) := goodIn_app (goodIn_of _ (by decide +kernel)) ggX7_table_X2_tell
theorem dX7_table_0 : decode cX7_table 0 = .ok (.iload_n 1, 1) := by decide +kernel
theorem dX7_table_1 : decode cX7_table 1 = .ok (.invokestatic 42, 3) := by decide +kernel
theorem dX7_table_4 : decode cX7_table 4 = .ok (.ifCond .eq 17, 3) := by decide +kernel
theorem dX7_table_7 : decode cX7_table 7 = .ok (.iload_n 2, 1) := by decide +kernel
theorem dX7_table_8 : decode cX7_table 8 = .ok (.invokestatic 42, 3) := by decide +kernel
theorem dX7_table_11 : decode cX7_table 11 = .ok (.ifCond .eq 10, 3) := by decide +kernel
theorem dX7_table_14 : decode cX7_table 14 = .ok (.iload_n 3, 1) := by decide +kernel
theorem dX7_table_15 : decode cX7_table 15 = .ok (.invokestatic 42, 3) := by decide +kernel
theorem dX7_table_18 : decode cX7_table 18 = .ok (.ifCond .ne 6, 3) := by decide +kernel
theorem dX7_table_21 : decode cX7_table 21 = .ok (.bipush (-102), 2) := by decide +kernel
theorem dX7_table_23 : decode cX7_table 23 = .ok (.ireturn, 1) := by decide +kernel
theorem dX7_table_24 : decode cX7_table 24 = .ok (.aload_n 0, 1) := by decide +kernel
theorem dX7_table_25 : decode cX7_table 25 = .ok (.getfield 19, 3) := by decide +kernel
theorem dX7_table_28 : decode cX7_table 28 = .ok (.iload_n 1, 1) := by decide +kernel
theorem dX7_table_29 : decode cX7_table 29 = .ok (.iload_n 2, 1) := by decide +kernel
theorem dX7_table_30 : decode cX7_table 30 = .ok (.iload_n 3, 1) := by decide +kernel
theorem dX7_table_31 : decode cX7_table 31 = .ok (.invokevirtual 75, 3) := by decide +kernel
theorem dX7_table_34 : decode cX7_table 34 = .ok (.ireturn, 1) := by decide +kernel
set_option maxRecDepth 20000 in
theorem ggX7_value_X1_hasVertex : GoodIn wsX7_value wsX1_hasVertex := goodIn_r _ [7, 8, 18, 19, 20, 21, 22, 23, 24, 25, 26] (by decide +kernel) (by decide +kernel)
set_option maxRecDepth 20000 in
theorem gX7_value_X1_hasVertex : GoodIn wsX7_value (wsV RX7 50 RX1 yX1_hasVertex wsX1_hasVertex) := goodIn_app (goodIn_of _ (by decide +kernel)) ggX7_value_X1_hasVertex
set_option maxRecDepth 20000 in
theorem ggX7_value_X7_isValue : GoodIn wsX7_value wsX7_isValue := goodIn_r _ [12] (by decide +kernel) (by decide +kernel)
set_option maxRecDepth 20000 in
theorem gX7_value_X7_isValue : GoodIn wsX7_value (va_wsS RX7 42 yX7_isValue wsX7_isValue) := goodIn_app (goodIn_of _ (by decide +kernel)) ggX7_value_X7_isValue
theorem dX7_value_0 : decode cX7_value 0 = .ok (.aload_n 0, 1) := by decide +kernel
theorem dX7_value_1 : decode cX7_value 1 = .ok (.getfield 10, 3) := by decide +kernel
theorem dX7_value_4 : decode cX7_value 4 = .ok (.iload_n 1, 1) := by decide +kernel
theorem dX7_value_5 : decode cX7_value 5 = .ok (.invokevirtual 50, 3) := by decide +kernel
theorem dX7_value_8 : decode cX7_value 8 = .ok (.ifCond .ne 6, 3) := by decide +kernel
theorem dX7_value_11 : decode cX7_value 11 = .ok (.bipush (-101), 2) := by decide +kernel
theorem dX7_value_13 : decode cX7_value 13 = .ok (.ireturn, 1) := by decide +kernel
theorem dX7_value_14 : decode cX7_value 14 = .ok (.iload_n 2, 1) := by decide +kernel
theorem dX7_value_15 : decode cX7_value 15 = .ok (.invokestatic 42, 3) := by decide +kernel
theorem dX7_value_18 : decode cX7_value 18 = .ok (.ifCond .ne 6, 3) := by decide +kernel
theorem dX7_value_21 : decode cX7_value 21 = .ok (.bipush (-102), 2) := by decide +kernel
theorem dX7_value_23 : decode cX7_value 23 = .ok (.ireturn, 1) := by decide +kernel
theorem dX7_value_24 : decode cX7_value 24 = .ok (.aload_n 0, 1) := by decide +kernel
theorem dX7_value_25 : decode cX7_value 25 = .ok (.getfield 10, 3) := by decide +kernel
theorem dX7_value_28 : decode cX7_value 28 = .ok (.getfield 78, 3) := by decide +kernel
theorem dX7_value_31 : decode cX7_value 31 = .ok (.iload_n 1, 1) := by decide +kernel
theorem dX7_value_32 : decode cX7_value 32 = .ok (.iaload, 1) := by decide +kernel
theorem dX7_value_33 : decode cX7_value 33 = .ok (.istore_n 3, 1) := by decide +kernel
theorem dX7_value_34 : decode cX7_value 34 = .ok (.aload_n 0, 1) := by decide +kernel
theorem dX7_value_35 : decode cX7_value 35 = .ok (.getfield 10, 3) := by decide +kernel
theorem dX7_value_38 : decode cX7_value 38 = .ok (.getfield 78, 3) := by decide +kernel
theorem dX7_value_41 : decode cX7_value 41 = .ok (.iload_n 1, 1) := by decide +kernel
theorem dX7_value_42 : decode cX7_value 42 = .ok (.iload_n 2, 1) := by decide +kernel
theorem dX7_value_43 : decode cX7_value 43 = .ok (.iastore, 1) := by decide +kernel
theorem dX7_value_44 : decode cX7_value 44 = .ok (.iload_n 3, 1) := by decide +kernel
theorem dX7_value_45 : decode cX7_value 45 = .ok (.ireturn, 1) := by decide +kernel
set_option maxRecDepth 20000 in
theorem ggX7_fold_X7_isValue : GoodIn wsX7_fold wsX7_isValue := goodIn_r _ [5] (by decide +kernel) (by decide +kernel)
set_option maxRecDepth 20000 in
theorem gX7_fold_X7_isValue : GoodIn wsX7_fold (va_wsS RX7 42 yX7_isValue wsX7_isValue) := goodIn_app (goodIn_of _ (by decide +kernel)) ggX7_fold_X7_isValue
set_option maxRecDepth 20000 in
theorem ggX7_fold_X2_folded : GoodIn wsX7_fold wsX2_folded := goodIn_r _ [10, 11, 12, 13, 14, 15, 16, 17, 18, 19, 20, 21, 9, 22, 28, 29] (by decide +kernel) (by decide +kernel)
set_option maxRecDepth 20000 in
theorem gX7_fold_X2_folded : GoodIn wsX7_fold (wsV RX7 81 RX2 yX2_folded wsX2_folded) := goodIn_app (goodIn_of _ (by decide +kernel)) ggX7_fold_X2_folded
theorem dX7_fold_0 : decode cX7_fold 0 = .ok (.iload_n 1, 1) := by decide +kernel
theorem dX7_fold_1 : decode cX7_fold 1 = .ok (.invokestatic 42, 3) := by decide +kernel
theorem dX7_fold_4 : decode cX7_fold 4 = .ok (.ifCond .eq 10, 3) := by decide +kernel
theorem dX7_fold_7 : decode cX7_fold 7 = .ok (.iload_n 2, 1) := by decide +kernel
theorem dX7_fold_8 : decode cX7_fold 8 = .ok (.invokestatic 42, 3) := by decide +kernel
theorem dX7_fold_11 : decode cX7_fold 11 = .ok (.ifCond .ne 6, 3) := by decide +kernel
theorem dX7_fold_14 : decode cX7_fold 14 = .ok (.bipush (-102), 2) := by decide +kernel
theorem dX7_fold_16 : decode cX7_fold 16 = .ok (.ireturn, 1) := by decide +kernel
theorem dX7_fold_17 : decode cX7_fold 17 = .ok (.aload_n 0, 1) := by decide +kernel
theorem dX7_fold_18 : decode cX7_fold 18 = .ok (.getfield 19, 3) := by decide +kernel
theorem dX7_fold_21 : decode cX7_fold 21 = .ok (.iload_n 1, 1) := by decide +kernel
theorem dX7_fold_22 : decode cX7_fold 22 = .ok (.iload_n 2, 1) := by decide +kernel
theorem dX7_fold_23 : decode cX7_fold 23 = .ok (.invokevirtual 81, 3) := by decide +kernel
theorem dX7_fold_26 : decode cX7_fold 26 = .ok (.ireturn, 1) := by decide +kernel
set_option maxRecDepth 20000 in
theorem ggX7_out_X7_isValue : GoodIn wsX7_out wsX7_isValue := goodIn_r _ [5] (by decide +kernel) (by decide +kernel)
set_option maxRecDepth 20000 in
theorem gX7_out_X7_isValue : GoodIn wsX7_out (va_wsS RX7 42 yX7_isValue wsX7_isValue) := goodIn_app (goodIn_of _ (by decide +kernel)) ggX7_out_X7_isValue
set_option maxRecDepth 20000 in
theorem ggX7_out_X2_sentOut : GoodIn wsX7_out wsX2_sentOut := goodIn_r _ [10, 11, 12, 13, 14, 15, 16, 17, 18, 24, 25] (by decide +kernel) (by decide +kernel)
set_option maxRecDepth 20000 in
theorem gX7_out_X2_sentOut : GoodIn wsX7_out (wsV RX7 84 RX2 yX2_sentOut wsX2_sentOut) := goodIn_app (goodIn_of _ (by decide +kernel)) ggX7_out_X2_sentOut
theorem dX7_out_0 : decode cX7_out 0 = .ok (.iload_n 1, 1) := by decide +kernel
theorem dX7_out_1 : decode cX7_out 1 = .ok (.invokestatic 42, 3) := by decide +kernel
theorem dX7_out_4 : decode cX7_out 4 = .ok (.ifCond .eq 10, 3) := by decide +kernel
theorem dX7_out_7 : decode cX7_out 7 = .ok (.iload_n 2, 1) := by decide +kernel
theorem dX7_out_8 : decode cX7_out 8 = .ok (.invokestatic 42, 3) := by decide +kernel
theorem dX7_out_11 : decode cX7_out 11 = .ok (.ifCond .ne 6, 3) := by decide +kernel
theorem dX7_out_14 : decode cX7_out 14 = .ok (.bipush (-102), 2) := by decide +kernel
theorem dX7_out_16 : decode cX7_out 16 = .ok (.ireturn, 1) := by decide +kernel
theorem dX7_out_17 : decode cX7_out 17 = .ok (.aload_n 0, 1) := by decide +kernel
theorem dX7_out_18 : decode cX7_out 18 = .ok (.getfield 19, 3) := by decide +kernel
theorem dX7_out_21 : decode cX7_out 21 = .ok (.iload_n 1, 1) := by decide +kernel
theorem dX7_out_22 : decode cX7_out 22 = .ok (.iload_n 2, 1) := by decide +kernel
theorem dX7_out_23 : decode cX7_out 23 = .ok (.invokevirtual 84, 3) := by decide +kernel
theorem dX7_out_26 : decode cX7_out 26 = .ok (.ireturn, 1) := by decide +kernel
set_option maxRecDepth 20000 in
theorem ggX7_law_X7_isWithin : GoodIn wsX7_law wsX7_isWithin := goodIn_r _ [6] (by decide +kernel) (by decide +kernel)
set_option maxRecDepth 20000 in
theorem gX7_law_X7_isWithin : GoodIn wsX7_law (va_wsS RX7 61 yX7_isWithin wsX7_isWithin) := goodIn_app (goodIn_of _ (by decide +kernel)) ggX7_law_X7_isWithin
set_option maxRecDepth 20000 in
theorem ggX7_law_X2_lawHolds : GoodIn wsX7_law wsX2_lawHolds := goodIn_r _ [11, 12, 13, 14, 10, 15, 16, 17, 18, 19, 20, 21, 22, 23, 24, 25, 26, 27, 33, 34] (by decide +kernel) (by decide +kernel)
set_option maxRecDepth 20000 in
theorem gX7_law_X2_lawHolds : GoodIn wsX7_law (wsV RX7 90 RX2 yX2_lawHolds wsX2_lawHolds) := goodIn_app (goodIn_of _ (by decide +kernel)) ggX7_law_X2_lawHolds
theorem dX7_law_0 : decode cX7_law 0 = .ok (.iload_n 1, 1) := by decide +kernel
theorem dX7_law_1 : decode cX7_law 1 = .ok (.iconst 0, 1) := by decide +kernel
theorem dX7_law_2 : decode cX7_law 2 = .ok (.bipush 6, 2) := by decide +kernel
theorem dX7_law_4 : decode cX7_law 4 = .ok (.invokestatic 61, 3) := by decide +kernel
theorem dX7_law_7 : decode cX7_law 7 = .ok (.ifCond .ne 6, 3) := by decide +kernel
theorem dX7_law_10 : decode cX7_law 10 = .ok (.bipush (-102), 2) := by decide +kernel
theorem dX7_law_12 : decode cX7_law 12 = .ok (.ireturn, 1) := by decide +kernel
theorem dX7_law_13 : decode cX7_law 13 = .ok (.getstatic 87, 3) := by decide +kernel
theorem dX7_law_16 : decode cX7_law 16 = .ok (.iload_n 1, 1) := by decide +kernel
theorem dX7_law_17 : decode cX7_law 17 = .ok (.iaload, 1) := by decide +kernel
theorem dX7_law_18 : decode cX7_law 18 = .ok (.iconst 1, 1) := by decide +kernel
theorem dX7_law_19 : decode cX7_law 19 = .ok (.if_icmp .le 8, 3) := by decide +kernel
theorem dX7_law_22 : decode cX7_law 22 = .ok (.bipush 15, 2) := by decide +kernel
theorem dX7_law_24 : decode cX7_law 24 = .ok (.goto 4, 3) := by decide +kernel
theorem dX7_law_27 : decode cX7_law 27 = .ok (.iconst 0, 1) := by decide +kernel
theorem dX7_law_28 : decode cX7_law 28 = .ok (.istore_n 2, 1) := by decide +kernel
theorem dX7_law_29 : decode cX7_law 29 = .ok (.getstatic 87, 3) := by decide +kernel
theorem dX7_law_32 : decode cX7_law 32 = .ok (.iload_n 1, 1) := by decide +kernel
theorem dX7_law_33 : decode cX7_law 33 = .ok (.iaload, 1) := by decide +kernel
theorem dX7_law_34 : decode cX7_law 34 = .ok (.iconst 2, 1) := by decide +kernel
theorem dX7_law_35 : decode cX7_law 35 = .ok (.if_icmp .le 8, 3) := by decide +kernel
theorem dX7_law_38 : decode cX7_law 38 = .ok (.bipush 15, 2) := by decide +kernel
theorem dX7_law_40 : decode cX7_law 40 = .ok (.goto 4, 3) := by decide +kernel
theorem dX7_law_43 : decode cX7_law 43 = .ok (.iconst 0, 1) := by decide +kernel
theorem dX7_law_44 : decode cX7_law 44 = .ok (.istore_n 3, 1) := by decide +kernel
theorem dX7_law_45 : decode cX7_law 45 = .ok (.iconst 0, 1) := by decide +kernel
theorem dX7_law_46 : decode cX7_law 46 = .ok (.istore 4, 2) := by decide +kernel
theorem dX7_law_48 : decode cX7_law 48 = .ok (.iload 4, 2) := by decide +kernel
theorem dX7_law_50 : decode cX7_law 50 = .ok (.bipush 15, 2) := by decide +kernel
theorem dX7_law_52 : decode cX7_law 52 = .ok (.if_icmp .gt 72, 3) := by decide +kernel
theorem dX7_law_55 : decode cX7_law 55 = .ok (.iconst 0, 1) := by decide +kernel
theorem dX7_law_56 : decode cX7_law 56 = .ok (.istore 5, 2) := by decide +kernel
theorem dX7_law_58 : decode cX7_law 58 = .ok (.iload 5, 2) := by decide +kernel
theorem dX7_law_60 : decode cX7_law 60 = .ok (.iload_n 2, 1) := by decide +kernel
theorem dX7_law_61 : decode cX7_law 61 = .ok (.if_icmp .gt 57, 3) := by decide +kernel
theorem dX7_law_64 : decode cX7_law 64 = .ok (.iconst 0, 1) := by decide +kernel
theorem dX7_law_65 : decode cX7_law 65 = .ok (.istore 6, 2) := by decide +kernel
theorem dX7_law_67 : decode cX7_law 67 = .ok (.iload 6, 2) := by decide +kernel
theorem dX7_law_69 : decode cX7_law 69 = .ok (.iload_n 3, 1) := by decide +kernel
theorem dX7_law_70 : decode cX7_law 70 = .ok (.if_icmp .gt 42, 3) := by decide +kernel
theorem dX7_law_73 : decode cX7_law 73 = .ok (.aload_n 0, 1) := by decide +kernel
theorem dX7_law_74 : decode cX7_law 74 = .ok (.getfield 19, 3) := by decide +kernel
theorem dX7_law_77 : decode cX7_law 77 = .ok (.iload_n 1, 1) := by decide +kernel
theorem dX7_law_78 : decode cX7_law 78 = .ok (.iload 4, 2) := by decide +kernel
theorem dX7_law_80 : decode cX7_law 80 = .ok (.iload 5, 2) := by decide +kernel
theorem dX7_law_82 : decode cX7_law 82 = .ok (.iload 6, 2) := by decide +kernel
theorem dX7_law_84 : decode cX7_law 84 = .ok (.invokevirtual 90, 3) := by decide +kernel
theorem dX7_law_87 : decode cX7_law 87 = .ok (.ifCond .ne 19, 3) := by decide +kernel
theorem dX7_law_90 : decode cX7_law 90 = .ok (.sipush 256, 3) := by decide +kernel
theorem dX7_law_93 : decode cX7_law 93 = .ok (.iload 4, 2) := by decide +kernel
theorem dX7_law_95 : decode cX7_law 95 = .ok (.imul, 1) := by decide +kernel
theorem dX7_law_96 : decode cX7_law 96 = .ok (.bipush 16, 2) := by decide +kernel
theorem dX7_law_98 : decode cX7_law 98 = .ok (.iload 5, 2) := by decide +kernel
theorem dX7_law_100 : decode cX7_law 100 = .ok (.imul, 1) := by decide +kernel
theorem dX7_law_101 : decode cX7_law 101 = .ok (.iadd, 1) := by decide +kernel
theorem dX7_law_102 : decode cX7_law 102 = .ok (.iload 6, 2) := by decide +kernel
theorem dX7_law_104 : decode cX7_law 104 = .ok (.iadd, 1) := by decide +kernel
theorem dX7_law_105 : decode cX7_law 105 = .ok (.ireturn, 1) := by decide +kernel
theorem dX7_law_106 : decode cX7_law 106 = .ok (.iinc 6 1, 3) := by decide +kernel
theorem dX7_law_109 : decode cX7_law 109 = .ok (.goto (-42), 3) := by decide +kernel
theorem dX7_law_112 : decode cX7_law 112 = .ok (.iinc 5 1, 3) := by decide +kernel
theorem dX7_law_115 : decode cX7_law 115 = .ok (.goto (-57), 3) := by decide +kernel
theorem dX7_law_118 : decode cX7_law 118 = .ok (.iinc 4 1, 3) := by decide +kernel
theorem dX7_law_121 : decode cX7_law 121 = .ok (.goto (-73), 3) := by decide +kernel
theorem dX7_law_124 : decode cX7_law 124 = .ok (.iconst (-1), 1) := by decide +kernel
theorem dX7_law_125 : decode cX7_law 125 = .ok (.ireturn, 1) := by decide +kernel
set_option maxRecDepth 20000 in
theorem ggX7_about_X7_isWithin : GoodIn wsX7_about wsX7_isWithin := goodIn_r _ [10] (by decide +kernel) (by decide +kernel)
set_option maxRecDepth 20000 in
theorem gX7_about_X7_isWithin : GoodIn wsX7_about (va_wsS RX7 61 yX7_isWithin wsX7_isWithin) := goodIn_app (goodIn_of _ (by decide +kernel)) ggX7_about_X7_isWithin
theorem dX7_about_0 : decode cX7_about 0 = .ok (.iload_n 1, 1) := by decide +kernel
theorem dX7_about_1 : decode cX7_about 1 = .ok (.tableswitch 51 0 2 #[27, 35, 43], 27) := by decide +kernel
theorem dX7_about_28 : decode cX7_about 28 = .ok (.aload_n 0, 1) := by decide +kernel
theorem dX7_about_29 : decode cX7_about 29 = .ok (.getfield 10, 3) := by decide +kernel
theorem dX7_about_32 : decode cX7_about 32 = .ok (.getfield 94, 3) := by decide +kernel
theorem dX7_about_35 : decode cX7_about 35 = .ok (.ireturn, 1) := by decide +kernel
theorem dX7_about_36 : decode cX7_about 36 = .ok (.aload_n 0, 1) := by decide +kernel
theorem dX7_about_37 : decode cX7_about 37 = .ok (.getfield 10, 3) := by decide +kernel
theorem dX7_about_40 : decode cX7_about 40 = .ok (.getfield 98, 3) := by decide +kernel
theorem dX7_about_43 : decode cX7_about 43 = .ok (.ireturn, 1) := by decide +kernel
theorem dX7_about_44 : decode cX7_about 44 = .ok (.aload_n 0, 1) := by decide +kernel
theorem dX7_about_45 : decode cX7_about 45 = .ok (.getfield 10, 3) := by decide +kernel
theorem dX7_about_48 : decode cX7_about 48 = .ok (.getfield 101, 3) := by decide +kernel
theorem dX7_about_51 : decode cX7_about 51 = .ok (.ireturn, 1) := by decide +kernel
theorem dX7_about_52 : decode cX7_about 52 = .ok (.iload_n 1, 1) := by decide +kernel
theorem dX7_about_53 : decode cX7_about 53 = .ok (.iconst 3, 1) := by decide +kernel
theorem dX7_about_54 : decode cX7_about 54 = .ok (.bipush 8, 2) := by decide +kernel
theorem dX7_about_56 : decode cX7_about 56 = .ok (.invokestatic 61, 3) := by decide +kernel
theorem dX7_about_59 : decode cX7_about 59 = .ok (.ifCond .eq 17, 3) := by decide +kernel
theorem dX7_about_62 : decode cX7_about 62 = .ok (.aload_n 0, 1) := by decide +kernel
theorem dX7_about_63 : decode cX7_about 63 = .ok (.getfield 19, 3) := by decide +kernel
theorem dX7_about_66 : decode cX7_about 66 = .ok (.getfield 72, 3) := by decide +kernel
theorem dX7_about_69 : decode cX7_about 69 = .ok (.iload_n 1, 1) := by decide +kernel
theorem dX7_about_70 : decode cX7_about 70 = .ok (.iconst 3, 1) := by decide +kernel
theorem dX7_about_71 : decode cX7_about 71 = .ok (.isub, 1) := by decide +kernel
theorem dX7_about_72 : decode cX7_about 72 = .ok (.iaload, 1) := by decide +kernel
theorem dX7_about_73 : decode cX7_about 73 = .ok (.goto 5, 3) := by decide +kernel
theorem dX7_about_76 : decode cX7_about 76 = .ok (.bipush (-102), 2) := by decide +kernel
theorem dX7_about_78 : decode cX7_about 78 = .ok (.ireturn, 1) := by decide +kernel
set_option maxRecDepth 20000 in
theorem ggX7_look_X7_isWithin : GoodIn wsX7_look wsX7_isWithin := goodIn_r _ [8] (by decide +kernel) (by decide +kernel)
set_option maxRecDepth 20000 in
theorem gX7_look_X7_isWithin : GoodIn wsX7_look (va_wsS RX7 61 yX7_isWithin wsX7_isWithin) := goodIn_app (goodIn_of _ (by decide +kernel)) ggX7_look_X7_isWithin
set_option maxRecDepth 20000 in
theorem ggX7_look_X1_allArcs : GoodIn wsX7_look wsX1_allArcs := goodIn_r _ [13, 14, 253, 254, 255, 256, 257, 258, 259, 260, 261] (by decide +kernel) (by decide +kernel)
set_option maxRecDepth 20000 in
theorem gX7_look_X1_allArcs : GoodIn wsX7_look (wsV RX7 104 RX1 yX1_allArcs wsX1_allArcs) := goodIn_app (goodIn_of _ (by decide +kernel)) ggX7_look_X1_allArcs
set_option maxRecDepth 20000 in
theorem ggX7_look_X3_run : GoodIn wsX7_look wsX3_run := goodIn_r _ [19, 20, 21, 22, 23, 24, 25, 26, 27, 28, 29, 30, 31, 32, 33, 34, 35, 36, 37, 38, 39, 40, 41, 42, 43, 44, 45, 46, 47, 48, 49, 50, 51, 52, 53, 54, 55, 56, 57, 58, 59, 60, 61, 62, 63, 64, 65, 66, 67, 68, 69, 18, 70, 71, 72, 73, 74, 75, 76, 77, 78, 79, 80, 81, 82, 83, 84, 85, 86, 87, 88, 89, 90, 91, 92, 93, 94, 95, 96, 97, 98, 99, 100, 101, 102, 103, 104, 105, 106, 107, 108, 109, 110, 111, 112, 113, 114, 115, 116, 117, 118, 119, 120, 121, 122, 123, 124, 125, 126, 127, 128, 129, 130, 131, 132, 133, 134, 135, 136, 137, 138, 139, 140, 141, 142, 143, 144, 145, 146, 147, 148, 149, 150, 151, 152, 153, 154, 155, 156, 157, 158, 159, 160, 161, 162, 163, 164, 165, 166, 167, 168, 169, 170, 171, 172, 173, 174, 175, 176, 177, 178, 179, 180, 181, 182, 183, 184, 185, 186, 187, 188, 189, 190, 191, 192, 193, 194, 195, 196, 197, 198, 199, 200, 201, 202, 203, 204, 205, 206, 207, 208, 209, 210, 211, 212, 213, 214, 215, 216, 217, 218, 219, 220, 221, 222, 223, 224, 225, 226, 227, 228, 229, 230, 231, 232, 233, 234, 235, 236, 237, 262, 263, 264, 265, 266, 267, 268, 269, 270, 253, 254, 255, 256, 257, 258, 259, 260, 261, 271, 272, 273, 274, 275, 276, 277, 243, 244, 245, 246, 247, 248, 249, 250, 251, 252, 278, 279, 280] (by decide +kernel) (by decide +kernel)
set_option maxRecDepth 20000 in
theorem gX7_look_X3_run : GoodIn wsX7_look (wsV RX7 108 RX3 yX3_run wsX3_run) := goodIn_app (goodIn_of _ (by decide +kernel)) ggX7_look_X3_run
theorem dX7_look_0 : decode cX7_look 0 = .ok (.iload_n 1, 1) := by decide +kernel
theorem dX7_look_1 : decode cX7_look 1 = .ok (.iconst 1, 1) := by decide +kernel
theorem dX7_look_2 : decode cX7_look 2 = .ok (.sipush 600, 3) := by decide +kernel
theorem dX7_look_5 : decode cX7_look 5 = .ok (.invokestatic 61, 3) := by decide +kernel
theorem dX7_look_8 : decode cX7_look 8 = .ok (.ifCond .ne 6, 3) := by decide +kernel
theorem dX7_look_11 : decode cX7_look 11 = .ok (.bipush (-102), 2) := by decide +kernel
theorem dX7_look_13 : decode cX7_look 13 = .ok (.ireturn, 1) := by decide +kernel
theorem dX7_look_14 : decode cX7_look 14 = .ok (.aload_n 0, 1) := by decide +kernel
theorem dX7_look_15 : decode cX7_look 15 = .ok (.getfield 38, 3) := by decide +kernel
theorem dX7_look_18 : decode cX7_look 18 = .ok (.iload_n 1, 1) := by decide +kernel
theorem dX7_look_19 : decode cX7_look 19 = .ok (.aload_n 0, 1) := by decide +kernel
theorem dX7_look_20 : decode cX7_look 20 = .ok (.getfield 10, 3) := by decide +kernel
theorem dX7_look_23 : decode cX7_look 23 = .ok (.invokevirtual 104, 3) := by decide +kernel
theorem dX7_look_26 : decode cX7_look 26 = .ok (.aload_n 0, 1) := by decide +kernel
theorem dX7_look_27 : decode cX7_look 27 = .ok (.getfield 26, 3) := by decide +kernel
theorem dX7_look_30 : decode cX7_look 30 = .ok (.invokevirtual 108, 3) := by decide +kernel
theorem dX7_look_33 : decode cX7_look 33 = .ok (.aload_n 0, 1) := by decide +kernel
theorem dX7_look_34 : decode cX7_look 34 = .ok (.getfield 26, 3) := by decide +kernel
theorem dX7_look_37 : decode cX7_look 37 = .ok (.getfield 112, 3) := by decide +kernel
theorem dX7_look_40 : decode cX7_look 40 = .ok (.ireturn, 1) := by decide +kernel
set_option maxRecDepth 20000 in
theorem ggX7_looked_X7_isWithin : GoodIn wsX7_looked wsX7_isWithin := goodIn_r _ [10] (by decide +kernel) (by decide +kernel)
set_option maxRecDepth 20000 in
theorem gX7_looked_X7_isWithin : GoodIn wsX7_looked (va_wsS RX7 61 yX7_isWithin wsX7_isWithin) := goodIn_app (goodIn_of _ (by decide +kernel)) ggX7_looked_X7_isWithin
theorem dX7_looked_0 : decode cX7_looked 0 = .ok (.iload_n 1, 1) := by decide +kernel
theorem dX7_looked_1 : decode cX7_looked 1 = .ok (.iconst 0, 1) := by decide +kernel
theorem dX7_looked_2 : decode cX7_looked 2 = .ok (.iconst 3, 1) := by decide +kernel
theorem dX7_looked_3 : decode cX7_looked 3 = .ok (.invokestatic 61, 3) := by decide +kernel
theorem dX7_looked_6 : decode cX7_looked 6 = .ok (.ifCond .ne 6, 3) := by decide +kernel
theorem dX7_looked_9 : decode cX7_looked 9 = .ok (.bipush (-102), 2) := by decide +kernel
theorem dX7_looked_11 : decode cX7_looked 11 = .ok (.ireturn, 1) := by decide +kernel
theorem dX7_looked_12 : decode cX7_looked 12 = .ok (.aload_n 0, 1) := by decide +kernel
theorem dX7_looked_13 : decode cX7_looked 13 = .ok (.getfield 26, 3) := by decide +kernel
theorem dX7_looked_16 : decode cX7_looked 16 = .ok (.getfield 112, 3) := by decide +kernel
theorem dX7_looked_19 : decode cX7_looked 19 = .ok (.ifCond .ne 5, 3) := by decide +kernel
theorem dX7_looked_22 : decode cX7_looked 22 = .ok (.iconst (-1), 1) := by decide +kernel
theorem dX7_looked_23 : decode cX7_looked 23 = .ok (.ireturn, 1) := by decide +kernel
theorem dX7_looked_24 : decode cX7_looked 24 = .ok (.iload_n 1, 1) := by decide +kernel
theorem dX7_looked_25 : decode cX7_looked 25 = .ok (.tableswitch 59 0 2 #[27, 43, 51], 27) := by decide +kernel
theorem dX7_looked_52 : decode cX7_looked 52 = .ok (.aload_n 0, 1) := by decide +kernel
theorem dX7_looked_53 : decode cX7_looked 53 = .ok (.getfield 26, 3) := by decide +kernel
theorem dX7_looked_56 : decode cX7_looked 56 = .ok (.getfield 115, 3) := by decide +kernel
theorem dX7_looked_59 : decode cX7_looked 59 = .ok (.ifCond .eq 7, 3) := by decide +kernel
theorem dX7_looked_62 : decode cX7_looked 62 = .ok (.iconst 1, 1) := by decide +kernel
theorem dX7_looked_63 : decode cX7_looked 63 = .ok (.goto 4, 3) := by decide +kernel
theorem dX7_looked_66 : decode cX7_looked 66 = .ok (.iconst 0, 1) := by decide +kernel
theorem dX7_looked_67 : decode cX7_looked 67 = .ok (.ireturn, 1) := by decide +kernel
theorem dX7_looked_68 : decode cX7_looked 68 = .ok (.aload_n 0, 1) := by decide +kernel
theorem dX7_looked_69 : decode cX7_looked 69 = .ok (.getfield 26, 3) := by decide +kernel
theorem dX7_looked_72 : decode cX7_looked 72 = .ok (.getfield 119, 3) := by decide +kernel
theorem dX7_looked_75 : decode cX7_looked 75 = .ok (.ireturn, 1) := by decide +kernel
theorem dX7_looked_76 : decode cX7_looked 76 = .ok (.aload_n 0, 1) := by decide +kernel
theorem dX7_looked_77 : decode cX7_looked 77 = .ok (.getfield 26, 3) := by decide +kernel
theorem dX7_looked_80 : decode cX7_looked 80 = .ok (.getfield 122, 3) := by decide +kernel
theorem dX7_looked_83 : decode cX7_looked 83 = .ok (.ireturn, 1) := by decide +kernel
theorem dX7_looked_84 : decode cX7_looked 84 = .ok (.aload_n 0, 1) := by decide +kernel
theorem dX7_looked_85 : decode cX7_looked 85 = .ok (.getfield 26, 3) := by decide +kernel
theorem dX7_looked_88 : decode cX7_looked 88 = .ok (.getfield 125, 3) := by decide +kernel
theorem dX7_looked_91 : decode cX7_looked 91 = .ok (.ireturn, 1) := by decide +kernel
set_option maxRecDepth 20000 in
theorem ggX7_end_X0_hasEnd : GoodIn wsX7_end wsX0_hasEnd := goodIn_r _ [8, 9, 19, 20, 21, 22, 23, 24, 25, 26, 27, 28] (by decide +kernel) (by decide +kernel)
set_option maxRecDepth 20000 in
theorem gX7_end_X0_hasEnd : GoodIn wsX7_end (wsV RX7 128 RX0 yX0_hasEnd wsX0_hasEnd) := goodIn_app (goodIn_of _ (by decide +kernel)) ggX7_end_X0_hasEnd
set_option maxRecDepth 20000 in
theorem ggX7_end_X7_isWithin : GoodIn wsX7_end wsX7_isWithin := goodIn_r _ [13] (by decide +kernel) (by decide +kernel)
set_option maxRecDepth 20000 in
theorem gX7_end_X7_isWithin : GoodIn wsX7_end (va_wsS RX7 61 yX7_isWithin wsX7_isWithin) := goodIn_app (goodIn_of _ (by decide +kernel)) ggX7_end_X7_isWithin
theorem dX7_end_0 : decode cX7_end 0 = .ok (.aload_n 0, 1) := by decide +kernel
theorem dX7_end_1 : decode cX7_end 1 = .ok (.getfield 26, 3) := by decide +kernel
theorem dX7_end_4 : decode cX7_end 4 = .ok (.iload_n 1, 1) := by decide +kernel
theorem dX7_end_5 : decode cX7_end 5 = .ok (.invokevirtual 128, 3) := by decide +kernel
theorem dX7_end_8 : decode cX7_end 8 = .ok (.ifCond .eq 20, 3) := by decide +kernel
theorem dX7_end_11 : decode cX7_end 11 = .ok (.iload_n 2, 1) := by decide +kernel
theorem dX7_end_12 : decode cX7_end 12 = .ok (.iconst 0, 1) := by decide +kernel
theorem dX7_end_13 : decode cX7_end 13 = .ok (.aload_n 0, 1) := by decide +kernel
theorem dX7_end_14 : decode cX7_end 14 = .ok (.getfield 26, 3) := by decide +kernel
theorem dX7_end_17 : decode cX7_end 17 = .ok (.getfield 131, 3) := by decide +kernel
theorem dX7_end_20 : decode cX7_end 20 = .ok (.iconst 1, 1) := by decide +kernel
theorem dX7_end_21 : decode cX7_end 21 = .ok (.isub, 1) := by decide +kernel
theorem dX7_end_22 : decode cX7_end 22 = .ok (.invokestatic 61, 3) := by decide +kernel
theorem dX7_end_25 : decode cX7_end 25 = .ok (.ifCond .ne 6, 3) := by decide +kernel
theorem dX7_end_28 : decode cX7_end 28 = .ok (.bipush (-101), 2) := by decide +kernel
theorem dX7_end_30 : decode cX7_end 30 = .ok (.ireturn, 1) := by decide +kernel
theorem dX7_end_31 : decode cX7_end 31 = .ok (.aload_n 0, 1) := by decide +kernel
theorem dX7_end_32 : decode cX7_end 32 = .ok (.getfield 26, 3) := by decide +kernel
theorem dX7_end_35 : decode cX7_end 35 = .ok (.getfield 132, 3) := by decide +kernel
theorem dX7_end_38 : decode cX7_end 38 = .ok (.iload_n 1, 1) := by decide +kernel
theorem dX7_end_39 : decode cX7_end 39 = .ok (.iaload, 1) := by decide +kernel
theorem dX7_end_40 : decode cX7_end 40 = .ok (.iconst 4, 1) := by decide +kernel
theorem dX7_end_41 : decode cX7_end 41 = .ok (.iload_n 2, 1) := by decide +kernel
theorem dX7_end_42 : decode cX7_end 42 = .ok (.imul, 1) := by decide +kernel
theorem dX7_end_43 : decode cX7_end 43 = .ok (.iushr, 1) := by decide +kernel
theorem dX7_end_44 : decode cX7_end 44 = .ok (.bipush 15, 2) := by decide +kernel
theorem dX7_end_46 : decode cX7_end 46 = .ok (.iand, 1) := by decide +kernel
theorem dX7_end_47 : decode cX7_end 47 = .ok (.ireturn, 1) := by decide +kernel
set_option maxRecDepth 20000 in
theorem ggX7_way_X0_hasEnd : GoodIn wsX7_way wsX0_hasEnd := goodIn_r _ [6, 7, 38, 39, 40, 41, 42, 43, 44, 45, 46, 47] (by decide +kernel) (by decide +kernel)
set_option maxRecDepth 20000 in
theorem gX7_way_X0_hasEnd : GoodIn wsX7_way (wsV RX7 128 RX0 yX0_hasEnd wsX0_hasEnd) := goodIn_app (goodIn_of _ (by decide +kernel)) ggX7_way_X0_hasEnd
set_option maxRecDepth 20000 in
theorem ggX7_way_X0_wayLength : GoodIn wsX7_way wsX0_wayLength := goodIn_r _ [11, 12, 13, 38, 39, 40, 41, 42, 43, 44, 45, 46, 47] (by decide +kernel) (by decide +kernel)
set_option maxRecDepth 20000 in
theorem gX7_way_X0_wayLength : GoodIn wsX7_way (wsV RX7 135 RX0 yX0_wayLength wsX0_wayLength) := goodIn_app (goodIn_of _ (by decide +kernel)) ggX7_way_X0_wayLength
set_option maxRecDepth 20000 in
theorem ggX7_way_X7_isWithin : GoodIn wsX7_way wsX7_isWithin := goodIn_r _ [17] (by decide +kernel) (by decide +kernel)
set_option maxRecDepth 20000 in
theorem gX7_way_X7_isWithin : GoodIn wsX7_way (va_wsS RX7 61 yX7_isWithin wsX7_isWithin) := goodIn_app (goodIn_of _ (by decide +kernel)) ggX7_way_X7_isWithin
set_option maxRecDepth 20000 in
theorem ggX7_way_X0_stepBefore : GoodIn wsX7_way wsX0_stepBefore := goodIn_r _ [21, 12, 13, 22, 38, 39, 40, 41, 42, 43, 44, 45, 46, 47] (by decide +kernel) (by decide +kernel)
set_option maxRecDepth 20000 in
theorem gX7_way_X0_stepBefore : GoodIn wsX7_way (wsV RX7 138 RX0 yX0_stepBefore wsX0_stepBefore) := goodIn_app (goodIn_of _ (by decide +kernel)) ggX7_way_X0_stepBefore
set_option maxRecDepth 20000 in
theorem ggX7_way_X6_source : GoodIn wsX7_way wsX6_source := goodIn_r _ [26] (by decide +kernel) (by decide +kernel)
set_option maxRecDepth 20000 in
theorem gX7_way_X6_source : GoodIn wsX7_way (va_wsS RX7 141 yX6_source wsX6_source) := goodIn_app (goodIn_of _ (by decide +kernel)) ggX7_way_X6_source
set_option maxRecDepth 20000 in
theorem ggX7_way_X6_message : GoodIn wsX7_way wsX6_message := goodIn_r _ [29] (by decide +kernel) (by decide +kernel)
set_option maxRecDepth 20000 in
theorem gX7_way_X6_message : GoodIn wsX7_way (va_wsS RX7 146 yX6_message wsX6_message) := goodIn_app (goodIn_of _ (by decide +kernel)) ggX7_way_X6_message
set_option maxRecDepth 20000 in
theorem ggX7_way_X6_doubled : GoodIn wsX7_way wsX6_doubled := goodIn_r _ [32] (by decide +kernel) (by decide +kernel)
set_option maxRecDepth 20000 in
theorem gX7_way_X6_doubled : GoodIn wsX7_way (va_wsS RX7 149 yX6_doubled wsX6_doubled) := goodIn_app (goodIn_of _ (by decide +kernel)) ggX7_way_X6_doubled
theorem dX7_way_0 : decode cX7_way 0 = .ok (.aload_n 0, 1) := by decide +kernel
theorem dX7_way_1 : decode cX7_way 1 = .ok (.getfield 26, 3) := by decide +kernel
theorem dX7_way_4 : decode cX7_way 4 = .ok (.iload_n 1, 1) := by decide +kernel
theorem dX7_way_5 : decode cX7_way 5 = .ok (.invokevirtual 128, 3) := by decide +kernel
theorem dX7_way_8 : decode cX7_way 8 = .ok (.ifCond .ne 6, 3) := by decide +kernel
theorem dX7_way_11 : decode cX7_way 11 = .ok (.bipush (-101), 2) := by decide +kernel
theorem dX7_way_13 : decode cX7_way 13 = .ok (.ireturn, 1) := by decide +kernel
theorem dX7_way_14 : decode cX7_way 14 = .ok (.aload_n 0, 1) := by decide +kernel
theorem dX7_way_15 : decode cX7_way 15 = .ok (.getfield 26, 3) := by decide +kernel
theorem dX7_way_18 : decode cX7_way 18 = .ok (.iload_n 1, 1) := by decide +kernel
theorem dX7_way_19 : decode cX7_way 19 = .ok (.invokevirtual 135, 3) := by decide +kernel
theorem dX7_way_22 : decode cX7_way 22 = .ok (.istore 4, 2) := by decide +kernel
theorem dX7_way_24 : decode cX7_way 24 = .ok (.iload_n 2, 1) := by decide +kernel
theorem dX7_way_25 : decode cX7_way 25 = .ok (.iconst (-1), 1) := by decide +kernel
theorem dX7_way_26 : decode cX7_way 26 = .ok (.if_icmp .ne 6, 3) := by decide +kernel
theorem dX7_way_29 : decode cX7_way 29 = .ok (.iload 4, 2) := by decide +kernel
theorem dX7_way_31 : decode cX7_way 31 = .ok (.ireturn, 1) := by decide +kernel
theorem dX7_way_32 : decode cX7_way 32 = .ok (.iload_n 2, 1) := by decide +kernel
theorem dX7_way_33 : decode cX7_way 33 = .ok (.iconst 0, 1) := by decide +kernel
theorem dX7_way_34 : decode cX7_way 34 = .ok (.iload 4, 2) := by decide +kernel
theorem dX7_way_36 : decode cX7_way 36 = .ok (.iconst 1, 1) := by decide +kernel
theorem dX7_way_37 : decode cX7_way 37 = .ok (.isub, 1) := by decide +kernel
theorem dX7_way_38 : decode cX7_way 38 = .ok (.invokestatic 61, 3) := by decide +kernel
theorem dX7_way_41 : decode cX7_way 41 = .ok (.ifCond .ne 6, 3) := by decide +kernel
theorem dX7_way_44 : decode cX7_way 44 = .ok (.bipush (-101), 2) := by decide +kernel
theorem dX7_way_46 : decode cX7_way 46 = .ok (.ireturn, 1) := by decide +kernel
theorem dX7_way_47 : decode cX7_way 47 = .ok (.aload_n 0, 1) := by decide +kernel
theorem dX7_way_48 : decode cX7_way 48 = .ok (.getfield 26, 3) := by decide +kernel
theorem dX7_way_51 : decode cX7_way 51 = .ok (.iload_n 1, 1) := by decide +kernel
theorem dX7_way_52 : decode cX7_way 52 = .ok (.iload 4, 2) := by decide +kernel
theorem dX7_way_54 : decode cX7_way 54 = .ok (.iconst 1, 1) := by decide +kernel
theorem dX7_way_55 : decode cX7_way 55 = .ok (.isub, 1) := by decide +kernel
theorem dX7_way_56 : decode cX7_way 56 = .ok (.iload_n 2, 1) := by decide +kernel
theorem dX7_way_57 : decode cX7_way 57 = .ok (.isub, 1) := by decide +kernel
theorem dX7_way_58 : decode cX7_way 58 = .ok (.invokevirtual 138, 3) := by decide +kernel
theorem dX7_way_61 : decode cX7_way 61 = .ok (.istore 5, 2) := by decide +kernel
theorem dX7_way_63 : decode cX7_way 63 = .ok (.iload_n 3, 1) := by decide +kernel
theorem dX7_way_64 : decode cX7_way 64 = .ok (.tableswitch 46 0 2 #[28, 34, 40], 28) := by decide +kernel
theorem dX7_way_92 : decode cX7_way 92 = .ok (.iload 5, 2) := by decide +kernel
theorem dX7_way_94 : decode cX7_way 94 = .ok (.invokestatic 141, 3) := by decide +kernel
theorem dX7_way_97 : decode cX7_way 97 = .ok (.ireturn, 1) := by decide +kernel
theorem dX7_way_98 : decode cX7_way 98 = .ok (.iload 5, 2) := by decide +kernel
theorem dX7_way_100 : decode cX7_way 100 = .ok (.invokestatic 146, 3) := by decide +kernel
theorem dX7_way_103 : decode cX7_way 103 = .ok (.ireturn, 1) := by decide +kernel
theorem dX7_way_104 : decode cX7_way 104 = .ok (.iload 5, 2) := by decide +kernel
theorem dX7_way_106 : decode cX7_way 106 = .ok (.invokestatic 149, 3) := by decide +kernel
theorem dX7_way_109 : decode cX7_way 109 = .ok (.ireturn, 1) := by decide +kernel
theorem dX7_way_110 : decode cX7_way 110 = .ok (.bipush (-102), 2) := by decide +kernel
theorem dX7_way_112 : decode cX7_way 112 = .ok (.ireturn, 1) := by decide +kernel
set_option maxRecDepth 20000 in
theorem ggX7_shrink_X7_isWithin : GoodIn wsX7_shrink wsX7_isWithin := goodIn_r _ [9] (by decide +kernel) (by decide +kernel)
set_option maxRecDepth 20000 in
theorem gX7_shrink_X7_isWithin : GoodIn wsX7_shrink (va_wsS RX7 61 yX7_isWithin wsX7_isWithin) := goodIn_app (goodIn_of _ (by decide +kernel)) ggX7_shrink_X7_isWithin
set_option maxRecDepth 20000 in
theorem ggX7_shrink_X1_allArcs : GoodIn wsX7_shrink wsX1_allArcs := goodIn_r _ [14, 15, 254, 255, 256, 257, 258, 259, 260, 261, 262] (by decide +kernel) (by decide +kernel)
set_option maxRecDepth 20000 in
theorem gX7_shrink_X1_allArcs : GoodIn wsX7_shrink (wsV RX7 104 RX1 yX1_allArcs wsX1_allArcs) := goodIn_app (goodIn_of _ (by decide +kernel)) ggX7_shrink_X1_allArcs
set_option maxRecDepth 20000 in
theorem ggX7_shrink_X3_run : GoodIn wsX7_shrink wsX3_run := goodIn_r _ [20, 21, 22, 23, 24, 25, 26, 27, 28, 29, 30, 31, 32, 33, 34, 35, 36, 37, 38, 39, 40, 41, 42, 43, 44, 45, 46, 47, 48, 49, 50, 51, 52, 53, 54, 55, 56, 57, 58, 59, 60, 61, 62, 63, 64, 65, 66, 67, 68, 69, 70, 19, 71, 72, 73, 74, 75, 76, 77, 78, 79, 80, 81, 82, 83, 84, 85, 86, 87, 88, 89, 90, 91, 92, 93, 94, 95, 96, 97, 98, 99, 100, 101, 102, 103, 104, 105, 106, 107, 108, 109, 110, 111, 112, 113, 114, 115, 116, 117, 118, 119, 120, 121, 122, 123, 124, 125, 126, 127, 128, 129, 130, 131, 132, 133, 134, 135, 136, 137, 138, 139, 140, 141, 142, 143, 144, 145, 146, 147, 148, 149, 150, 151, 152, 153, 154, 155, 156, 157, 158, 159, 160, 161, 162, 163, 164, 165, 166, 167, 168, 169, 170, 171, 172, 173, 174, 175, 176, 177, 178, 179, 180, 181, 182, 183, 184, 185, 186, 187, 188, 189, 190, 191, 192, 193, 194, 195, 196, 197, 198, 199, 200, 201, 202, 203, 204, 205, 206, 207, 208, 209, 210, 211, 212, 213, 214, 215, 216, 217, 218, 219, 220, 221, 222, 223, 224, 225, 226, 227, 228, 229, 230, 231, 232, 233, 234, 235, 236, 237, 238, 263, 264, 265, 266, 267, 268, 269, 270, 271, 254, 255, 256, 257, 258, 259, 260, 261, 262, 272, 273, 274, 275, 276, 277, 278, 244, 245, 246, 247, 248, 249, 250, 251, 252, 253, 279, 280, 281] (by decide +kernel) (by decide +kernel)
set_option maxRecDepth 20000 in
theorem gX7_shrink_X3_run : GoodIn wsX7_shrink (wsV RX7 108 RX3 yX3_run wsX3_run) := goodIn_app (goodIn_of _ (by decide +kernel)) ggX7_shrink_X3_run
theorem dX7_shrink_0 : decode cX7_shrink 0 = .ok (.iload_n 1, 1) := by decide +kernel
theorem dX7_shrink_1 : decode cX7_shrink 1 = .ok (.iconst 1, 1) := by decide +kernel
theorem dX7_shrink_2 : decode cX7_shrink 2 = .ok (.sipush 600, 3) := by decide +kernel
theorem dX7_shrink_5 : decode cX7_shrink 5 = .ok (.invokestatic 61, 3) := by decide +kernel
theorem dX7_shrink_8 : decode cX7_shrink 8 = .ok (.ifCond .ne 6, 3) := by decide +kernel
theorem dX7_shrink_11 : decode cX7_shrink 11 = .ok (.bipush (-102), 2) := by decide +kernel
theorem dX7_shrink_13 : decode cX7_shrink 13 = .ok (.ireturn, 1) := by decide +kernel
theorem dX7_shrink_14 : decode cX7_shrink 14 = .ok (.aload_n 0, 1) := by decide +kernel
theorem dX7_shrink_15 : decode cX7_shrink 15 = .ok (.getfield 10, 3) := by decide +kernel
theorem dX7_shrink_18 : decode cX7_shrink 18 = .ok (.invokevirtual 104, 3) := by decide +kernel
theorem dX7_shrink_21 : decode cX7_shrink 21 = .ok (.istore_n 2, 1) := by decide +kernel
theorem dX7_shrink_22 : decode cX7_shrink 22 = .ok (.aload_n 0, 1) := by decide +kernel
theorem dX7_shrink_23 : decode cX7_shrink 23 = .ok (.getfield 38, 3) := by decide +kernel
theorem dX7_shrink_26 : decode cX7_shrink 26 = .ok (.iload_n 1, 1) := by decide +kernel
theorem dX7_shrink_27 : decode cX7_shrink 27 = .ok (.iload_n 2, 1) := by decide +kernel
theorem dX7_shrink_28 : decode cX7_shrink 28 = .ok (.aload_n 0, 1) := by decide +kernel
theorem dX7_shrink_29 : decode cX7_shrink 29 = .ok (.getfield 30, 3) := by decide +kernel
theorem dX7_shrink_32 : decode cX7_shrink 32 = .ok (.invokevirtual 108, 3) := by decide +kernel
theorem dX7_shrink_35 : decode cX7_shrink 35 = .ok (.aload_n 0, 1) := by decide +kernel
theorem dX7_shrink_36 : decode cX7_shrink 36 = .ok (.getfield 30, 3) := by decide +kernel
theorem dX7_shrink_39 : decode cX7_shrink 39 = .ok (.getfield 119, 3) := by decide +kernel
theorem dX7_shrink_42 : decode cX7_shrink 42 = .ok (.iconst 2, 1) := by decide +kernel
theorem dX7_shrink_43 : decode cX7_shrink 43 = .ok (.if_icmp .ge 5, 3) := by decide +kernel
theorem dX7_shrink_46 : decode cX7_shrink 46 = .ok (.iconst (-1), 1) := by decide +kernel
theorem dX7_shrink_47 : decode cX7_shrink 47 = .ok (.ireturn, 1) := by decide +kernel
theorem dX7_shrink_48 : decode cX7_shrink 48 = .ok (.iconst 0, 1) := by decide +kernel
theorem dX7_shrink_49 : decode cX7_shrink 49 = .ok (.istore_n 3, 1) := by decide +kernel
theorem dX7_shrink_50 : decode cX7_shrink 50 = .ok (.iload_n 3, 1) := by decide +kernel
theorem dX7_shrink_51 : decode cX7_shrink 51 = .ok (.aload_n 0, 1) := by decide +kernel
theorem dX7_shrink_52 : decode cX7_shrink 52 = .ok (.getfield 10, 3) := by decide +kernel
theorem dX7_shrink_55 : decode cX7_shrink 55 = .ok (.getfield 98, 3) := by decide +kernel
theorem dX7_shrink_58 : decode cX7_shrink 58 = .ok (.if_icmp .ge 46, 3) := by decide +kernel
theorem dX7_shrink_61 : decode cX7_shrink 61 = .ok (.iload_n 2, 1) := by decide +kernel
theorem dX7_shrink_62 : decode cX7_shrink 62 = .ok (.iconst 1, 1) := by decide +kernel
theorem dX7_shrink_63 : decode cX7_shrink 63 = .ok (.iload_n 3, 1) := by decide +kernel
theorem dX7_shrink_64 : decode cX7_shrink 64 = .ok (.ishl, 1) := by decide +kernel
theorem dX7_shrink_65 : decode cX7_shrink 65 = .ok (.iconst (-1), 1) := by decide +kernel
theorem dX7_shrink_66 : decode cX7_shrink 66 = .ok (.ixor, 1) := by decide +kernel
theorem dX7_shrink_67 : decode cX7_shrink 67 = .ok (.iand, 1) := by decide +kernel
theorem dX7_shrink_68 : decode cX7_shrink 68 = .ok (.istore 4, 2) := by decide +kernel
theorem dX7_shrink_70 : decode cX7_shrink 70 = .ok (.aload_n 0, 1) := by decide +kernel
theorem dX7_shrink_71 : decode cX7_shrink 71 = .ok (.getfield 38, 3) := by decide +kernel
theorem dX7_shrink_74 : decode cX7_shrink 74 = .ok (.iload_n 1, 1) := by decide +kernel
theorem dX7_shrink_75 : decode cX7_shrink 75 = .ok (.iload 4, 2) := by decide +kernel
theorem dX7_shrink_77 : decode cX7_shrink 77 = .ok (.aload_n 0, 1) := by decide +kernel
theorem dX7_shrink_78 : decode cX7_shrink 78 = .ok (.getfield 30, 3) := by decide +kernel
theorem dX7_shrink_81 : decode cX7_shrink 81 = .ok (.invokevirtual 108, 3) := by decide +kernel
theorem dX7_shrink_84 : decode cX7_shrink 84 = .ok (.aload_n 0, 1) := by decide +kernel
theorem dX7_shrink_85 : decode cX7_shrink 85 = .ok (.getfield 30, 3) := by decide +kernel
theorem dX7_shrink_88 : decode cX7_shrink 88 = .ok (.getfield 119, 3) := by decide +kernel
theorem dX7_shrink_91 : decode cX7_shrink 91 = .ok (.iconst 2, 1) := by decide +kernel
theorem dX7_shrink_92 : decode cX7_shrink 92 = .ok (.if_icmp .lt 6, 3) := by decide +kernel
theorem dX7_shrink_95 : decode cX7_shrink 95 = .ok (.iload 4, 2) := by decide +kernel
theorem dX7_shrink_97 : decode cX7_shrink 97 = .ok (.istore_n 2, 1) := by decide +kernel
theorem dX7_shrink_98 : decode cX7_shrink 98 = .ok (.iinc 3 1, 3) := by decide +kernel
theorem dX7_shrink_101 : decode cX7_shrink 101 = .ok (.goto (-51), 3) := by decide +kernel
theorem dX7_shrink_104 : decode cX7_shrink 104 = .ok (.iload_n 2, 1) := by decide +kernel
theorem dX7_shrink_105 : decode cX7_shrink 105 = .ok (.ireturn, 1) := by decide +kernel
theorem dX7_isWithin_0 : decode cX7_isWithin 0 = .ok (.iload_n 0, 1) := by decide +kernel
theorem dX7_isWithin_1 : decode cX7_isWithin 1 = .ok (.iload_n 1, 1) := by decide +kernel
theorem dX7_isWithin_2 : decode cX7_isWithin 2 = .ok (.if_icmp .lt 12, 3) := by decide +kernel
theorem dX7_isWithin_5 : decode cX7_isWithin 5 = .ok (.iload_n 0, 1) := by decide +kernel
theorem dX7_isWithin_6 : decode cX7_isWithin 6 = .ok (.iload_n 2, 1) := by decide +kernel
theorem dX7_isWithin_7 : decode cX7_isWithin 7 = .ok (.if_icmp .gt 7, 3) := by decide +kernel
theorem dX7_isWithin_10 : decode cX7_isWithin 10 = .ok (.iconst 1, 1) := by decide +kernel
theorem dX7_isWithin_11 : decode cX7_isWithin 11 = .ok (.goto 4, 3) := by decide +kernel
theorem dX7_isWithin_14 : decode cX7_isWithin 14 = .ok (.iconst 0, 1) := by decide +kernel
theorem dX7_isWithin_15 : decode cX7_isWithin 15 = .ok (.ireturn, 1) := by decide +kernel
theorem dX7_isValue_0 : decode cX7_isValue 0 = .ok (.iload_n 0, 1) := by decide +kernel
theorem dX7_isValue_1 : decode cX7_isValue 1 = .ok (.ifCond .lt 13, 3) := by decide +kernel
theorem dX7_isValue_4 : decode cX7_isValue 4 = .ok (.iload_n 0, 1) := by decide +kernel
theorem dX7_isValue_5 : decode cX7_isValue 5 = .ok (.bipush 15, 2) := by decide +kernel
theorem dX7_isValue_7 : decode cX7_isValue 7 = .ok (.if_icmp .gt 7, 3) := by decide +kernel
theorem dX7_isValue_10 : decode cX7_isValue 10 = .ok (.iconst 1, 1) := by decide +kernel
theorem dX7_isValue_11 : decode cX7_isValue 11 = .ok (.goto 4, 3) := by decide +kernel
theorem dX7_isValue_14 : decode cX7_isValue 14 = .ok (.iconst 0, 1) := by decide +kernel
theorem dX7_isValue_15 : decode cX7_isValue 15 = .ok (.ireturn, 1) := by decide +kernel
theorem dX8_init_0 : decode cX8_init 0 = .ok (.aload_n 0, 1) := by decide +kernel
theorem dX8_init_1 : decode cX8_init 1 = .ok (.invokespecial 1, 3) := by decide +kernel
theorem dX8_init_4 : decode cX8_init 4 = .ok (.aload_n 0, 1) := by decide +kernel
theorem dX8_init_5 : decode cX8_init 5 = .ok (.iconst 5, 1) := by decide +kernel
theorem dX8_init_6 : decode cX8_init 6 = .ok (.newarray .int, 2) := by decide +kernel
theorem dX8_init_8 : decode cX8_init 8 = .ok (.putfield 7, 3) := by decide +kernel
theorem dX8_init_11 : decode cX8_init 11 = .ok (.aload_n 0, 1) := by decide +kernel
theorem dX8_init_12 : decode cX8_init 12 = .ok (.bipush 8, 2) := by decide +kernel
theorem dX8_init_14 : decode cX8_init 14 = .ok (.newarray .int, 2) := by decide +kernel
theorem dX8_init_16 : decode cX8_init 16 = .ok (.putfield 13, 3) := by decide +kernel
theorem dX8_init_19 : decode cX8_init 19 = .ok (.aload_n 0, 1) := by decide +kernel
theorem dX8_init_20 : decode cX8_init 20 = .ok (.bipush 8, 2) := by decide +kernel
theorem dX8_init_22 : decode cX8_init 22 = .ok (.newarray .int, 2) := by decide +kernel
theorem dX8_init_24 : decode cX8_init 24 = .ok (.putfield 16, 3) := by decide +kernel
theorem dX8_init_27 : decode cX8_init 27 = .ok (.aload_n 0, 1) := by decide +kernel
theorem dX8_init_28 : decode cX8_init 28 = .ok (.bipush 8, 2) := by decide +kernel
theorem dX8_init_30 : decode cX8_init 30 = .ok (.newarray .int, 2) := by decide +kernel
theorem dX8_init_32 : decode cX8_init 32 = .ok (.putfield 19, 3) := by decide +kernel
theorem dX8_init_35 : decode cX8_init 35 = .ok (.aload_n 0, 1) := by decide +kernel
theorem dX8_init_36 : decode cX8_init 36 = .ok (.iconst 4, 1) := by decide +kernel
theorem dX8_init_37 : decode cX8_init 37 = .ok (.newarray .int, 2) := by decide +kernel
theorem dX8_init_39 : decode cX8_init 39 = .ok (.putfield 22, 3) := by decide +kernel
theorem dX8_init_42 : decode cX8_init 42 = .ok (.aload_n 0, 1) := by decide +kernel
theorem dX8_init_43 : decode cX8_init 43 = .ok (.iconst 4, 1) := by decide +kernel
theorem dX8_init_44 : decode cX8_init 44 = .ok (.newarray .int, 2) := by decide +kernel
theorem dX8_init_46 : decode cX8_init 46 = .ok (.putfield 25, 3) := by decide +kernel
theorem dX8_init_49 : decode cX8_init 49 = .ok (.aload_n 0, 1) := by decide +kernel
theorem dX8_init_50 : decode cX8_init 50 = .ok (.bipush 6, 2) := by decide +kernel
theorem dX8_init_52 : decode cX8_init 52 = .ok (.newarray .int, 2) := by decide +kernel
theorem dX8_init_54 : decode cX8_init 54 = .ok (.dup, 1) := by decide +kernel
theorem dX8_init_55 : decode cX8_init 55 = .ok (.iconst 0, 1) := by decide +kernel
theorem dX8_init_56 : decode cX8_init 56 = .ok (.iconst 0, 1) := by decide +kernel
theorem dX8_init_57 : decode cX8_init 57 = .ok (.iastore, 1) := by decide +kernel
theorem dX8_init_58 : decode cX8_init 58 = .ok (.dup, 1) := by decide +kernel
theorem dX8_init_59 : decode cX8_init 59 = .ok (.iconst 1, 1) := by decide +kernel
theorem dX8_init_60 : decode cX8_init 60 = .ok (.iconst 0, 1) := by decide +kernel
theorem dX8_init_61 : decode cX8_init 61 = .ok (.iastore, 1) := by decide +kernel
theorem dX8_init_62 : decode cX8_init 62 = .ok (.dup, 1) := by decide +kernel
theorem dX8_init_63 : decode cX8_init 63 = .ok (.iconst 2, 1) := by decide +kernel
theorem dX8_init_64 : decode cX8_init 64 = .ok (.iconst 0, 1) := by decide +kernel
theorem dX8_init_65 : decode cX8_init 65 = .ok (.iastore, 1) := by decide +kernel
theorem dX8_init_66 : decode cX8_init 66 = .ok (.dup, 1) := by decide +kernel
theorem dX8_init_67 : decode cX8_init 67 = .ok (.iconst 3, 1) := by decide +kernel
theorem dX8_init_68 : decode cX8_init 68 = .ok (.iconst 1, 1) := by decide +kernel
theorem dX8_init_69 : decode cX8_init 69 = .ok (.iastore, 1) := by decide +kernel
theorem dX8_init_70 : decode cX8_init 70 = .ok (.dup, 1) := by decide +kernel
theorem dX8_init_71 : decode cX8_init 71 = .ok (.iconst 4, 1) := by decide +kernel
theorem dX8_init_72 : decode cX8_init 72 = .ok (.iconst 0, 1) := by decide +kernel
theorem dX8_init_73 : decode cX8_init 73 = .ok (.iastore, 1) := by decide +kernel
theorem dX8_init_74 : decode cX8_init 74 = .ok (.dup, 1) := by decide +kernel
theorem dX8_init_75 : decode cX8_init 75 = .ok (.iconst 5, 1) := by decide +kernel
theorem dX8_init_76 : decode cX8_init 76 = .ok (.iconst 0, 1) := by decide +kernel
theorem dX8_init_77 : decode cX8_init 77 = .ok (.iastore, 1) := by decide +kernel
theorem dX8_init_78 : decode cX8_init 78 = .ok (.putfield 28, 3) := by decide +kernel
theorem dX8_init_81 : decode cX8_init 81 = .ok (.aload_n 0, 1) := by decide +kernel
theorem dX8_init_82 : decode cX8_init 82 = .ok (.sipush 256, 3) := by decide +kernel
theorem dX8_init_85 : decode cX8_init 85 = .ok (.newarray .int, 2) := by decide +kernel
theorem dX8_init_87 : decode cX8_init 87 = .ok (.putfield 31, 3) := by decide +kernel
theorem dX8_init_90 : decode cX8_init 90 = .ok (.aload_n 0, 1) := by decide +kernel
theorem dX8_init_91 : decode cX8_init 91 = .ok (.ldc 34, 2) := by decide +kernel
theorem dX8_init_93 : decode cX8_init 93 = .ok (.newarray .byte, 2) := by decide +kernel
theorem dX8_init_95 : decode cX8_init 95 = .ok (.putfield 35, 3) := by decide +kernel
theorem dX8_init_98 : decode cX8_init 98 = .ok (.aload_n 0, 1) := by decide +kernel
theorem dX8_init_99 : decode cX8_init 99 = .ok (.sipush 2048, 3) := by decide +kernel
theorem dX8_init_102 : decode cX8_init 102 = .ok (.newarray .int, 2) := by decide +kernel
theorem dX8_init_104 : decode cX8_init 104 = .ok (.putfield 39, 3) := by decide +kernel
theorem dX8_init_107 : decode cX8_init 107 = .ok (.aload_n 0, 1) := by decide +kernel
theorem dX8_init_108 : decode cX8_init 108 = .ok (.sipush 148, 3) := by decide +kernel
theorem dX8_init_111 : decode cX8_init 111 = .ok (.newarray .byte, 2) := by decide +kernel
theorem dX8_init_113 : decode cX8_init 113 = .ok (.putfield 42, 3) := by decide +kernel
theorem dX8_init_116 : decode cX8_init 116 = .ok (.aload_n 0, 1) := by decide +kernel
theorem dX8_init_117 : decode cX8_init 117 = .ok (.sipush 600, 3) := by decide +kernel
theorem dX8_init_120 : decode cX8_init 120 = .ok (.newarray .int, 2) := by decide +kernel
theorem dX8_init_122 : decode cX8_init 122 = .ok (.putfield 45, 3) := by decide +kernel
theorem dX8_init_125 : decode cX8_init 125 = .ok (.aload_n 0, 1) := by decide +kernel
theorem dX8_init_126 : decode cX8_init 126 = .ok (.sipush 3000, 3) := by decide +kernel
theorem dX8_init_129 : decode cX8_init 129 = .ok (.newarray .byte, 2) := by decide +kernel
theorem dX8_init_131 : decode cX8_init 131 = .ok (.putfield 48, 3) := by decide +kernel
theorem dX8_init_134 : decode cX8_init 134 = .ok (.aload_n 0, 1) := by decide +kernel
theorem dX8_init_135 : decode cX8_init 135 = .ok (.sipush 600, 3) := by decide +kernel
theorem dX8_init_138 : decode cX8_init 138 = .ok (.newarray .int, 2) := by decide +kernel
theorem dX8_init_140 : decode cX8_init 140 = .ok (.putfield 51, 3) := by decide +kernel
theorem dX8_init_143 : decode cX8_init 143 = .ok (.aload_n 0, 1) := by decide +kernel
theorem dX8_init_144 : decode cX8_init 144 = .ok (.sipush 600, 3) := by decide +kernel
theorem dX8_init_147 : decode cX8_init 147 = .ok (.newarray .int, 2) := by decide +kernel
theorem dX8_init_149 : decode cX8_init 149 = .ok (.putfield 54, 3) := by decide +kernel
theorem dX8_init_152 : decode cX8_init 152 = .ok (.aload_n 0, 1) := by decide +kernel
theorem dX8_init_153 : decode cX8_init 153 = .ok (.sipush 600, 3) := by decide +kernel
theorem dX8_init_156 : decode cX8_init 156 = .ok (.newarray .int, 2) := by decide +kernel
theorem dX8_init_158 : decode cX8_init 158 = .ok (.putfield 57, 3) := by decide +kernel
theorem dX8_init_161 : decode cX8_init 161 = .ok (.aload_n 0, 1) := by decide +kernel
theorem dX8_init_162 : decode cX8_init 162 = .ok (.sipush 600, 3) := by decide +kernel
theorem dX8_init_165 : decode cX8_init 165 = .ok (.newarray .int, 2) := by decide +kernel
theorem dX8_init_167 : decode cX8_init 167 = .ok (.putfield 60, 3) := by decide +kernel
theorem dX8_init_170 : decode cX8_init 170 = .ok (.aload_n 0, 1) := by decide +kernel
theorem dX8_init_171 : decode cX8_init 171 = .ok (.iconst 0, 1) := by decide +kernel
theorem dX8_init_172 : decode cX8_init 172 = .ok (.putfield 63, 3) := by decide +kernel
theorem dX8_init_175 : decode cX8_init 175 = .ok (.return_, 1) := by decide +kernel
theorem dX8_in_0 : decode cX8_in 0 = .ok (.iload_n 0, 1) := by decide +kernel
theorem dX8_in_1 : decode cX8_in 1 = .ok (.iload_n 1, 1) := by decide +kernel
theorem dX8_in_2 : decode cX8_in 2 = .ok (.if_icmp .lt 12, 3) := by decide +kernel
theorem dX8_in_5 : decode cX8_in 5 = .ok (.iload_n 0, 1) := by decide +kernel
theorem dX8_in_6 : decode cX8_in 6 = .ok (.iload_n 2, 1) := by decide +kernel
theorem dX8_in_7 : decode cX8_in 7 = .ok (.if_icmp .gt 7, 3) := by decide +kernel
theorem dX8_in_10 : decode cX8_in 10 = .ok (.iconst 1, 1) := by decide +kernel
theorem dX8_in_11 : decode cX8_in 11 = .ok (.goto 4, 3) := by decide +kernel
theorem dX8_in_14 : decode cX8_in 14 = .ok (.iconst 0, 1) := by decide +kernel
theorem dX8_in_15 : decode cX8_in 15 = .ok (.ireturn, 1) := by decide +kernel
set_option maxRecDepth 20000 in
theorem ggX8_vertex_X8_in : GoodIn wsX8_vertex wsX8_in := goodIn_r _ [6] (by decide +kernel) (by decide +kernel)
set_option maxRecDepth 20000 in
theorem gX8_vertex_X8_in : GoodIn wsX8_vertex (va_wsS RX8 67 yX8_in wsX8_in) := goodIn_app (goodIn_of _ (by decide +kernel)) ggX8_vertex_X8_in
theorem dX8_vertex_0 : decode cX8_vertex 0 = .ok (.iload_n 1, 1) := by decide +kernel
theorem dX8_vertex_1 : decode cX8_vertex 1 = .ok (.iconst 0, 1) := by decide +kernel
theorem dX8_vertex_2 : decode cX8_vertex 2 = .ok (.bipush 15, 2) := by decide +kernel
theorem dX8_vertex_4 : decode cX8_vertex 4 = .ok (.invokestatic 67, 3) := by decide +kernel
theorem dX8_vertex_7 : decode cX8_vertex 7 = .ok (.ifCond .ne 6, 3) := by decide +kernel
theorem dX8_vertex_10 : decode cX8_vertex 10 = .ok (.bipush (-102), 2) := by decide +kernel
theorem dX8_vertex_12 : decode cX8_vertex 12 = .ok (.ireturn, 1) := by decide +kernel
theorem dX8_vertex_13 : decode cX8_vertex 13 = .ok (.aload_n 0, 1) := by decide +kernel
theorem dX8_vertex_14 : decode cX8_vertex 14 = .ok (.getfield 71, 3) := by decide +kernel
theorem dX8_vertex_17 : decode cX8_vertex 17 = .ok (.iconst 5, 1) := by decide +kernel
theorem dX8_vertex_18 : decode cX8_vertex 18 = .ok (.if_icmp .ne 6, 3) := by decide +kernel
theorem dX8_vertex_21 : decode cX8_vertex 21 = .ok (.bipush (-104), 2) := by decide +kernel
theorem dX8_vertex_23 : decode cX8_vertex 23 = .ok (.ireturn, 1) := by decide +kernel
theorem dX8_vertex_24 : decode cX8_vertex 24 = .ok (.aload_n 0, 1) := by decide +kernel
theorem dX8_vertex_25 : decode cX8_vertex 25 = .ok (.getfield 7, 3) := by decide +kernel
theorem dX8_vertex_28 : decode cX8_vertex 28 = .ok (.aload_n 0, 1) := by decide +kernel
theorem dX8_vertex_29 : decode cX8_vertex 29 = .ok (.getfield 71, 3) := by decide +kernel
theorem dX8_vertex_32 : decode cX8_vertex 32 = .ok (.iload_n 1, 1) := by decide +kernel
theorem dX8_vertex_33 : decode cX8_vertex 33 = .ok (.iastore, 1) := by decide +kernel
theorem dX8_vertex_34 : decode cX8_vertex 34 = .ok (.aload_n 0, 1) := by decide +kernel
theorem dX8_vertex_35 : decode cX8_vertex 35 = .ok (.dup, 1) := by decide +kernel
theorem dX8_vertex_36 : decode cX8_vertex 36 = .ok (.getfield 71, 3) := by decide +kernel
theorem dX8_vertex_39 : decode cX8_vertex 39 = .ok (.iconst 1, 1) := by decide +kernel
theorem dX8_vertex_40 : decode cX8_vertex 40 = .ok (.iadd, 1) := by decide +kernel
theorem dX8_vertex_41 : decode cX8_vertex 41 = .ok (.putfield 71, 3) := by decide +kernel
theorem dX8_vertex_44 : decode cX8_vertex 44 = .ok (.aload_n 0, 1) := by decide +kernel
theorem dX8_vertex_45 : decode cX8_vertex 45 = .ok (.getfield 71, 3) := by decide +kernel
theorem dX8_vertex_48 : decode cX8_vertex 48 = .ok (.iconst 1, 1) := by decide +kernel
theorem dX8_vertex_49 : decode cX8_vertex 49 = .ok (.isub, 1) := by decide +kernel
theorem dX8_vertex_50 : decode cX8_vertex 50 = .ok (.ireturn, 1) := by decide +kernel
set_option maxRecDepth 20000 in
theorem ggX8_arc_X8_in : GoodIn wsX8_arc wsX8_in := goodIn_r _ [9] (by decide +kernel) (by decide +kernel)
set_option maxRecDepth 20000 in
theorem gX8_arc_X8_in : GoodIn wsX8_arc (va_wsS RX8 67 yX8_in wsX8_in) := goodIn_app (goodIn_of _ (by decide +kernel)) ggX8_arc_X8_in
theorem dX8_arc_0 : decode cX8_arc 0 = .ok (.iload_n 1, 1) := by decide +kernel
theorem dX8_arc_1 : decode cX8_arc 1 = .ok (.iconst 0, 1) := by decide +kernel
theorem dX8_arc_2 : decode cX8_arc 2 = .ok (.aload_n 0, 1) := by decide +kernel
theorem dX8_arc_3 : decode cX8_arc 3 = .ok (.getfield 71, 3) := by decide +kernel
theorem dX8_arc_6 : decode cX8_arc 6 = .ok (.iconst 1, 1) := by decide +kernel
theorem dX8_arc_7 : decode cX8_arc 7 = .ok (.isub, 1) := by decide +kernel
theorem dX8_arc_8 : decode cX8_arc 8 = .ok (.invokestatic 67, 3) := by decide +kernel
theorem dX8_arc_11 : decode cX8_arc 11 = .ok (.ifCond .eq 17, 3) := by decide +kernel
theorem dX8_arc_14 : decode cX8_arc 14 = .ok (.iload_n 2, 1) := by decide +kernel
theorem dX8_arc_15 : decode cX8_arc 15 = .ok (.iconst 0, 1) := by decide +kernel
theorem dX8_arc_16 : decode cX8_arc 16 = .ok (.aload_n 0, 1) := by decide +kernel
theorem dX8_arc_17 : decode cX8_arc 17 = .ok (.getfield 71, 3) := by decide +kernel
theorem dX8_arc_20 : decode cX8_arc 20 = .ok (.iconst 1, 1) := by decide +kernel
theorem dX8_arc_21 : decode cX8_arc 21 = .ok (.isub, 1) := by decide +kernel
theorem dX8_arc_22 : decode cX8_arc 22 = .ok (.invokestatic 67, 3) := by decide +kernel
theorem dX8_arc_25 : decode cX8_arc 25 = .ok (.ifCond .ne 6, 3) := by decide +kernel
theorem dX8_arc_28 : decode cX8_arc 28 = .ok (.bipush (-101), 2) := by decide +kernel
theorem dX8_arc_30 : decode cX8_arc 30 = .ok (.ireturn, 1) := by decide +kernel
theorem dX8_arc_31 : decode cX8_arc 31 = .ok (.iload_n 3, 1) := by decide +kernel
theorem dX8_arc_32 : decode cX8_arc 32 = .ok (.iconst 0, 1) := by decide +kernel
theorem dX8_arc_33 : decode cX8_arc 33 = .ok (.bipush 15, 2) := by decide +kernel
theorem dX8_arc_35 : decode cX8_arc 35 = .ok (.invokestatic 67, 3) := by decide +kernel
theorem dX8_arc_38 : decode cX8_arc 38 = .ok (.ifCond .ne 6, 3) := by decide +kernel
theorem dX8_arc_41 : decode cX8_arc 41 = .ok (.bipush (-102), 2) := by decide +kernel
theorem dX8_arc_43 : decode cX8_arc 43 = .ok (.ireturn, 1) := by decide +kernel
theorem dX8_arc_44 : decode cX8_arc 44 = .ok (.aload_n 0, 1) := by decide +kernel
theorem dX8_arc_45 : decode cX8_arc 45 = .ok (.getfield 75, 3) := by decide +kernel
theorem dX8_arc_48 : decode cX8_arc 48 = .ok (.bipush 8, 2) := by decide +kernel
theorem dX8_arc_50 : decode cX8_arc 50 = .ok (.if_icmp .ne 6, 3) := by decide +kernel
theorem dX8_arc_53 : decode cX8_arc 53 = .ok (.bipush (-104), 2) := by decide +kernel
theorem dX8_arc_55 : decode cX8_arc 55 = .ok (.ireturn, 1) := by decide +kernel
theorem dX8_arc_56 : decode cX8_arc 56 = .ok (.aload_n 0, 1) := by decide +kernel
theorem dX8_arc_57 : decode cX8_arc 57 = .ok (.getfield 13, 3) := by decide +kernel
theorem dX8_arc_60 : decode cX8_arc 60 = .ok (.aload_n 0, 1) := by decide +kernel
theorem dX8_arc_61 : decode cX8_arc 61 = .ok (.getfield 75, 3) := by decide +kernel
theorem dX8_arc_64 : decode cX8_arc 64 = .ok (.iload_n 1, 1) := by decide +kernel
theorem dX8_arc_65 : decode cX8_arc 65 = .ok (.iastore, 1) := by decide +kernel
theorem dX8_arc_66 : decode cX8_arc 66 = .ok (.aload_n 0, 1) := by decide +kernel
theorem dX8_arc_67 : decode cX8_arc 67 = .ok (.getfield 16, 3) := by decide +kernel
theorem dX8_arc_70 : decode cX8_arc 70 = .ok (.aload_n 0, 1) := by decide +kernel
theorem dX8_arc_71 : decode cX8_arc 71 = .ok (.getfield 75, 3) := by decide +kernel
theorem dX8_arc_74 : decode cX8_arc 74 = .ok (.iload_n 2, 1) := by decide +kernel
theorem dX8_arc_75 : decode cX8_arc 75 = .ok (.iastore, 1) := by decide +kernel
theorem dX8_arc_76 : decode cX8_arc 76 = .ok (.aload_n 0, 1) := by decide +kernel
theorem dX8_arc_77 : decode cX8_arc 77 = .ok (.getfield 19, 3) := by decide +kernel
theorem dX8_arc_80 : decode cX8_arc 80 = .ok (.aload_n 0, 1) := by decide +kernel
theorem dX8_arc_81 : decode cX8_arc 81 = .ok (.getfield 75, 3) := by decide +kernel
theorem dX8_arc_84 : decode cX8_arc 84 = .ok (.iload_n 3, 1) := by decide +kernel
theorem dX8_arc_85 : decode cX8_arc 85 = .ok (.iastore, 1) := by decide +kernel
theorem dX8_arc_86 : decode cX8_arc 86 = .ok (.aload_n 0, 1) := by decide +kernel
theorem dX8_arc_87 : decode cX8_arc 87 = .ok (.dup, 1) := by decide +kernel
theorem dX8_arc_88 : decode cX8_arc 88 = .ok (.getfield 75, 3) := by decide +kernel
theorem dX8_arc_91 : decode cX8_arc 91 = .ok (.iconst 1, 1) := by decide +kernel
theorem dX8_arc_92 : decode cX8_arc 92 = .ok (.iadd, 1) := by decide +kernel
theorem dX8_arc_93 : decode cX8_arc 93 = .ok (.putfield 75, 3) := by decide +kernel
theorem dX8_arc_96 : decode cX8_arc 96 = .ok (.aload_n 0, 1) := by decide +kernel
theorem dX8_arc_97 : decode cX8_arc 97 = .ok (.getfield 75, 3) := by decide +kernel
theorem dX8_arc_100 : decode cX8_arc 100 = .ok (.iconst 1, 1) := by decide +kernel
theorem dX8_arc_101 : decode cX8_arc 101 = .ok (.isub, 1) := by decide +kernel
theorem dX8_arc_102 : decode cX8_arc 102 = .ok (.ireturn, 1) := by decide +kernel
set_option maxRecDepth 20000 in
theorem ggX8_first_X8_in : GoodIn wsX8_first wsX8_in := goodIn_r _ [8] (by decide +kernel) (by decide +kernel)
set_option maxRecDepth 20000 in
theorem gX8_first_X8_in : GoodIn wsX8_first (va_wsS RX8 67 yX8_in wsX8_in) := goodIn_app (goodIn_of _ (by decide +kernel)) ggX8_first_X8_in
theorem dX8_first_0 : decode cX8_first 0 = .ok (.iload_n 1, 1) := by decide +kernel
theorem dX8_first_1 : decode cX8_first 1 = .ok (.iconst 0, 1) := by decide +kernel
theorem dX8_first_2 : decode cX8_first 2 = .ok (.aload_n 0, 1) := by decide +kernel
theorem dX8_first_3 : decode cX8_first 3 = .ok (.getfield 71, 3) := by decide +kernel
theorem dX8_first_6 : decode cX8_first 6 = .ok (.iconst 1, 1) := by decide +kernel
theorem dX8_first_7 : decode cX8_first 7 = .ok (.isub, 1) := by decide +kernel
theorem dX8_first_8 : decode cX8_first 8 = .ok (.invokestatic 67, 3) := by decide +kernel
theorem dX8_first_11 : decode cX8_first 11 = .ok (.ifCond .ne 6, 3) := by decide +kernel
theorem dX8_first_14 : decode cX8_first 14 = .ok (.bipush (-101), 2) := by decide +kernel
theorem dX8_first_16 : decode cX8_first 16 = .ok (.ireturn, 1) := by decide +kernel
theorem dX8_first_17 : decode cX8_first 17 = .ok (.iload_n 2, 1) := by decide +kernel
theorem dX8_first_18 : decode cX8_first 18 = .ok (.iconst 0, 1) := by decide +kernel
theorem dX8_first_19 : decode cX8_first 19 = .ok (.bipush 15, 2) := by decide +kernel
theorem dX8_first_21 : decode cX8_first 21 = .ok (.invokestatic 67, 3) := by decide +kernel
theorem dX8_first_24 : decode cX8_first 24 = .ok (.ifCond .ne 6, 3) := by decide +kernel
theorem dX8_first_27 : decode cX8_first 27 = .ok (.bipush (-102), 2) := by decide +kernel
theorem dX8_first_29 : decode cX8_first 29 = .ok (.ireturn, 1) := by decide +kernel
theorem dX8_first_30 : decode cX8_first 30 = .ok (.aload_n 0, 1) := by decide +kernel
theorem dX8_first_31 : decode cX8_first 31 = .ok (.getfield 78, 3) := by decide +kernel
theorem dX8_first_34 : decode cX8_first 34 = .ok (.iconst 4, 1) := by decide +kernel
theorem dX8_first_35 : decode cX8_first 35 = .ok (.if_icmp .ne 6, 3) := by decide +kernel
theorem dX8_first_38 : decode cX8_first 38 = .ok (.bipush (-104), 2) := by decide +kernel
theorem dX8_first_40 : decode cX8_first 40 = .ok (.ireturn, 1) := by decide +kernel
theorem dX8_first_41 : decode cX8_first 41 = .ok (.aload_n 0, 1) := by decide +kernel
theorem dX8_first_42 : decode cX8_first 42 = .ok (.getfield 22, 3) := by decide +kernel
theorem dX8_first_45 : decode cX8_first 45 = .ok (.aload_n 0, 1) := by decide +kernel
theorem dX8_first_46 : decode cX8_first 46 = .ok (.getfield 78, 3) := by decide +kernel
theorem dX8_first_49 : decode cX8_first 49 = .ok (.iload_n 1, 1) := by decide +kernel
theorem dX8_first_50 : decode cX8_first 50 = .ok (.iastore, 1) := by decide +kernel
theorem dX8_first_51 : decode cX8_first 51 = .ok (.aload_n 0, 1) := by decide +kernel
theorem dX8_first_52 : decode cX8_first 52 = .ok (.getfield 25, 3) := by decide +kernel
theorem dX8_first_55 : decode cX8_first 55 = .ok (.aload_n 0, 1) := by decide +kernel
theorem dX8_first_56 : decode cX8_first 56 = .ok (.getfield 78, 3) := by decide +kernel
theorem dX8_first_59 : decode cX8_first 59 = .ok (.iload_n 2, 1) := by decide +kernel
theorem dX8_first_60 : decode cX8_first 60 = .ok (.iastore, 1) := by decide +kernel
theorem dX8_first_61 : decode cX8_first 61 = .ok (.aload_n 0, 1) := by decide +kernel
theorem dX8_first_62 : decode cX8_first 62 = .ok (.dup, 1) := by decide +kernel
theorem dX8_first_63 : decode cX8_first 63 = .ok (.getfield 78, 3) := by decide +kernel
theorem dX8_first_66 : decode cX8_first 66 = .ok (.iconst 1, 1) := by decide +kernel
theorem dX8_first_67 : decode cX8_first 67 = .ok (.iadd, 1) := by decide +kernel
theorem dX8_first_68 : decode cX8_first 68 = .ok (.putfield 78, 3) := by decide +kernel
theorem dX8_first_71 : decode cX8_first 71 = .ok (.aload_n 0, 1) := by decide +kernel
theorem dX8_first_72 : decode cX8_first 72 = .ok (.getfield 78, 3) := by decide +kernel
theorem dX8_first_75 : decode cX8_first 75 = .ok (.iconst 1, 1) := by decide +kernel
theorem dX8_first_76 : decode cX8_first 76 = .ok (.isub, 1) := by decide +kernel
theorem dX8_first_77 : decode cX8_first 77 = .ok (.ireturn, 1) := by decide +kernel
theorem dX8_greatestOf_0 : decode cX8_greatestOf 0 = .ok (.iload_n 0, 1) := by decide +kernel
theorem dX8_greatestOf_1 : decode cX8_greatestOf 1 = .ok (.tableswitch 53 0 5 #[39, 42, 44, 46, 49, 51], 39) := by decide +kernel
theorem dX8_greatestOf_40 : decode cX8_greatestOf 40 = .ok (.bipush 9, 2) := by decide +kernel
theorem dX8_greatestOf_42 : decode cX8_greatestOf 42 = .ok (.ireturn, 1) := by decide +kernel
theorem dX8_greatestOf_43 : decode cX8_greatestOf 43 = .ok (.iconst 4, 1) := by decide +kernel
theorem dX8_greatestOf_44 : decode cX8_greatestOf 44 = .ok (.ireturn, 1) := by decide +kernel
theorem dX8_greatestOf_45 : decode cX8_greatestOf 45 = .ok (.iconst 1, 1) := by decide +kernel
theorem dX8_greatestOf_46 : decode cX8_greatestOf 46 = .ok (.ireturn, 1) := by decide +kernel
theorem dX8_greatestOf_47 : decode cX8_greatestOf 47 = .ok (.bipush 16, 2) := by decide +kernel
theorem dX8_greatestOf_49 : decode cX8_greatestOf 49 = .ok (.ireturn, 1) := by decide +kernel
theorem dX8_greatestOf_50 : decode cX8_greatestOf 50 = .ok (.iconst 1, 1) := by decide +kernel
theorem dX8_greatestOf_51 : decode cX8_greatestOf 51 = .ok (.ireturn, 1) := by decide +kernel
theorem dX8_greatestOf_52 : decode cX8_greatestOf 52 = .ok (.iconst 2, 1) := by decide +kernel
theorem dX8_greatestOf_53 : decode cX8_greatestOf 53 = .ok (.ireturn, 1) := by decide +kernel
theorem dX8_greatestOf_54 : decode cX8_greatestOf 54 = .ok (.iconst (-1), 1) := by decide +kernel
theorem dX8_greatestOf_55 : decode cX8_greatestOf 55 = .ok (.ireturn, 1) := by decide +kernel
set_option maxRecDepth 20000 in
theorem ggX8_set_X8_in : GoodIn wsX8_set wsX8_in := goodIn_r _ [5] (by decide +kernel) (by decide +kernel)
set_option maxRecDepth 20000 in
theorem gX8_set_X8_in : GoodIn wsX8_set (va_wsS RX8 67 yX8_in wsX8_in) := goodIn_app (goodIn_of _ (by decide +kernel)) ggX8_set_X8_in
set_option maxRecDepth 20000 in
theorem ggX8_set_X8_greatestOf : GoodIn wsX8_set wsX8_greatestOf := goodIn_r _ [8] (by decide +kernel) (by decide +kernel)
set_option maxRecDepth 20000 in
theorem gX8_set_X8_greatestOf : GoodIn wsX8_set (va_wsS RX8 81 yX8_greatestOf wsX8_greatestOf) := goodIn_app (goodIn_of _ (by decide +kernel)) ggX8_set_X8_greatestOf
theorem dX8_set_0 : decode cX8_set 0 = .ok (.iload_n 1, 1) := by decide +kernel
theorem dX8_set_1 : decode cX8_set 1 = .ok (.iconst 0, 1) := by decide +kernel
theorem dX8_set_2 : decode cX8_set 2 = .ok (.iconst 5, 1) := by decide +kernel
theorem dX8_set_3 : decode cX8_set 3 = .ok (.invokestatic 67, 3) := by decide +kernel
theorem dX8_set_6 : decode cX8_set 6 = .ok (.ifCond .eq 24, 3) := by decide +kernel
theorem dX8_set_9 : decode cX8_set 9 = .ok (.iload_n 2, 1) := by decide +kernel
theorem dX8_set_10 : decode cX8_set 10 = .ok (.iload_n 1, 1) := by decide +kernel
theorem dX8_set_11 : decode cX8_set 11 = .ok (.iconst 3, 1) := by decide +kernel
theorem dX8_set_12 : decode cX8_set 12 = .ok (.if_icmp .ne 7, 3) := by decide +kernel
theorem dX8_set_15 : decode cX8_set 15 = .ok (.iconst 1, 1) := by decide +kernel
theorem dX8_set_16 : decode cX8_set 16 = .ok (.goto 4, 3) := by decide +kernel
theorem dX8_set_19 : decode cX8_set 19 = .ok (.iconst 0, 1) := by decide +kernel
theorem dX8_set_20 : decode cX8_set 20 = .ok (.iload_n 1, 1) := by decide +kernel
theorem dX8_set_21 : decode cX8_set 21 = .ok (.invokestatic 81, 3) := by decide +kernel
theorem dX8_set_24 : decode cX8_set 24 = .ok (.invokestatic 67, 3) := by decide +kernel
theorem dX8_set_27 : decode cX8_set 27 = .ok (.ifCond .ne 6, 3) := by decide +kernel
theorem dX8_set_30 : decode cX8_set 30 = .ok (.bipush (-102), 2) := by decide +kernel
theorem dX8_set_32 : decode cX8_set 32 = .ok (.ireturn, 1) := by decide +kernel
theorem dX8_set_33 : decode cX8_set 33 = .ok (.aload_n 0, 1) := by decide +kernel
theorem dX8_set_34 : decode cX8_set 34 = .ok (.getfield 28, 3) := by decide +kernel
theorem dX8_set_37 : decode cX8_set 37 = .ok (.iload_n 1, 1) := by decide +kernel
theorem dX8_set_38 : decode cX8_set 38 = .ok (.iaload, 1) := by decide +kernel
theorem dX8_set_39 : decode cX8_set 39 = .ok (.istore_n 3, 1) := by decide +kernel
theorem dX8_set_40 : decode cX8_set 40 = .ok (.aload_n 0, 1) := by decide +kernel
theorem dX8_set_41 : decode cX8_set 41 = .ok (.getfield 28, 3) := by decide +kernel
theorem dX8_set_44 : decode cX8_set 44 = .ok (.iload_n 1, 1) := by decide +kernel
theorem dX8_set_45 : decode cX8_set 45 = .ok (.iload_n 2, 1) := by decide +kernel
theorem dX8_set_46 : decode cX8_set 46 = .ok (.iastore, 1) := by decide +kernel
theorem dX8_set_47 : decode cX8_set 47 = .ok (.iload_n 3, 1) := by decide +kernel
theorem dX8_set_48 : decode cX8_set 48 = .ok (.ireturn, 1) := by decide +kernel
set_option maxRecDepth 20000 in
theorem ggX8_table_X8_in : GoodIn wsX8_table wsX8_in := goodIn_r _ [5] (by decide +kernel) (by decide +kernel)
set_option maxRecDepth 20000 in
theorem gX8_table_X8_in : GoodIn wsX8_table (va_wsS RX8 67 yX8_in wsX8_in) := goodIn_app (goodIn_of _ (by decide +kernel)) ggX8_table_X8_in
theorem dX8_table_0 : decode cX8_table 0 = .ok (.iload_n 1, 1) := by decide +kernel
theorem dX8_table_1 : decode cX8_table 1 = .ok (.iconst 0, 1) := by decide +kernel
theorem dX8_table_2 : decode cX8_table 2 = .ok (.bipush 15, 2) := by decide +kernel
theorem dX8_table_4 : decode cX8_table 4 = .ok (.invokestatic 67, 3) := by decide +kernel
theorem dX8_table_7 : decode cX8_table 7 = .ok (.ifCond .eq 23, 3) := by decide +kernel
theorem dX8_table_10 : decode cX8_table 10 = .ok (.iload_n 2, 1) := by decide +kernel
theorem dX8_table_11 : decode cX8_table 11 = .ok (.iconst 0, 1) := by decide +kernel
theorem dX8_table_12 : decode cX8_table 12 = .ok (.bipush 15, 2) := by decide +kernel
theorem dX8_table_14 : decode cX8_table 14 = .ok (.invokestatic 67, 3) := by decide +kernel
theorem dX8_table_17 : decode cX8_table 17 = .ok (.ifCond .eq 13, 3) := by decide +kernel
theorem dX8_table_20 : decode cX8_table 20 = .ok (.iload_n 3, 1) := by decide +kernel
theorem dX8_table_21 : decode cX8_table 21 = .ok (.iconst 0, 1) := by decide +kernel
theorem dX8_table_22 : decode cX8_table 22 = .ok (.bipush 15, 2) := by decide +kernel
theorem dX8_table_24 : decode cX8_table 24 = .ok (.invokestatic 67, 3) := by decide +kernel
theorem dX8_table_27 : decode cX8_table 27 = .ok (.ifCond .ne 6, 3) := by decide +kernel
theorem dX8_table_30 : decode cX8_table 30 = .ok (.bipush (-102), 2) := by decide +kernel
theorem dX8_table_32 : decode cX8_table 32 = .ok (.ireturn, 1) := by decide +kernel
theorem dX8_table_33 : decode cX8_table 33 = .ok (.aload_n 0, 1) := by decide +kernel
theorem dX8_table_34 : decode cX8_table 34 = .ok (.getfield 31, 3) := by decide +kernel
theorem dX8_table_37 : decode cX8_table 37 = .ok (.bipush 16, 2) := by decide +kernel
theorem dX8_table_39 : decode cX8_table 39 = .ok (.iload_n 1, 1) := by decide +kernel
theorem dX8_table_40 : decode cX8_table 40 = .ok (.imul, 1) := by decide +kernel
theorem dX8_table_41 : decode cX8_table 41 = .ok (.iload_n 2, 1) := by decide +kernel
theorem dX8_table_42 : decode cX8_table 42 = .ok (.iadd, 1) := by decide +kernel
theorem dX8_table_43 : decode cX8_table 43 = .ok (.iaload, 1) := by decide +kernel
theorem dX8_table_44 : decode cX8_table 44 = .ok (.istore 4, 2) := by decide +kernel
theorem dX8_table_46 : decode cX8_table 46 = .ok (.aload_n 0, 1) := by decide +kernel
theorem dX8_table_47 : decode cX8_table 47 = .ok (.getfield 31, 3) := by decide +kernel
theorem dX8_table_50 : decode cX8_table 50 = .ok (.bipush 16, 2) := by decide +kernel
theorem dX8_table_52 : decode cX8_table 52 = .ok (.iload_n 1, 1) := by decide +kernel
theorem dX8_table_53 : decode cX8_table 53 = .ok (.imul, 1) := by decide +kernel
theorem dX8_table_54 : decode cX8_table 54 = .ok (.iload_n 2, 1) := by decide +kernel
theorem dX8_table_55 : decode cX8_table 55 = .ok (.iadd, 1) := by decide +kernel
