set_option maxRecDepth 20000 in
theorem ggX8_split_X8_splitAndCount : GoodIn wsX8_split wsX8_splitAndCount := goodIn_r _ [17, 18, 1, 19, 20, 21, 22, 23, 24, 25, 26, 27, 28, 29, 30, 31, 32, 33, 34, 35, 36, 6, 37, 12, 38, 39, 40, 41, 42, 43, 44, 45, 46, 47, 48, 49, 50, 51, 52, 53, 54, 55, 56, 57, 58, 59, 60, 61, 62, 63, 64, 65, 66, 67, 68, 69, 70, 71, 72, 73, 74, 75, 76, 77, 78, 79, 80, 81, 82, 83, 84, 85, 86, 87, 88, 89, 90, 91, 92] (by decide +kernel) (by decide +kernel)
set_option maxRecDepth 20000 in
theorem gX8_split_X8_splitAndCount : GoodIn wsX8_split (wsV RX8 197 RX8 yX8_splitAndCount wsX8_splitAndCount) := goodIn_app (goodIn_of _ (by decide +kernel)) ggX8_split_X8_splitAndCount
theorem dX8_split_0 : decode cX8_split 0 = .ok (.aload_n 0, 1) := by decide +kernel
theorem dX8_split_1 : decode cX8_split 1 = .ok (.getfield 10, 3) := by decide +kernel
theorem dX8_split_4 : decode cX8_split 4 = .ok (.iload_n 1, 1) := by decide +kernel
theorem dX8_split_5 : decode cX8_split 5 = .ok (.invokevirtual 188, 3) := by decide +kernel
theorem dX8_split_8 : decode cX8_split 8 = .ok (.ifCond .ne 6, 3) := by decide +kernel
theorem dX8_split_11 : decode cX8_split 11 = .ok (.ldc 118, 2) := by decide +kernel
theorem dX8_split_13 : decode cX8_split 13 = .ok (.ireturn, 1) := by decide +kernel
theorem dX8_split_14 : decode cX8_split 14 = .ok (.aload_n 0, 1) := by decide +kernel
theorem dX8_split_15 : decode cX8_split 15 = .ok (.iload_n 1, 1) := by decide +kernel
theorem dX8_split_16 : decode cX8_split 16 = .ok (.invokevirtual 197, 3) := by decide +kernel
theorem dX8_split_19 : decode cX8_split 19 = .ok (.ireturn, 1) := by decide +kernel
set_option maxRecDepth 20000 in
theorem ggX8_by_X8_refusalOfSet : GoodIn wsX8_by wsX8_refusalOfSet := goodIn_r _ [7, 1, 8, 2, 9, 10, 11, 12, 13, 14, 15, 16, 17, 18, 19, 20, 21, 22, 23, 24, 25, 26, 109, 110, 111, 112, 113, 114, 115, 116, 117, 118, 119, 120, 121, 122, 123, 124, 125, 126] (by decide +kernel) (by decide +kernel)
set_option maxRecDepth 20000 in
theorem gX8_by_X8_refusalOfSet : GoodIn wsX8_by (wsV RX8 148 RX8 yX8_refusalOfSet wsX8_refusalOfSet) := goodIn_app (goodIn_of _ (by decide +kernel)) ggX8_by_X8_refusalOfSet
set_option maxRecDepth 20000 in
theorem ggX8_by_X6_setOfKind : GoodIn wsX8_by wsX6_setOfKind := goodIn_r _ [30, 31, 32, 33, 11, 12, 13, 14, 15, 34, 35, 36, 37, 38, 39, 40, 41, 24, 42, 43, 44, 22, 23, 25, 26, 45, 46, 47, 48, 49, 50, 51, 52, 53, 54, 17, 18, 19, 20, 55, 56, 57, 58, 59, 60, 61, 62, 63, 64, 65, 117, 118, 119, 120, 121, 122, 123, 124, 125, 126] (by decide +kernel) (by decide +kernel)
set_option maxRecDepth 20000 in
theorem gX8_by_X6_setOfKind : GoodIn wsX8_by (wsV RX8 152 RX6 yX6_setOfKind wsX6_setOfKind) := goodIn_app (goodIn_of _ (by decide +kernel)) ggX8_by_X6_setOfKind
set_option maxRecDepth 20000 in
theorem ggX8_by_X8_splitAndCount : GoodIn wsX8_by wsX8_splitAndCount := goodIn_r _ [69, 70, 1, 2, 71, 72, 73, 74, 75, 76, 77, 78, 79, 80, 81, 82, 83, 84, 85, 86, 87, 13, 88, 15, 20, 32, 89, 38, 90, 91, 92, 93, 31, 53, 94, 95, 96, 97, 24, 98, 43, 99, 26, 100, 101, 102, 103, 104, 105, 106, 107, 108, 60, 61, 62, 63, 64, 65, 109, 110, 111, 112, 113, 114, 115, 116, 117, 118, 119, 120, 121, 122, 123, 124, 125, 126, 127, 128, 129] (by decide +kernel) (by decide +kernel)
set_option maxRecDepth 20000 in
theorem gX8_by_X8_splitAndCount : GoodIn wsX8_by (wsV RX8 197 RX8 yX8_splitAndCount wsX8_splitAndCount) := goodIn_app (goodIn_of _ (by decide +kernel)) ggX8_by_X8_splitAndCount
theorem dX8_by_0 : decode cX8_by 0 = .ok (.aload_n 0, 1) := by decide +kernel
theorem dX8_by_1 : decode cX8_by 1 = .ok (.iload_n 1, 1) := by decide +kernel
theorem dX8_by_2 : decode cX8_by 2 = .ok (.iload_n 2, 1) := by decide +kernel
theorem dX8_by_3 : decode cX8_by 3 = .ok (.iload_n 3, 1) := by decide +kernel
theorem dX8_by_4 : decode cX8_by 4 = .ok (.invokevirtual 148, 3) := by decide +kernel
theorem dX8_by_7 : decode cX8_by 7 = .ok (.istore 4, 2) := by decide +kernel
theorem dX8_by_9 : decode cX8_by 9 = .ok (.iload 4, 2) := by decide +kernel
theorem dX8_by_11 : decode cX8_by 11 = .ok (.iconst (-1), 1) := by decide +kernel
theorem dX8_by_12 : decode cX8_by 12 = .ok (.if_icmp .eq 8, 3) := by decide +kernel
theorem dX8_by_15 : decode cX8_by 15 = .ok (.iload 4, 2) := by decide +kernel
theorem dX8_by_17 : decode cX8_by 17 = .ok (.goto 24, 3) := by decide +kernel
theorem dX8_by_20 : decode cX8_by 20 = .ok (.aload_n 0, 1) := by decide +kernel
theorem dX8_by_21 : decode cX8_by 21 = .ok (.aload_n 0, 1) := by decide +kernel
theorem dX8_by_22 : decode cX8_by 22 = .ok (.getfield 10, 3) := by decide +kernel
theorem dX8_by_25 : decode cX8_by 25 = .ok (.aload_n 0, 1) := by decide +kernel
theorem dX8_by_26 : decode cX8_by 26 = .ok (.getfield 10, 3) := by decide +kernel
theorem dX8_by_29 : decode cX8_by 29 = .ok (.getfield 69, 3) := by decide +kernel
theorem dX8_by_32 : decode cX8_by 32 = .ok (.iload_n 1, 1) := by decide +kernel
theorem dX8_by_33 : decode cX8_by 33 = .ok (.iload_n 2, 1) := by decide +kernel
theorem dX8_by_34 : decode cX8_by 34 = .ok (.iload_n 3, 1) := by decide +kernel
theorem dX8_by_35 : decode cX8_by 35 = .ok (.invokevirtual 152, 3) := by decide +kernel
theorem dX8_by_38 : decode cX8_by 38 = .ok (.invokevirtual 197, 3) := by decide +kernel
theorem dX8_by_41 : decode cX8_by 41 = .ok (.ireturn, 1) := by decide +kernel
set_option maxRecDepth 20000 in
theorem ggX8_refine_X8_isRefinedKind : GoodIn wsX8_refine wsX8_isRefinedKind := goodIn_r _ [10] (by decide +kernel) (by decide +kernel)
set_option maxRecDepth 20000 in
theorem gX8_refine_X8_isRefinedKind : GoodIn wsX8_refine (va_wsS RX8 156 yX8_isRefinedKind wsX8_isRefinedKind) := goodIn_app (goodIn_of _ (by decide +kernel)) ggX8_refine_X8_isRefinedKind
set_option maxRecDepth 20000 in
theorem ggX8_refine_X2_remember : GoodIn wsX8_refine wsX2_remember := goodIn_r _ [15, 16, 17, 18, 19, 20, 21, 22, 23, 24, 25, 26, 27, 28, 29, 30, 31, 32, 33, 34, 35, 36, 37, 38, 39, 40, 41, 42, 43, 44, 45, 46, 47, 159, 160, 161, 149, 150, 151, 152, 153, 154, 155, 156, 157, 158] (by decide +kernel) (by decide +kernel)
set_option maxRecDepth 20000 in
theorem gX8_refine_X2_remember : GoodIn wsX8_refine (wsV RX8 166 RX2 yX2_remember wsX2_remember) := goodIn_app (goodIn_of _ (by decide +kernel)) ggX8_refine_X2_remember
set_option maxRecDepth 20000 in
theorem ggX8_refine_X4_refineRow : GoodIn wsX8_refine wsX4_refineRow := goodIn_r _ [52, 53, 54, 55, 56, 43, 57, 47, 45, 58, 59, 60, 61, 62, 63, 64, 51, 65, 66, 67, 68, 41, 42, 44, 46, 34, 35, 36, 69, 70, 71, 72, 73, 74, 75, 76, 77, 78, 79, 80, 81, 82, 83, 84, 26, 85, 28, 86, 87, 88, 89, 38, 90, 91, 92, 93, 94, 95, 96, 97, 29, 98, 99, 100, 101, 102, 103, 104, 105, 106, 107, 108, 109, 110, 111, 112, 37, 113, 114, 115, 116, 117, 118, 119, 120, 121, 122, 123, 124, 125, 126, 127, 128, 129, 130, 131, 132, 133, 30, 134, 135, 136, 137, 32, 138, 139, 140, 149, 150, 151, 152, 153, 154, 155, 156, 157, 158, 162] (by decide +kernel) (by decide +kernel)
set_option maxRecDepth 20000 in
theorem gX8_refine_X4_refineRow : GoodIn wsX8_refine (wsV RX8 200 RX4 yX4_refineRow wsX4_refineRow) := goodIn_app (goodIn_of _ (by decide +kernel)) ggX8_refine_X4_refineRow
theorem dX8_refine_0 : decode cX8_refine 0 = .ok (.iload_n 1, 1) := by decide +kernel
theorem dX8_refine_1 : decode cX8_refine 1 = .ok (.invokestatic 156, 3) := by decide +kernel
theorem dX8_refine_4 : decode cX8_refine 4 = .ok (.ifCond .ne 6, 3) := by decide +kernel
theorem dX8_refine_7 : decode cX8_refine 7 = .ok (.ldc 113, 2) := by decide +kernel
theorem dX8_refine_9 : decode cX8_refine 9 = .ok (.ireturn, 1) := by decide +kernel
theorem dX8_refine_10 : decode cX8_refine 10 = .ok (.aload_n 0, 1) := by decide +kernel
theorem dX8_refine_11 : decode cX8_refine 11 = .ok (.getfield 19, 3) := by decide +kernel
theorem dX8_refine_14 : decode cX8_refine 14 = .ok (.aload_n 0, 1) := by decide +kernel
theorem dX8_refine_15 : decode cX8_refine 15 = .ok (.getfield 10, 3) := by decide +kernel
theorem dX8_refine_18 : decode cX8_refine 18 = .ok (.invokevirtual 166, 3) := by decide +kernel
theorem dX8_refine_21 : decode cX8_refine 21 = .ok (.aload_n 0, 1) := by decide +kernel
theorem dX8_refine_22 : decode cX8_refine 22 = .ok (.getfield 40, 3) := by decide +kernel
theorem dX8_refine_25 : decode cX8_refine 25 = .ok (.aload_n 0, 1) := by decide +kernel
theorem dX8_refine_26 : decode cX8_refine 26 = .ok (.getfield 10, 3) := by decide +kernel
theorem dX8_refine_29 : decode cX8_refine 29 = .ok (.aload_n 0, 1) := by decide +kernel
theorem dX8_refine_30 : decode cX8_refine 30 = .ok (.getfield 10, 3) := by decide +kernel
theorem dX8_refine_33 : decode cX8_refine 33 = .ok (.getfield 69, 3) := by decide +kernel
theorem dX8_refine_36 : decode cX8_refine 36 = .ok (.iload_n 1, 1) := by decide +kernel
theorem dX8_refine_37 : decode cX8_refine 37 = .ok (.invokevirtual 200, 3) := by decide +kernel
theorem dX8_refine_40 : decode cX8_refine 40 = .ok (.aload_n 0, 1) := by decide +kernel
theorem dX8_refine_41 : decode cX8_refine 41 = .ok (.getfield 10, 3) := by decide +kernel
theorem dX8_refine_44 : decode cX8_refine 44 = .ok (.getfield 69, 3) := by decide +kernel
theorem dX8_refine_47 : decode cX8_refine 47 = .ok (.getfield 72, 3) := by decide +kernel
theorem dX8_refine_50 : decode cX8_refine 50 = .ok (.ireturn, 1) := by decide +kernel
set_option maxRecDepth 20000 in
theorem ggX8_join_X2_remember : GoodIn wsX8_join wsX2_remember := goodIn_r _ [10, 11, 12, 13, 14, 15, 16, 17, 18, 19, 20, 21, 22, 23, 24, 25, 26, 27, 28, 29, 30, 31, 32, 33, 34, 35, 36, 37, 38, 39, 40, 41, 42, 73, 74, 75, 63, 64, 65, 66, 67, 68, 69, 70, 71, 72] (by decide +kernel) (by decide +kernel)
set_option maxRecDepth 20000 in
theorem gX8_join_X2_remember : GoodIn wsX8_join (wsV RX8 166 RX2 yX2_remember wsX2_remember) := goodIn_app (goodIn_of _ (by decide +kernel)) ggX8_join_X2_remember
set_option maxRecDepth 20000 in
theorem ggX8_join_X5_mergeWithNext : GoodIn wsX8_join wsX5_mergeWithNext := goodIn_r _ [46, 42, 40, 47, 48, 49, 38, 50, 51, 52, 53, 54, 71, 72] (by decide +kernel) (by decide +kernel)
set_option maxRecDepth 20000 in
theorem gX8_join_X5_mergeWithNext : GoodIn wsX8_join (wsV RX8 204 RX5 yX5_mergeWithNext wsX5_mergeWithNext) := goodIn_app (goodIn_of _ (by decide +kernel)) ggX8_join_X5_mergeWithNext
theorem dX8_join_0 : decode cX8_join 0 = .ok (.iload_n 1, 1) := by decide +kernel
theorem dX8_join_1 : decode cX8_join 1 = .ok (.ifCond .lt 19, 3) := by decide +kernel
theorem dX8_join_4 : decode cX8_join 4 = .ok (.iload_n 1, 1) := by decide +kernel
theorem dX8_join_5 : decode cX8_join 5 = .ok (.aload_n 0, 1) := by decide +kernel
theorem dX8_join_6 : decode cX8_join 6 = .ok (.getfield 10, 3) := by decide +kernel
theorem dX8_join_9 : decode cX8_join 9 = .ok (.getfield 69, 3) := by decide +kernel
theorem dX8_join_12 : decode cX8_join 12 = .ok (.getfield 72, 3) := by decide +kernel
theorem dX8_join_15 : decode cX8_join 15 = .ok (.iconst 1, 1) := by decide +kernel
theorem dX8_join_16 : decode cX8_join 16 = .ok (.isub, 1) := by decide +kernel
theorem dX8_join_17 : decode cX8_join 17 = .ok (.if_icmp .lt 6, 3) := by decide +kernel
theorem dX8_join_20 : decode cX8_join 20 = .ok (.ldc 118, 2) := by decide +kernel
theorem dX8_join_22 : decode cX8_join 22 = .ok (.ireturn, 1) := by decide +kernel
theorem dX8_join_23 : decode cX8_join 23 = .ok (.aload_n 0, 1) := by decide +kernel
theorem dX8_join_24 : decode cX8_join 24 = .ok (.getfield 19, 3) := by decide +kernel
theorem dX8_join_27 : decode cX8_join 27 = .ok (.aload_n 0, 1) := by decide +kernel
theorem dX8_join_28 : decode cX8_join 28 = .ok (.getfield 10, 3) := by decide +kernel
theorem dX8_join_31 : decode cX8_join 31 = .ok (.invokevirtual 166, 3) := by decide +kernel
theorem dX8_join_34 : decode cX8_join 34 = .ok (.aload_n 0, 1) := by decide +kernel
theorem dX8_join_35 : decode cX8_join 35 = .ok (.getfield 10, 3) := by decide +kernel
theorem dX8_join_38 : decode cX8_join 38 = .ok (.getfield 69, 3) := by decide +kernel
theorem dX8_join_41 : decode cX8_join 41 = .ok (.iload_n 1, 1) := by decide +kernel
theorem dX8_join_42 : decode cX8_join 42 = .ok (.invokevirtual 204, 3) := by decide +kernel
theorem dX8_join_45 : decode cX8_join 45 = .ok (.aload_n 0, 1) := by decide +kernel
theorem dX8_join_46 : decode cX8_join 46 = .ok (.getfield 10, 3) := by decide +kernel
theorem dX8_join_49 : decode cX8_join 49 = .ok (.getfield 69, 3) := by decide +kernel
theorem dX8_join_52 : decode cX8_join 52 = .ok (.getfield 72, 3) := by decide +kernel
theorem dX8_join_55 : decode cX8_join 55 = .ok (.ireturn, 1) := by decide +kernel
set_option maxRecDepth 20000 in
theorem ggX8_arrange_X2_remember : GoodIn wsX8_arrange wsX2_remember := goodIn_r _ [9, 10, 11, 12, 13, 14, 15, 16, 17, 18, 19, 20, 21, 22, 23, 24, 25, 26, 27, 28, 29, 30, 31, 32, 33, 34, 35, 36, 37, 38, 39, 40, 41, 83, 84, 85, 75, 76, 77, 78, 79, 80, 81, 82, 86, 87] (by decide +kernel) (by decide +kernel)
set_option maxRecDepth 20000 in
theorem gX8_arrange_X2_remember : GoodIn wsX8_arrange (wsV RX8 166 RX2 yX2_remember wsX2_remember) := goodIn_app (goodIn_of _ (by decide +kernel)) ggX8_arrange_X2_remember
set_option maxRecDepth 20000 in
theorem ggX8_arrange_X5_copyFrom : GoodIn wsX8_arrange wsX5_copyFrom := goodIn_r _ [38, 39, 40, 28, 29, 30, 41, 86, 87] (by decide +kernel) (by decide +kernel)
set_option maxRecDepth 20000 in
theorem gX8_arrange_X5_copyFrom : GoodIn wsX8_arrange (wsV RX8 207 RX5 yX5_copyFrom wsX5_copyFrom) := goodIn_app (goodIn_of _ (by decide +kernel)) ggX8_arrange_X5_copyFrom
set_option maxRecDepth 20000 in
theorem ggX8_arrange_X5_sortByLeast : GoodIn wsX8_arrange wsX5_sortByLeast := goodIn_r _ [46, 41, 39, 47, 48, 37, 49, 50, 51, 52, 53, 54, 86, 87] (by decide +kernel) (by decide +kernel)
set_option maxRecDepth 20000 in
theorem gX8_arrange_X5_sortByLeast : GoodIn wsX8_arrange (wsV RX8 211 RX5 yX5_sortByLeast wsX5_sortByLeast) := goodIn_app (goodIn_of _ (by decide +kernel)) ggX8_arrange_X5_sortByLeast
set_option maxRecDepth 20000 in
theorem ggX8_arrange_X5_differingFrom : GoodIn wsX8_arrange wsX5_differingFrom := goodIn_r _ [58, 41, 39, 59, 60, 61, 37, 62, 63, 64, 65, 66, 86, 87] (by decide +kernel) (by decide +kernel)
set_option maxRecDepth 20000 in
theorem gX8_arrange_X5_differingFrom : GoodIn wsX8_arrange (wsV RX8 214 RX5 yX5_differingFrom wsX5_differingFrom) := goodIn_app (goodIn_of _ (by decide +kernel)) ggX8_arrange_X5_differingFrom
theorem dX8_arrange_0 : decode cX8_arrange 0 = .ok (.aload_n 0, 1) := by decide +kernel
theorem dX8_arrange_1 : decode cX8_arrange 1 = .ok (.getfield 19, 3) := by decide +kernel
theorem dX8_arrange_4 : decode cX8_arrange 4 = .ok (.aload_n 0, 1) := by decide +kernel
theorem dX8_arrange_5 : decode cX8_arrange 5 = .ok (.getfield 10, 3) := by decide +kernel
theorem dX8_arrange_8 : decode cX8_arrange 8 = .ok (.invokevirtual 166, 3) := by decide +kernel
theorem dX8_arrange_11 : decode cX8_arrange 11 = .ok (.aload_n 0, 1) := by decide +kernel
theorem dX8_arrange_12 : decode cX8_arrange 12 = .ok (.getfield 54, 3) := by decide +kernel
theorem dX8_arrange_15 : decode cX8_arrange 15 = .ok (.aload_n 0, 1) := by decide +kernel
theorem dX8_arrange_16 : decode cX8_arrange 16 = .ok (.getfield 10, 3) := by decide +kernel
theorem dX8_arrange_19 : decode cX8_arrange 19 = .ok (.getfield 69, 3) := by decide +kernel
theorem dX8_arrange_22 : decode cX8_arrange 22 = .ok (.invokevirtual 207, 3) := by decide +kernel
theorem dX8_arrange_25 : decode cX8_arrange 25 = .ok (.aload_n 0, 1) := by decide +kernel
theorem dX8_arrange_26 : decode cX8_arrange 26 = .ok (.getfield 10, 3) := by decide +kernel
theorem dX8_arrange_29 : decode cX8_arrange 29 = .ok (.getfield 69, 3) := by decide +kernel
theorem dX8_arrange_32 : decode cX8_arrange 32 = .ok (.invokevirtual 211, 3) := by decide +kernel
theorem dX8_arrange_35 : decode cX8_arrange 35 = .ok (.aload_n 0, 1) := by decide +kernel
theorem dX8_arrange_36 : decode cX8_arrange 36 = .ok (.getfield 10, 3) := by decide +kernel
theorem dX8_arrange_39 : decode cX8_arrange 39 = .ok (.getfield 69, 3) := by decide +kernel
theorem dX8_arrange_42 : decode cX8_arrange 42 = .ok (.aload_n 0, 1) := by decide +kernel
theorem dX8_arrange_43 : decode cX8_arrange 43 = .ok (.getfield 54, 3) := by decide +kernel
theorem dX8_arrange_46 : decode cX8_arrange 46 = .ok (.invokevirtual 214, 3) := by decide +kernel
theorem dX8_arrange_49 : decode cX8_arrange 49 = .ok (.ireturn, 1) := by decide +kernel
set_option maxRecDepth 20000 in
theorem ggX8_drift_X2_remember : GoodIn wsX8_drift wsX2_remember := goodIn_r _ [9, 10, 11, 12, 13, 14, 15, 16, 17, 18, 19, 20, 21, 22, 23, 24, 25, 26, 27, 28, 29, 30, 31, 32, 33, 34, 35, 36, 37, 38, 39, 40, 41, 108, 109, 110, 111, 112, 113, 114, 115, 116, 117, 118, 119, 120] (by decide +kernel) (by decide +kernel)
set_option maxRecDepth 20000 in
theorem gX8_drift_X2_remember : GoodIn wsX8_drift (wsV RX8 166 RX2 yX2_remember wsX2_remember) := goodIn_app (goodIn_of _ (by decide +kernel)) ggX8_drift_X2_remember
set_option maxRecDepth 20000 in
theorem ggX8_drift_X1_change : GoodIn wsX8_drift wsX1_change := goodIn_r _ [46, 47, 48, 49, 50, 51, 45, 52, 53, 54, 55, 56, 57, 58, 59, 60, 61, 62, 63, 64, 20, 65, 31, 66, 67, 68, 69, 22, 70, 71, 72, 73, 74, 75, 76, 77, 78, 79, 80, 81, 82, 83, 84, 32, 85, 86, 87, 88, 23, 111, 112, 113, 114, 115, 116, 117, 118, 121] (by decide +kernel) (by decide +kernel)
set_option maxRecDepth 20000 in
theorem gX8_drift_X1_change : GoodIn wsX8_drift (wsV RX8 218 RX1 yX1_change wsX1_change) := goodIn_app (goodIn_of _ (by decide +kernel)) ggX8_drift_X1_change
set_option maxRecDepth 20000 in
theorem ggX8_drift_X6_edgeCount : GoodIn wsX8_drift wsX6_edgeCount := goodIn_r _ [92, 22, 31, 93, 94, 95, 96, 97, 98, 99, 111, 112, 113, 114, 115, 116, 117, 118] (by decide +kernel) (by decide +kernel)
set_option maxRecDepth 20000 in
theorem gX8_drift_X6_edgeCount : GoodIn wsX8_drift (wsV RX8 78 RX6 yX6_edgeCount wsX6_edgeCount) := goodIn_app (goodIn_of _ (by decide +kernel)) ggX8_drift_X6_edgeCount
theorem dX8_drift_0 : decode cX8_drift 0 = .ok (.iload_n 1, 1) := by decide +kernel
theorem dX8_drift_1 : decode cX8_drift 1 = .ok (.iconst 1, 1) := by decide +kernel
theorem dX8_drift_2 : decode cX8_drift 2 = .ok (.if_icmp .lt 9, 3) := by decide +kernel
theorem dX8_drift_5 : decode cX8_drift 5 = .ok (.iload_n 1, 1) := by decide +kernel
theorem dX8_drift_6 : decode cX8_drift 6 = .ok (.bipush 12, 2) := by decide +kernel
theorem dX8_drift_8 : decode cX8_drift 8 = .ok (.if_icmp .le 6, 3) := by decide +kernel
theorem dX8_drift_11 : decode cX8_drift 11 = .ok (.ldc 113, 2) := by decide +kernel
theorem dX8_drift_13 : decode cX8_drift 13 = .ok (.ireturn, 1) := by decide +kernel
theorem dX8_drift_14 : decode cX8_drift 14 = .ok (.iconst 0, 1) := by decide +kernel
theorem dX8_drift_15 : decode cX8_drift 15 = .ok (.istore_n 2, 1) := by decide +kernel
theorem dX8_drift_16 : decode cX8_drift 16 = .ok (.iload_n 2, 1) := by decide +kernel
theorem dX8_drift_17 : decode cX8_drift 17 = .ok (.iload_n 1, 1) := by decide +kernel
theorem dX8_drift_18 : decode cX8_drift 18 = .ok (.if_icmp .ge 31, 3) := by decide +kernel
theorem dX8_drift_21 : decode cX8_drift 21 = .ok (.aload_n 0, 1) := by decide +kernel
theorem dX8_drift_22 : decode cX8_drift 22 = .ok (.getfield 19, 3) := by decide +kernel
theorem dX8_drift_25 : decode cX8_drift 25 = .ok (.aload_n 0, 1) := by decide +kernel
theorem dX8_drift_26 : decode cX8_drift 26 = .ok (.getfield 10, 3) := by decide +kernel
theorem dX8_drift_29 : decode cX8_drift 29 = .ok (.invokevirtual 166, 3) := by decide +kernel
theorem dX8_drift_32 : decode cX8_drift 32 = .ok (.aload_n 0, 1) := by decide +kernel
theorem dX8_drift_33 : decode cX8_drift 33 = .ok (.getfield 61, 3) := by decide +kernel
theorem dX8_drift_36 : decode cX8_drift 36 = .ok (.aload_n 0, 1) := by decide +kernel
theorem dX8_drift_37 : decode cX8_drift 37 = .ok (.getfield 10, 3) := by decide +kernel
theorem dX8_drift_40 : decode cX8_drift 40 = .ok (.invokevirtual 218, 3) := by decide +kernel
theorem dX8_drift_43 : decode cX8_drift 43 = .ok (.iinc 2 1, 3) := by decide +kernel
theorem dX8_drift_46 : decode cX8_drift 46 = .ok (.goto (-30), 3) := by decide +kernel
theorem dX8_drift_49 : decode cX8_drift 49 = .ok (.aload_n 0, 1) := by decide +kernel
theorem dX8_drift_50 : decode cX8_drift 50 = .ok (.getfield 10, 3) := by decide +kernel
theorem dX8_drift_53 : decode cX8_drift 53 = .ok (.invokevirtual 78, 3) := by decide +kernel
theorem dX8_drift_56 : decode cX8_drift 56 = .ok (.ireturn, 1) := by decide +kernel
set_option maxRecDepth 20000 in
theorem ggX8_undo_X2_takeBack : GoodIn wsX8_undo wsX2_takeBack := goodIn_r _ [10, 11, 12, 13, 14, 15, 16, 17, 18, 19, 20, 21, 22, 23, 24, 25, 26, 27, 28, 29, 30, 31, 32, 33, 34, 35, 36, 37, 38, 39, 40, 41, 42, 51, 52, 53, 54, 55, 56, 57, 58, 59, 60, 61, 62, 63] (by decide +kernel) (by decide +kernel)
set_option maxRecDepth 20000 in
theorem gX8_undo_X2_takeBack : GoodIn wsX8_undo (wsV RX8 222 RX2 yX2_takeBack wsX2_takeBack) := goodIn_app (goodIn_of _ (by decide +kernel)) ggX8_undo_X2_takeBack
theorem dX8_undo_0 : decode cX8_undo 0 = .ok (.iload_n 1, 1) := by decide +kernel
theorem dX8_undo_1 : decode cX8_undo 1 = .ok (.iconst 1, 1) := by decide +kernel
theorem dX8_undo_2 : decode cX8_undo 2 = .ok (.if_icmp .lt 9, 3) := by decide +kernel
theorem dX8_undo_5 : decode cX8_undo 5 = .ok (.iload_n 1, 1) := by decide +kernel
theorem dX8_undo_6 : decode cX8_undo 6 = .ok (.bipush 16, 2) := by decide +kernel
theorem dX8_undo_8 : decode cX8_undo 8 = .ok (.if_icmp .le 6, 3) := by decide +kernel
theorem dX8_undo_11 : decode cX8_undo 11 = .ok (.ldc 113, 2) := by decide +kernel
theorem dX8_undo_13 : decode cX8_undo 13 = .ok (.ireturn, 1) := by decide +kernel
theorem dX8_undo_14 : decode cX8_undo 14 = .ok (.iload_n 1, 1) := by decide +kernel
theorem dX8_undo_15 : decode cX8_undo 15 = .ok (.aload_n 0, 1) := by decide +kernel
theorem dX8_undo_16 : decode cX8_undo 16 = .ok (.getfield 19, 3) := by decide +kernel
theorem dX8_undo_19 : decode cX8_undo 19 = .ok (.getfield 109, 3) := by decide +kernel
theorem dX8_undo_22 : decode cX8_undo 22 = .ok (.if_icmp .le 6, 3) := by decide +kernel
theorem dX8_undo_25 : decode cX8_undo 25 = .ok (.ldc 221, 2) := by decide +kernel
theorem dX8_undo_27 : decode cX8_undo 27 = .ok (.ireturn, 1) := by decide +kernel
theorem dX8_undo_28 : decode cX8_undo 28 = .ok (.aload_n 0, 1) := by decide +kernel
theorem dX8_undo_29 : decode cX8_undo 29 = .ok (.getfield 19, 3) := by decide +kernel
theorem dX8_undo_32 : decode cX8_undo 32 = .ok (.iload_n 1, 1) := by decide +kernel
theorem dX8_undo_33 : decode cX8_undo 33 = .ok (.aload_n 0, 1) := by decide +kernel
theorem dX8_undo_34 : decode cX8_undo 34 = .ok (.getfield 10, 3) := by decide +kernel
theorem dX8_undo_37 : decode cX8_undo 37 = .ok (.invokevirtual 222, 3) := by decide +kernel
theorem dX8_undo_40 : decode cX8_undo 40 = .ok (.aload_n 0, 1) := by decide +kernel
theorem dX8_undo_41 : decode cX8_undo 41 = .ok (.getfield 19, 3) := by decide +kernel
theorem dX8_undo_44 : decode cX8_undo 44 = .ok (.getfield 109, 3) := by decide +kernel
theorem dX8_undo_47 : decode cX8_undo 47 = .ok (.ireturn, 1) := by decide +kernel
set_option maxRecDepth 20000 in
theorem ggX8_write_X6_hasItem : GoodIn wsX8_write wsX6_hasItem := goodIn_r _ [10, 11, 31, 32, 33, 34, 35, 36, 37, 38] (by decide +kernel) (by decide +kernel)
set_option maxRecDepth 20000 in
theorem gX8_write_X6_hasItem : GoodIn wsX8_write (wsV RX8 114 RX6 yX6_hasItem wsX6_hasItem) := goodIn_app (goodIn_of _ (by decide +kernel)) ggX8_write_X6_hasItem
set_option maxRecDepth 20000 in
theorem ggX8_write_X0_append : GoodIn wsX8_write wsX0_append := goodIn_r _ [16, 17, 18, 19, 28, 29, 30] (by decide +kernel) (by decide +kernel)
set_option maxRecDepth 20000 in
theorem gX8_write_X0_append : GoodIn wsX8_write (wsV RX8 227 RX0 yX0_append wsX0_append) := goodIn_app (goodIn_of _ (by decide +kernel)) ggX8_write_X0_append
theorem dX8_write_0 : decode cX8_write 0 = .ok (.aload_n 0, 1) := by decide +kernel
theorem dX8_write_1 : decode cX8_write 1 = .ok (.getfield 10, 3) := by decide +kernel
theorem dX8_write_4 : decode cX8_write 4 = .ok (.iload_n 1, 1) := by decide +kernel
theorem dX8_write_5 : decode cX8_write 5 = .ok (.invokevirtual 114, 3) := by decide +kernel
theorem dX8_write_8 : decode cX8_write 8 = .ok (.ifCond .ne 6, 3) := by decide +kernel
theorem dX8_write_11 : decode cX8_write 11 = .ok (.ldc 118, 2) := by decide +kernel
theorem dX8_write_13 : decode cX8_write 13 = .ok (.ireturn, 1) := by decide +kernel
theorem dX8_write_14 : decode cX8_write 14 = .ok (.aload_n 0, 1) := by decide +kernel
theorem dX8_write_15 : decode cX8_write 15 = .ok (.getfield 26, 3) := by decide +kernel
theorem dX8_write_18 : decode cX8_write 18 = .ok (.getfield 103, 3) := by decide +kernel
theorem dX8_write_21 : decode cX8_write 21 = .ok (.bipush 20, 2) := by decide +kernel
theorem dX8_write_23 : decode cX8_write 23 = .ok (.if_icmp .lt 6, 3) := by decide +kernel
theorem dX8_write_26 : decode cX8_write 26 = .ok (.ldc 226, 2) := by decide +kernel
theorem dX8_write_28 : decode cX8_write 28 = .ok (.ireturn, 1) := by decide +kernel
theorem dX8_write_29 : decode cX8_write 29 = .ok (.aload_n 0, 1) := by decide +kernel
theorem dX8_write_30 : decode cX8_write 30 = .ok (.getfield 26, 3) := by decide +kernel
theorem dX8_write_33 : decode cX8_write 33 = .ok (.iload_n 1, 1) := by decide +kernel
theorem dX8_write_34 : decode cX8_write 34 = .ok (.iload_n 2, 1) := by decide +kernel
theorem dX8_write_35 : decode cX8_write 35 = .ok (.invokevirtual 227, 3) := by decide +kernel
theorem dX8_write_38 : decode cX8_write 38 = .ok (.aload_n 0, 1) := by decide +kernel
theorem dX8_write_39 : decode cX8_write 39 = .ok (.getfield 26, 3) := by decide +kernel
theorem dX8_write_42 : decode cX8_write 42 = .ok (.getfield 103, 3) := by decide +kernel
theorem dX8_write_45 : decode cX8_write 45 = .ok (.ireturn, 1) := by decide +kernel
theorem dX8_tear_0 : decode cX8_tear 0 = .ok (.aload_n 0, 1) := by decide +kernel
theorem dX8_tear_1 : decode cX8_tear 1 = .ok (.getfield 26, 3) := by decide +kernel
theorem dX8_tear_4 : decode cX8_tear 4 = .ok (.getfield 103, 3) := by decide +kernel
theorem dX8_tear_7 : decode cX8_tear 7 = .ok (.istore_n 1, 1) := by decide +kernel
theorem dX8_tear_8 : decode cX8_tear 8 = .ok (.aload_n 0, 1) := by decide +kernel
theorem dX8_tear_9 : decode cX8_tear 9 = .ok (.getfield 26, 3) := by decide +kernel
theorem dX8_tear_12 : decode cX8_tear 12 = .ok (.iconst 0, 1) := by decide +kernel
theorem dX8_tear_13 : decode cX8_tear 13 = .ok (.putfield 103, 3) := by decide +kernel
theorem dX8_tear_16 : decode cX8_tear 16 = .ok (.iload_n 1, 1) := by decide +kernel
theorem dX8_tear_17 : decode cX8_tear 17 = .ok (.ireturn, 1) := by decide +kernel
theorem dX8_seed_0 : decode cX8_seed 0 = .ok (.iload_n 1, 1) := by decide +kernel
theorem dX8_seed_1 : decode cX8_seed 1 = .ok (.ifCond .ge 6, 3) := by decide +kernel
theorem dX8_seed_4 : decode cX8_seed 4 = .ok (.ldc 113, 2) := by decide +kernel
theorem dX8_seed_6 : decode cX8_seed 6 = .ok (.ireturn, 1) := by decide +kernel
theorem dX8_seed_7 : decode cX8_seed 7 = .ok (.aload_n 0, 1) := by decide +kernel
theorem dX8_seed_8 : decode cX8_seed 8 = .ok (.getfield 61, 3) := by decide +kernel
theorem dX8_seed_11 : decode cX8_seed 11 = .ok (.getfield 110, 3) := by decide +kernel
theorem dX8_seed_14 : decode cX8_seed 14 = .ok (.istore_n 2, 1) := by decide +kernel
theorem dX8_seed_15 : decode cX8_seed 15 = .ok (.aload_n 0, 1) := by decide +kernel
theorem dX8_seed_16 : decode cX8_seed 16 = .ok (.getfield 61, 3) := by decide +kernel
theorem dX8_seed_19 : decode cX8_seed 19 = .ok (.iload_n 1, 1) := by decide +kernel
theorem dX8_seed_20 : decode cX8_seed 20 = .ok (.putfield 110, 3) := by decide +kernel
theorem dX8_seed_23 : decode cX8_seed 23 = .ok (.iload_n 2, 1) := by decide +kernel
theorem dX8_seed_24 : decode cX8_seed 24 = .ok (.ireturn, 1) := by decide +kernel
set_option maxRecDepth 20000 in
theorem ggX8_keep_X6_copyFrom : GoodIn wsX8_keep wsX6_copyFrom := goodIn_r _ [15, 16, 17, 18, 19, 20, 21, 22, 23, 24, 25, 26, 27, 28, 29, 30, 31, 32, 33, 34, 35, 51, 52, 53, 54, 55, 56, 57, 58, 59, 60] (by decide +kernel) (by decide +kernel)
set_option maxRecDepth 20000 in
theorem gX8_keep_X6_copyFrom : GoodIn wsX8_keep (wsV RX8 236 RX6 yX6_copyFrom wsX6_copyFrom) := goodIn_app (goodIn_of _ (by decide +kernel)) ggX8_keep_X6_copyFrom
theorem dX8_keep_0 : decode cX8_keep 0 = .ok (.iload_n 1, 1) := by decide +kernel
theorem dX8_keep_1 : decode cX8_keep 1 = .ok (.ifCond .lt 8, 3) := by decide +kernel
theorem dX8_keep_4 : decode cX8_keep 4 = .ok (.iload_n 1, 1) := by decide +kernel
theorem dX8_keep_5 : decode cX8_keep 5 = .ok (.iconst 2, 1) := by decide +kernel
theorem dX8_keep_6 : decode cX8_keep 6 = .ok (.if_icmp .lt 6, 3) := by decide +kernel
theorem dX8_keep_9 : decode cX8_keep 9 = .ok (.ldc 118, 2) := by decide +kernel
theorem dX8_keep_11 : decode cX8_keep 11 = .ok (.ireturn, 1) := by decide +kernel
theorem dX8_keep_12 : decode cX8_keep 12 = .ok (.aload_n 0, 1) := by decide +kernel
theorem dX8_keep_13 : decode cX8_keep 13 = .ok (.getfield 32, 3) := by decide +kernel
theorem dX8_keep_16 : decode cX8_keep 16 = .ok (.iload_n 1, 1) := by decide +kernel
theorem dX8_keep_17 : decode cX8_keep 17 = .ok (.aaload, 1) := by decide +kernel
theorem dX8_keep_18 : decode cX8_keep 18 = .ok (.iconst 1, 1) := by decide +kernel
theorem dX8_keep_19 : decode cX8_keep 19 = .ok (.putfield 230, 3) := by decide +kernel
theorem dX8_keep_22 : decode cX8_keep 22 = .ok (.aload_n 0, 1) := by decide +kernel
theorem dX8_keep_23 : decode cX8_keep 23 = .ok (.getfield 32, 3) := by decide +kernel
theorem dX8_keep_26 : decode cX8_keep 26 = .ok (.iload_n 1, 1) := by decide +kernel
theorem dX8_keep_27 : decode cX8_keep 27 = .ok (.aaload, 1) := by decide +kernel
theorem dX8_keep_28 : decode cX8_keep 28 = .ok (.getfield 234, 3) := by decide +kernel
theorem dX8_keep_31 : decode cX8_keep 31 = .ok (.aload_n 0, 1) := by decide +kernel
theorem dX8_keep_32 : decode cX8_keep 32 = .ok (.getfield 10, 3) := by decide +kernel
theorem dX8_keep_35 : decode cX8_keep 35 = .ok (.invokevirtual 236, 3) := by decide +kernel
theorem dX8_keep_38 : decode cX8_keep 38 = .ok (.aload_n 0, 1) := by decide +kernel
theorem dX8_keep_39 : decode cX8_keep 39 = .ok (.getfield 32, 3) := by decide +kernel
theorem dX8_keep_42 : decode cX8_keep 42 = .ok (.iload_n 1, 1) := by decide +kernel
theorem dX8_keep_43 : decode cX8_keep 43 = .ok (.aaload, 1) := by decide +kernel
theorem dX8_keep_44 : decode cX8_keep 44 = .ok (.aload_n 0, 1) := by decide +kernel
theorem dX8_keep_45 : decode cX8_keep 45 = .ok (.getfield 61, 3) := by decide +kernel
theorem dX8_keep_48 : decode cX8_keep 48 = .ok (.getfield 110, 3) := by decide +kernel
theorem dX8_keep_51 : decode cX8_keep 51 = .ok (.putfield 238, 3) := by decide +kernel
theorem dX8_keep_54 : decode cX8_keep 54 = .ok (.aload_n 0, 1) := by decide +kernel
theorem dX8_keep_55 : decode cX8_keep 55 = .ok (.getfield 19, 3) := by decide +kernel
theorem dX8_keep_58 : decode cX8_keep 58 = .ok (.iconst 0, 1) := by decide +kernel
theorem dX8_keep_59 : decode cX8_keep 59 = .ok (.putfield 109, 3) := by decide +kernel
theorem dX8_keep_62 : decode cX8_keep 62 = .ok (.iconst 1, 1) := by decide +kernel
theorem dX8_keep_63 : decode cX8_keep 63 = .ok (.ireturn, 1) := by decide +kernel
set_option maxRecDepth 20000 in
theorem ggX8_goBack_X6_copyFrom : GoodIn wsX8_goBack wsX6_copyFrom := goodIn_r _ [16, 17, 18, 19, 20, 21, 22, 23, 24, 25, 26, 27, 28, 29, 30, 31, 32, 33, 34, 35, 36, 52, 53, 54, 55, 56, 57, 58, 59, 60, 61] (by decide +kernel) (by decide +kernel)
set_option maxRecDepth 20000 in
theorem gX8_goBack_X6_copyFrom : GoodIn wsX8_goBack (wsV RX8 236 RX6 yX6_copyFrom wsX6_copyFrom) := goodIn_app (goodIn_of _ (by decide +kernel)) ggX8_goBack_X6_copyFrom
theorem dX8_goBack_0 : decode cX8_goBack 0 = .ok (.iload_n 1, 1) := by decide +kernel
theorem dX8_goBack_1 : decode cX8_goBack 1 = .ok (.ifCond .lt 8, 3) := by decide +kernel
theorem dX8_goBack_4 : decode cX8_goBack 4 = .ok (.iload_n 1, 1) := by decide +kernel
theorem dX8_goBack_5 : decode cX8_goBack 5 = .ok (.iconst 2, 1) := by decide +kernel
theorem dX8_goBack_6 : decode cX8_goBack 6 = .ok (.if_icmp .lt 6, 3) := by decide +kernel
theorem dX8_goBack_9 : decode cX8_goBack 9 = .ok (.ldc 118, 2) := by decide +kernel
theorem dX8_goBack_11 : decode cX8_goBack 11 = .ok (.ireturn, 1) := by decide +kernel
theorem dX8_goBack_12 : decode cX8_goBack 12 = .ok (.aload_n 0, 1) := by decide +kernel
theorem dX8_goBack_13 : decode cX8_goBack 13 = .ok (.getfield 32, 3) := by decide +kernel
theorem dX8_goBack_16 : decode cX8_goBack 16 = .ok (.iload_n 1, 1) := by decide +kernel
theorem dX8_goBack_17 : decode cX8_goBack 17 = .ok (.aaload, 1) := by decide +kernel
theorem dX8_goBack_18 : decode cX8_goBack 18 = .ok (.getfield 230, 3) := by decide +kernel
theorem dX8_goBack_21 : decode cX8_goBack 21 = .ok (.ifCond .ne 6, 3) := by decide +kernel
theorem dX8_goBack_24 : decode cX8_goBack 24 = .ok (.ldc 221, 2) := by decide +kernel
theorem dX8_goBack_26 : decode cX8_goBack 26 = .ok (.ireturn, 1) := by decide +kernel
theorem dX8_goBack_27 : decode cX8_goBack 27 = .ok (.aload_n 0, 1) := by decide +kernel
theorem dX8_goBack_28 : decode cX8_goBack 28 = .ok (.getfield 10, 3) := by decide +kernel
theorem dX8_goBack_31 : decode cX8_goBack 31 = .ok (.aload_n 0, 1) := by decide +kernel
theorem dX8_goBack_32 : decode cX8_goBack 32 = .ok (.getfield 32, 3) := by decide +kernel
theorem dX8_goBack_35 : decode cX8_goBack 35 = .ok (.iload_n 1, 1) := by decide +kernel
theorem dX8_goBack_36 : decode cX8_goBack 36 = .ok (.aaload, 1) := by decide +kernel
theorem dX8_goBack_37 : decode cX8_goBack 37 = .ok (.getfield 234, 3) := by decide +kernel
theorem dX8_goBack_40 : decode cX8_goBack 40 = .ok (.invokevirtual 236, 3) := by decide +kernel
theorem dX8_goBack_43 : decode cX8_goBack 43 = .ok (.aload_n 0, 1) := by decide +kernel
theorem dX8_goBack_44 : decode cX8_goBack 44 = .ok (.getfield 61, 3) := by decide +kernel
theorem dX8_goBack_47 : decode cX8_goBack 47 = .ok (.aload_n 0, 1) := by decide +kernel
theorem dX8_goBack_48 : decode cX8_goBack 48 = .ok (.getfield 32, 3) := by decide +kernel
theorem dX8_goBack_51 : decode cX8_goBack 51 = .ok (.iload_n 1, 1) := by decide +kernel
theorem dX8_goBack_52 : decode cX8_goBack 52 = .ok (.aaload, 1) := by decide +kernel
theorem dX8_goBack_53 : decode cX8_goBack 53 = .ok (.getfield 238, 3) := by decide +kernel
theorem dX8_goBack_56 : decode cX8_goBack 56 = .ok (.putfield 110, 3) := by decide +kernel
theorem dX8_goBack_59 : decode cX8_goBack 59 = .ok (.aload_n 0, 1) := by decide +kernel
theorem dX8_goBack_60 : decode cX8_goBack 60 = .ok (.getfield 19, 3) := by decide +kernel
theorem dX8_goBack_63 : decode cX8_goBack 63 = .ok (.iconst 0, 1) := by decide +kernel
theorem dX8_goBack_64 : decode cX8_goBack 64 = .ok (.putfield 109, 3) := by decide +kernel
theorem dX8_goBack_67 : decode cX8_goBack 67 = .ok (.iconst 1, 1) := by decide +kernel
theorem dX8_goBack_68 : decode cX8_goBack 68 = .ok (.ireturn, 1) := by decide +kernel
theorem dX8_isRefinedKind_0 : decode cX8_isRefinedKind 0 = .ok (.iload_n 0, 1) := by decide +kernel
theorem dX8_isRefinedKind_1 : decode cX8_isRefinedKind 1 = .ok (.ifCond .lt 12, 3) := by decide +kernel
theorem dX8_isRefinedKind_4 : decode cX8_isRefinedKind 4 = .ok (.iload_n 0, 1) := by decide +kernel
theorem dX8_isRefinedKind_5 : decode cX8_isRefinedKind 5 = .ok (.iconst 4, 1) := by decide +kernel
theorem dX8_isRefinedKind_6 : decode cX8_isRefinedKind 6 = .ok (.if_icmp .gt 7, 3) := by decide +kernel
theorem dX8_isRefinedKind_9 : decode cX8_isRefinedKind 9 = .ok (.iconst 1, 1) := by decide +kernel
theorem dX8_isRefinedKind_10 : decode cX8_isRefinedKind 10 = .ok (.goto 4, 3) := by decide +kernel
theorem dX8_isRefinedKind_13 : decode cX8_isRefinedKind 13 = .ok (.iconst 0, 1) := by decide +kernel
theorem dX8_isRefinedKind_14 : decode cX8_isRefinedKind 14 = .ok (.ireturn, 1) := by decide +kernel
set_option maxRecDepth 20000 in
theorem ggX8_refusalOfSet_X6_hasItem : GoodIn wsX8_refusalOfSet wsX6_hasItem := goodIn_r _ [9, 10, 30, 31, 32, 33, 34, 35, 36, 37] (by decide +kernel) (by decide +kernel)
set_option maxRecDepth 20000 in
theorem gX8_refusalOfSet_X6_hasItem : GoodIn wsX8_refusalOfSet (wsV RX8 114 RX6 yX6_hasItem wsX6_hasItem) := goodIn_app (goodIn_of _ (by decide +kernel)) ggX8_refusalOfSet_X6_hasItem
set_option maxRecDepth 20000 in
theorem ggX8_refusalOfSet_X6_hasLetter : GoodIn wsX8_refusalOfSet wsX6_hasLetter := goodIn_r _ [14, 15, 30, 31, 32, 33, 34, 35, 36, 37] (by decide +kernel) (by decide +kernel)
set_option maxRecDepth 20000 in
theorem gX8_refusalOfSet_X6_hasLetter : GoodIn wsX8_refusalOfSet (wsV RX8 138 RX6 yX6_hasLetter wsX6_hasLetter) := goodIn_app (goodIn_of _ (by decide +kernel)) ggX8_refusalOfSet_X6_hasLetter
set_option maxRecDepth 20000 in
theorem ggX8_refusalOfSet_X5_hasPlace : GoodIn wsX8_refusalOfSet wsX5_hasPlace := goodIn_r _ [20, 21, 38, 39] (by decide +kernel) (by decide +kernel)
set_option maxRecDepth 20000 in
theorem gX8_refusalOfSet_X5_hasPlace : GoodIn wsX8_refusalOfSet (wsV RX8 145 RX5 yX5_hasPlace wsX5_hasPlace) := goodIn_app (goodIn_of _ (by decide +kernel)) ggX8_refusalOfSet_X5_hasPlace
theorem dX8_refusalOfSet_0 : decode cX8_refusalOfSet 0 = .ok (.iload_n 1, 1) := by decide +kernel
theorem dX8_refusalOfSet_1 : decode cX8_refusalOfSet 1 = .ok (.tableswitch 142 0 5 #[39, 39, 57, 74, 106, 108], 39) := by decide +kernel
theorem dX8_refusalOfSet_40 : decode cX8_refusalOfSet 40 = .ok (.aload_n 0, 1) := by decide +kernel
theorem dX8_refusalOfSet_41 : decode cX8_refusalOfSet 41 = .ok (.getfield 10, 3) := by decide +kernel
theorem dX8_refusalOfSet_44 : decode cX8_refusalOfSet 44 = .ok (.iload_n 2, 1) := by decide +kernel
theorem dX8_refusalOfSet_45 : decode cX8_refusalOfSet 45 = .ok (.invokevirtual 114, 3) := by decide +kernel
theorem dX8_refusalOfSet_48 : decode cX8_refusalOfSet 48 = .ok (.ifCond .eq 7, 3) := by decide +kernel
theorem dX8_refusalOfSet_51 : decode cX8_refusalOfSet 51 = .ok (.iconst (-1), 1) := by decide +kernel
theorem dX8_refusalOfSet_52 : decode cX8_refusalOfSet 52 = .ok (.goto 5, 3) := by decide +kernel
theorem dX8_refusalOfSet_55 : decode cX8_refusalOfSet 55 = .ok (.ldc 118, 2) := by decide +kernel
theorem dX8_refusalOfSet_57 : decode cX8_refusalOfSet 57 = .ok (.ireturn, 1) := by decide +kernel
theorem dX8_refusalOfSet_58 : decode cX8_refusalOfSet 58 = .ok (.iload_n 2, 1) := by decide +kernel
theorem dX8_refusalOfSet_59 : decode cX8_refusalOfSet 59 = .ok (.ifCond .lt 13, 3) := by decide +kernel
theorem dX8_refusalOfSet_62 : decode cX8_refusalOfSet 62 = .ok (.iload_n 2, 1) := by decide +kernel
theorem dX8_refusalOfSet_63 : decode cX8_refusalOfSet 63 = .ok (.bipush 8, 2) := by decide +kernel
theorem dX8_refusalOfSet_65 : decode cX8_refusalOfSet 65 = .ok (.if_icmp .ge 7, 3) := by decide +kernel
theorem dX8_refusalOfSet_68 : decode cX8_refusalOfSet 68 = .ok (.iconst (-1), 1) := by decide +kernel
theorem dX8_refusalOfSet_69 : decode cX8_refusalOfSet 69 = .ok (.goto 5, 3) := by decide +kernel
theorem dX8_refusalOfSet_72 : decode cX8_refusalOfSet 72 = .ok (.ldc 118, 2) := by decide +kernel
theorem dX8_refusalOfSet_74 : decode cX8_refusalOfSet 74 = .ok (.ireturn, 1) := by decide +kernel
theorem dX8_refusalOfSet_75 : decode cX8_refusalOfSet 75 = .ok (.aload_n 0, 1) := by decide +kernel
theorem dX8_refusalOfSet_76 : decode cX8_refusalOfSet 76 = .ok (.getfield 10, 3) := by decide +kernel
theorem dX8_refusalOfSet_79 : decode cX8_refusalOfSet 79 = .ok (.iload_n 2, 1) := by decide +kernel
theorem dX8_refusalOfSet_80 : decode cX8_refusalOfSet 80 = .ok (.invokevirtual 138, 3) := by decide +kernel
theorem dX8_refusalOfSet_83 : decode cX8_refusalOfSet 83 = .ok (.ifCond .eq 21, 3) := by decide +kernel
theorem dX8_refusalOfSet_86 : decode cX8_refusalOfSet 86 = .ok (.aload_n 0, 1) := by decide +kernel
theorem dX8_refusalOfSet_87 : decode cX8_refusalOfSet 87 = .ok (.getfield 10, 3) := by decide +kernel
theorem dX8_refusalOfSet_90 : decode cX8_refusalOfSet 90 = .ok (.getfield 69, 3) := by decide +kernel
theorem dX8_refusalOfSet_93 : decode cX8_refusalOfSet 93 = .ok (.iload_n 3, 1) := by decide +kernel
theorem dX8_refusalOfSet_94 : decode cX8_refusalOfSet 94 = .ok (.invokevirtual 145, 3) := by decide +kernel
theorem dX8_refusalOfSet_97 : decode cX8_refusalOfSet 97 = .ok (.ifCond .eq 7, 3) := by decide +kernel
theorem dX8_refusalOfSet_100 : decode cX8_refusalOfSet 100 = .ok (.iconst (-1), 1) := by decide +kernel
theorem dX8_refusalOfSet_101 : decode cX8_refusalOfSet 101 = .ok (.goto 5, 3) := by decide +kernel
theorem dX8_refusalOfSet_104 : decode cX8_refusalOfSet 104 = .ok (.ldc 118, 2) := by decide +kernel
theorem dX8_refusalOfSet_106 : decode cX8_refusalOfSet 106 = .ok (.ireturn, 1) := by decide +kernel
theorem dX8_refusalOfSet_107 : decode cX8_refusalOfSet 107 = .ok (.iconst (-1), 1) := by decide +kernel
theorem dX8_refusalOfSet_108 : decode cX8_refusalOfSet 108 = .ok (.ireturn, 1) := by decide +kernel
theorem dX8_refusalOfSet_109 : decode cX8_refusalOfSet 109 = .ok (.aload_n 0, 1) := by decide +kernel
theorem dX8_refusalOfSet_110 : decode cX8_refusalOfSet 110 = .ok (.getfield 10, 3) := by decide +kernel
theorem dX8_refusalOfSet_113 : decode cX8_refusalOfSet 113 = .ok (.getfield 69, 3) := by decide +kernel
theorem dX8_refusalOfSet_116 : decode cX8_refusalOfSet 116 = .ok (.iload_n 2, 1) := by decide +kernel
theorem dX8_refusalOfSet_117 : decode cX8_refusalOfSet 117 = .ok (.invokevirtual 145, 3) := by decide +kernel
theorem dX8_refusalOfSet_120 : decode cX8_refusalOfSet 120 = .ok (.ifCond .ne 6, 3) := by decide +kernel
theorem dX8_refusalOfSet_123 : decode cX8_refusalOfSet 123 = .ok (.ldc 118, 2) := by decide +kernel
theorem dX8_refusalOfSet_125 : decode cX8_refusalOfSet 125 = .ok (.ireturn, 1) := by decide +kernel
theorem dX8_refusalOfSet_126 : decode cX8_refusalOfSet 126 = .ok (.iload_n 3, 1) := by decide +kernel
theorem dX8_refusalOfSet_127 : decode cX8_refusalOfSet 127 = .ok (.ifCond .lt 13, 3) := by decide +kernel
theorem dX8_refusalOfSet_130 : decode cX8_refusalOfSet 130 = .ok (.iload_n 3, 1) := by decide +kernel
theorem dX8_refusalOfSet_131 : decode cX8_refusalOfSet 131 = .ok (.bipush 12, 2) := by decide +kernel
theorem dX8_refusalOfSet_133 : decode cX8_refusalOfSet 133 = .ok (.if_icmp .gt 7, 3) := by decide +kernel
theorem dX8_refusalOfSet_136 : decode cX8_refusalOfSet 136 = .ok (.iconst (-1), 1) := by decide +kernel
theorem dX8_refusalOfSet_137 : decode cX8_refusalOfSet 137 = .ok (.goto 5, 3) := by decide +kernel
theorem dX8_refusalOfSet_140 : decode cX8_refusalOfSet 140 = .ok (.ldc 113, 2) := by decide +kernel
theorem dX8_refusalOfSet_142 : decode cX8_refusalOfSet 142 = .ok (.ireturn, 1) := by decide +kernel
theorem dX8_refusalOfSet_143 : decode cX8_refusalOfSet 143 = .ok (.ldc 113, 2) := by decide +kernel
theorem dX8_refusalOfSet_145 : decode cX8_refusalOfSet 145 = .ok (.ireturn, 1) := by decide +kernel
set_option maxRecDepth 20000 in
theorem ggX8_splitAndCount_X2_remember : GoodIn wsX8_splitAndCount wsX2_remember := goodIn_r _ [10, 11, 12, 13, 14, 15, 16, 17, 18, 19, 20, 21, 22, 23, 24, 25, 26, 27, 28, 29, 30, 31, 32, 33, 34, 35, 36, 37, 38, 39, 40, 41, 42, 76, 77, 78, 66, 67, 68, 69, 70, 71, 72, 73, 74, 75] (by decide +kernel) (by decide +kernel)
set_option maxRecDepth 20000 in
theorem gX8_splitAndCount_X2_remember : GoodIn wsX8_splitAndCount (wsV RX8 166 RX2 yX2_remember wsX2_remember) := goodIn_app (goodIn_of _ (by decide +kernel)) ggX8_splitAndCount_X2_remember
set_option maxRecDepth 20000 in
theorem ggX8_splitAndCount_X5_cutBy : GoodIn wsX8_splitAndCount wsX5_cutBy := goodIn_r _ [46, 42, 40, 47, 48, 49, 38, 50, 74, 75] (by decide +kernel) (by decide +kernel)
set_option maxRecDepth 20000 in
theorem gX8_splitAndCount_X5_cutBy : GoodIn wsX8_splitAndCount (wsV RX8 241 RX5 yX5_cutBy wsX5_cutBy) := goodIn_app (goodIn_of _ (by decide +kernel)) ggX8_splitAndCount_X5_cutBy
set_option maxRecDepth 20000 in
theorem ggX8_splitAndCount_J6_bitCount_0f7a4 : GoodIn wsX8_splitAndCount wsJ6_bitCount_0f7a4 := goodIn_r _ [54, 55, 56, 57] (by decide +kernel) (by decide +kernel)
set_option maxRecDepth 20000 in
theorem gX8_splitAndCount_J6_bitCount_0f7a4 : GoodIn wsX8_splitAndCount (va_wsS RX8 133 yJ6_bitCount_0f7a4 wsJ6_bitCount_0f7a4) := goodIn_app (goodIn_of _ (by decide +kernel)) ggX8_splitAndCount_J6_bitCount_0f7a4
theorem dX8_splitAndCount_0 : decode cX8_splitAndCount 0 = .ok (.aload_n 0, 1) := by decide +kernel
theorem dX8_splitAndCount_1 : decode cX8_splitAndCount 1 = .ok (.getfield 19, 3) := by decide +kernel
theorem dX8_splitAndCount_4 : decode cX8_splitAndCount 4 = .ok (.aload_n 0, 1) := by decide +kernel
theorem dX8_splitAndCount_5 : decode cX8_splitAndCount 5 = .ok (.getfield 10, 3) := by decide +kernel
theorem dX8_splitAndCount_8 : decode cX8_splitAndCount 8 = .ok (.invokevirtual 166, 3) := by decide +kernel
theorem dX8_splitAndCount_11 : decode cX8_splitAndCount 11 = .ok (.aload_n 0, 1) := by decide +kernel
theorem dX8_splitAndCount_12 : decode cX8_splitAndCount 12 = .ok (.getfield 10, 3) := by decide +kernel
theorem dX8_splitAndCount_15 : decode cX8_splitAndCount 15 = .ok (.getfield 69, 3) := by decide +kernel
theorem dX8_splitAndCount_18 : decode cX8_splitAndCount 18 = .ok (.iload_n 1, 1) := by decide +kernel
theorem dX8_splitAndCount_19 : decode cX8_splitAndCount 19 = .ok (.invokevirtual 241, 3) := by decide +kernel
theorem dX8_splitAndCount_22 : decode cX8_splitAndCount 22 = .ok (.aload_n 0, 1) := by decide +kernel
theorem dX8_splitAndCount_23 : decode cX8_splitAndCount 23 = .ok (.getfield 10, 3) := by decide +kernel
theorem dX8_splitAndCount_26 : decode cX8_splitAndCount 26 = .ok (.dup, 1) := by decide +kernel
theorem dX8_splitAndCount_27 : decode cX8_splitAndCount 27 = .ok (.getfield 75, 3) := by decide +kernel
theorem dX8_splitAndCount_30 : decode cX8_splitAndCount 30 = .ok (.iload_n 1, 1) := by decide +kernel
theorem dX8_splitAndCount_31 : decode cX8_splitAndCount 31 = .ok (.invokestatic 133, 3) := by decide +kernel
theorem dX8_splitAndCount_34 : decode cX8_splitAndCount 34 = .ok (.iadd, 1) := by decide +kernel
theorem dX8_splitAndCount_35 : decode cX8_splitAndCount 35 = .ok (.putfield 75, 3) := by decide +kernel
theorem dX8_splitAndCount_38 : decode cX8_splitAndCount 38 = .ok (.aload_n 0, 1) := by decide +kernel
theorem dX8_splitAndCount_39 : decode cX8_splitAndCount 39 = .ok (.getfield 10, 3) := by decide +kernel
theorem dX8_splitAndCount_42 : decode cX8_splitAndCount 42 = .ok (.getfield 69, 3) := by decide +kernel
theorem dX8_splitAndCount_45 : decode cX8_splitAndCount 45 = .ok (.getfield 72, 3) := by decide +kernel
theorem dX8_splitAndCount_48 : decode cX8_splitAndCount 48 = .ok (.ireturn, 1) := by decide +kernel
set_option maxRecDepth 20000 in
theorem ggX8_refineAside_X6_all : GoodIn wsX8_refineAside wsX6_all := goodIn_r _ [8, 9, 130, 131, 132, 133, 134, 135, 136, 137] (by decide +kernel) (by decide +kernel)
set_option maxRecDepth 20000 in
theorem gX8_refineAside_X6_all : GoodIn wsX8_refineAside (wsV RX8 191 RX6 yX6_all wsX6_all) := goodIn_app (goodIn_of _ (by decide +kernel)) ggX8_refineAside_X6_all
set_option maxRecDepth 20000 in
theorem ggX8_refineAside_X5_gather : GoodIn wsX8_refineAside wsX5_gather := goodIn_r _ [14, 15, 16, 138, 139] (by decide +kernel) (by decide +kernel)
set_option maxRecDepth 20000 in
theorem gX8_refineAside_X5_gather : GoodIn wsX8_refineAside (wsV RX8 194 RX5 yX5_gather wsX5_gather) := goodIn_app (goodIn_of _ (by decide +kernel)) ggX8_refineAside_X5_gather
set_option maxRecDepth 20000 in
theorem ggX8_refineAside_X4_refineRow : GoodIn wsX8_refineAside wsX4_refineRow := goodIn_r _ [21, 22, 23, 24, 25, 13, 26, 16, 15, 27, 28, 29, 30, 31, 32, 33, 20, 34, 35, 36, 37, 38, 39, 40, 41, 42, 43, 44, 45, 46, 47, 48, 49, 50, 51, 52, 53, 54, 55, 56, 57, 58, 59, 60, 7, 61, 9, 62, 63, 64, 65, 66, 67, 68, 69, 70, 71, 72, 73, 74, 75, 76, 77, 78, 79, 80, 81, 82, 83, 84, 85, 86, 87, 88, 89, 90, 91, 92, 93, 94, 95, 96, 97, 98, 99, 100, 101, 102, 103, 104, 105, 106, 107, 108, 109, 110, 111, 112, 113, 114, 115, 116, 117, 118, 119, 120, 121, 130, 131, 132, 133, 134, 135, 136, 137, 138, 139, 140] (by decide +kernel) (by decide +kernel)
set_option maxRecDepth 20000 in
theorem gX8_refineAside_X4_refineRow : GoodIn wsX8_refineAside (wsV RX8 200 RX4 yX4_refineRow wsX4_refineRow) := goodIn_app (goodIn_of _ (by decide +kernel)) ggX8_refineAside_X4_refineRow
theorem dX8_refineAside_0 : decode cX8_refineAside 0 = .ok (.aload_n 0, 1) := by decide +kernel
theorem dX8_refineAside_1 : decode cX8_refineAside 1 = .ok (.getfield 54, 3) := by decide +kernel
theorem dX8_refineAside_4 : decode cX8_refineAside 4 = .ok (.aload_n 0, 1) := by decide +kernel
theorem dX8_refineAside_5 : decode cX8_refineAside 5 = .ok (.getfield 10, 3) := by decide +kernel
theorem dX8_refineAside_8 : decode cX8_refineAside 8 = .ok (.invokevirtual 191, 3) := by decide +kernel
theorem dX8_refineAside_11 : decode cX8_refineAside 11 = .ok (.invokevirtual 194, 3) := by decide +kernel
theorem dX8_refineAside_14 : decode cX8_refineAside 14 = .ok (.aload_n 0, 1) := by decide +kernel
theorem dX8_refineAside_15 : decode cX8_refineAside 15 = .ok (.getfield 40, 3) := by decide +kernel
theorem dX8_refineAside_18 : decode cX8_refineAside 18 = .ok (.aload_n 0, 1) := by decide +kernel
theorem dX8_refineAside_19 : decode cX8_refineAside 19 = .ok (.getfield 10, 3) := by decide +kernel
theorem dX8_refineAside_22 : decode cX8_refineAside 22 = .ok (.aload_n 0, 1) := by decide +kernel
theorem dX8_refineAside_23 : decode cX8_refineAside 23 = .ok (.getfield 54, 3) := by decide +kernel
theorem dX8_refineAside_26 : decode cX8_refineAside 26 = .ok (.iload_n 1, 1) := by decide +kernel
theorem dX8_refineAside_27 : decode cX8_refineAside 27 = .ok (.invokevirtual 200, 3) := by decide +kernel
theorem dX8_refineAside_30 : decode cX8_refineAside 30 = .ok (.return_, 1) := by decide +kernel
set_option maxRecDepth 20000 in
theorem ggX9_init_X9_lays : GoodIn wsX9_init wsX9_lays := goodIn_r _ [24, 5, 25, 26, 27, 28, 29, 30, 31, 32, 33, 34, 35, 36, 37, 38, 39, 40, 41] (by decide +kernel) (by decide +kernel)
set_option maxRecDepth 20000 in
theorem gX9_init_X9_lays : GoodIn wsX9_init (wsV RX9 53 RX9 yX9_lays wsX9_lays) := goodIn_app (goodIn_of _ (by decide +kernel)) ggX9_init_X9_lays
theorem dX9_init_0 : decode cX9_init 0 = .ok (.aload_n 0, 1) := by decide +kernel
theorem dX9_init_1 : decode cX9_init 1 = .ok (.invokespecial 1, 3) := by decide +kernel
theorem dX9_init_4 : decode cX9_init 4 = .ok (.aload_n 0, 1) := by decide +kernel
theorem dX9_init_5 : decode cX9_init 5 = .ok (.bipush 76, 2) := by decide +kernel
theorem dX9_init_7 : decode cX9_init 7 = .ok (.newarray .int, 2) := by decide +kernel
theorem dX9_init_9 : decode cX9_init 9 = .ok (.putfield 7, 3) := by decide +kernel
theorem dX9_init_12 : decode cX9_init 12 = .ok (.aload_n 0, 1) := by decide +kernel
theorem dX9_init_13 : decode cX9_init 13 = .ok (.sipush 1216, 3) := by decide +kernel
theorem dX9_init_16 : decode cX9_init 16 = .ok (.newarray .int, 2) := by decide +kernel
theorem dX9_init_18 : decode cX9_init 18 = .ok (.putfield 13, 3) := by decide +kernel
theorem dX9_init_21 : decode cX9_init 21 = .ok (.aload_n 0, 1) := by decide +kernel
theorem dX9_init_22 : decode cX9_init 22 = .ok (.sipush 154, 3) := by decide +kernel
theorem dX9_init_25 : decode cX9_init 25 = .ok (.newarray .int, 2) := by decide +kernel
theorem dX9_init_27 : decode cX9_init 27 = .ok (.putfield 16, 3) := by decide +kernel
theorem dX9_init_30 : decode cX9_init 30 = .ok (.aload_n 0, 1) := by decide +kernel
theorem dX9_init_31 : decode cX9_init 31 = .ok (.iconst 2, 1) := by decide +kernel
theorem dX9_init_32 : decode cX9_init 32 = .ok (.newarray .boolean, 2) := by decide +kernel
theorem dX9_init_34 : decode cX9_init 34 = .ok (.putfield 19, 3) := by decide +kernel
theorem dX9_init_37 : decode cX9_init 37 = .ok (.aload_n 0, 1) := by decide +kernel
theorem dX9_init_38 : decode cX9_init 38 = .ok (.bipush 20, 2) := by decide +kernel
theorem dX9_init_40 : decode cX9_init 40 = .ok (.newarray .int, 2) := by decide +kernel
theorem dX9_init_42 : decode cX9_init 42 = .ok (.putfield 23, 3) := by decide +kernel
theorem dX9_init_45 : decode cX9_init 45 = .ok (.aload_n 0, 1) := by decide +kernel
theorem dX9_init_46 : decode cX9_init 46 = .ok (.bipush 20, 2) := by decide +kernel
theorem dX9_init_48 : decode cX9_init 48 = .ok (.newarray .int, 2) := by decide +kernel
theorem dX9_init_50 : decode cX9_init 50 = .ok (.putfield 26, 3) := by decide +kernel
theorem dX9_init_53 : decode cX9_init 53 = .ok (.aload_n 0, 1) := by decide +kernel
theorem dX9_init_54 : decode cX9_init 54 = .ok (.bipush 12, 2) := by decide +kernel
theorem dX9_init_56 : decode cX9_init 56 = .ok (.newarray .int, 2) := by decide +kernel
theorem dX9_init_58 : decode cX9_init 58 = .ok (.putfield 29, 3) := by decide +kernel
theorem dX9_init_61 : decode cX9_init 61 = .ok (.aload_n 0, 1) := by decide +kernel
theorem dX9_init_62 : decode cX9_init 62 = .ok (.sipush 144, 3) := by decide +kernel
theorem dX9_init_65 : decode cX9_init 65 = .ok (.newarray .boolean, 2) := by decide +kernel
theorem dX9_init_67 : decode cX9_init 67 = .ok (.putfield 32, 3) := by decide +kernel
theorem dX9_init_70 : decode cX9_init 70 = .ok (.aload_n 0, 1) := by decide +kernel
theorem dX9_init_71 : decode cX9_init 71 = .ok (.sipush 144, 3) := by decide +kernel
theorem dX9_init_74 : decode cX9_init 74 = .ok (.newarray .boolean, 2) := by decide +kernel
theorem dX9_init_76 : decode cX9_init 76 = .ok (.putfield 35, 3) := by decide +kernel
theorem dX9_init_79 : decode cX9_init 79 = .ok (.aload_n 0, 1) := by decide +kernel
theorem dX9_init_80 : decode cX9_init 80 = .ok (.bipush 12, 2) := by decide +kernel
theorem dX9_init_82 : decode cX9_init 82 = .ok (.newarray .int, 2) := by decide +kernel
theorem dX9_init_84 : decode cX9_init 84 = .ok (.putfield 38, 3) := by decide +kernel
theorem dX9_init_87 : decode cX9_init 87 = .ok (.aload_n 0, 1) := by decide +kernel
theorem dX9_init_88 : decode cX9_init 88 = .ok (.sipush 144, 3) := by decide +kernel
theorem dX9_init_91 : decode cX9_init 91 = .ok (.newarray .int, 2) := by decide +kernel
theorem dX9_init_93 : decode cX9_init 93 = .ok (.putfield 41, 3) := by decide +kernel
theorem dX9_init_96 : decode cX9_init 96 = .ok (.aload_n 0, 1) := by decide +kernel
theorem dX9_init_97 : decode cX9_init 97 = .ok (.sipush 144, 3) := by decide +kernel
theorem dX9_init_100 : decode cX9_init 100 = .ok (.newarray .int, 2) := by decide +kernel
theorem dX9_init_102 : decode cX9_init 102 = .ok (.putfield 44, 3) := by decide +kernel
theorem dX9_init_105 : decode cX9_init 105 = .ok (.aload_n 0, 1) := by decide +kernel
theorem dX9_init_106 : decode cX9_init 106 = .ok (.sipush 144, 3) := by decide +kernel
theorem dX9_init_109 : decode cX9_init 109 = .ok (.newarray .boolean, 2) := by decide +kernel
theorem dX9_init_111 : decode cX9_init 111 = .ok (.putfield 47, 3) := by decide +kernel
theorem dX9_init_114 : decode cX9_init 114 = .ok (.aload_n 0, 1) := by decide +kernel
theorem dX9_init_115 : decode cX9_init 115 = .ok (.bipush 12, 2) := by decide +kernel
theorem dX9_init_117 : decode cX9_init 117 = .ok (.newarray .int, 2) := by decide +kernel
theorem dX9_init_119 : decode cX9_init 119 = .ok (.putfield 50, 3) := by decide +kernel
theorem dX9_init_122 : decode cX9_init 122 = .ok (.aload_n 0, 1) := by decide +kernel
theorem dX9_init_123 : decode cX9_init 123 = .ok (.iconst 4, 1) := by decide +kernel
theorem dX9_init_124 : decode cX9_init 124 = .ok (.invokevirtual 53, 3) := by decide +kernel
theorem dX9_init_127 : decode cX9_init 127 = .ok (.return_, 1) := by decide +kernel
theorem dX9_in_0 : decode cX9_in 0 = .ok (.iload_n 0, 1) := by decide +kernel
theorem dX9_in_1 : decode cX9_in 1 = .ok (.iload_n 1, 1) := by decide +kernel
theorem dX9_in_2 : decode cX9_in 2 = .ok (.if_icmp .lt 12, 3) := by decide +kernel
theorem dX9_in_5 : decode cX9_in 5 = .ok (.iload_n 0, 1) := by decide +kernel
theorem dX9_in_6 : decode cX9_in 6 = .ok (.iload_n 2, 1) := by decide +kernel
theorem dX9_in_7 : decode cX9_in 7 = .ok (.if_icmp .gt 7, 3) := by decide +kernel
theorem dX9_in_10 : decode cX9_in 10 = .ok (.iconst 1, 1) := by decide +kernel
theorem dX9_in_11 : decode cX9_in 11 = .ok (.goto 4, 3) := by decide +kernel
theorem dX9_in_14 : decode cX9_in 14 = .ok (.iconst 0, 1) := by decide +kernel
theorem dX9_in_15 : decode cX9_in 15 = .ok (.ireturn, 1) := by decide +kernel
theorem dX9_has_0 : decode cX9_has 0 = .ok (.iload_n 0, 1) := by decide +kernel
theorem dX9_has_1 : decode cX9_has 1 = .ok (.iload_n 1, 1) := by decide +kernel
theorem dX9_has_2 : decode cX9_has 2 = .ok (.ishr, 1) := by decide +kernel
theorem dX9_has_3 : decode cX9_has 3 = .ok (.iconst 1, 1) := by decide +kernel
theorem dX9_has_4 : decode cX9_has 4 = .ok (.iand, 1) := by decide +kernel
theorem dX9_has_5 : decode cX9_has 5 = .ok (.iconst 1, 1) := by decide +kernel
theorem dX9_has_6 : decode cX9_has 6 = .ok (.if_icmp .ne 7, 3) := by decide +kernel
theorem dX9_has_9 : decode cX9_has 9 = .ok (.iconst 1, 1) := by decide +kernel
theorem dX9_has_10 : decode cX9_has 10 = .ok (.goto 4, 3) := by decide +kernel
theorem dX9_has_13 : decode cX9_has 13 = .ok (.iconst 0, 1) := by decide +kernel
theorem dX9_has_14 : decode cX9_has 14 = .ok (.ireturn, 1) := by decide +kernel
theorem dX9_sizeOf_0 : decode cX9_sizeOf 0 = .ok (.iconst 0, 1) := by decide +kernel
theorem dX9_sizeOf_1 : decode cX9_sizeOf 1 = .ok (.istore_n 1, 1) := by decide +kernel
theorem dX9_sizeOf_2 : decode cX9_sizeOf 2 = .ok (.iconst 0, 1) := by decide +kernel
theorem dX9_sizeOf_3 : decode cX9_sizeOf 3 = .ok (.istore_n 2, 1) := by decide +kernel
theorem dX9_sizeOf_4 : decode cX9_sizeOf 4 = .ok (.iload_n 2, 1) := by decide +kernel
theorem dX9_sizeOf_5 : decode cX9_sizeOf 5 = .ok (.bipush 12, 2) := by decide +kernel
theorem dX9_sizeOf_7 : decode cX9_sizeOf 7 = .ok (.if_icmp .ge 17, 3) := by decide +kernel
theorem dX9_sizeOf_10 : decode cX9_sizeOf 10 = .ok (.iload_n 1, 1) := by decide +kernel
theorem dX9_sizeOf_11 : decode cX9_sizeOf 11 = .ok (.iload_n 0, 1) := by decide +kernel
theorem dX9_sizeOf_12 : decode cX9_sizeOf 12 = .ok (.iload_n 2, 1) := by decide +kernel
