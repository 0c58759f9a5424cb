theorem dX4_shortestWordApart_57 : decode cX4_shortestWordApart 57 = .ok (.aload_n 2, 1) := by decide +kernel
theorem dX4_shortestWordApart_58 : decode cX4_shortestWordApart 58 = .ok (.getfield 54, 3) := by decide +kernel
theorem dX4_shortestWordApart_61 : decode cX4_shortestWordApart 61 = .ok (.aload_n 0, 1) := by decide +kernel
theorem dX4_shortestWordApart_62 : decode cX4_shortestWordApart 62 = .ok (.getfield 12, 3) := by decide +kernel
theorem dX4_shortestWordApart_65 : decode cX4_shortestWordApart 65 = .ok (.getfield 54, 3) := by decide +kernel
theorem dX4_shortestWordApart_68 : decode cX4_shortestWordApart 68 = .ok (.if_icmp .ne 6, 3) := by decide +kernel
theorem dX4_shortestWordApart_71 : decode cX4_shortestWordApart 71 = .ok (.goto 9, 3) := by decide +kernel
theorem dX4_shortestWordApart_74 : decode cX4_shortestWordApart 74 = .ok (.iinc 5 1, 3) := by decide +kernel
theorem dX4_shortestWordApart_77 : decode cX4_shortestWordApart 77 = .ok (.goto (-58), 3) := by decide +kernel
theorem dX4_shortestWordApart_80 : decode cX4_shortestWordApart 80 = .ok (.iconst (-1), 1) := by decide +kernel
theorem dX4_shortestWordApart_81 : decode cX4_shortestWordApart 81 = .ok (.ireturn, 1) := by decide +kernel
theorem dX5_init_0 : decode cX5_init 0 = .ok (.aload_n 0, 1) := by decide +kernel
theorem dX5_init_1 : decode cX5_init 1 = .ok (.invokespecial 3, 3) := by decide +kernel
theorem dX5_init_4 : decode cX5_init 4 = .ok (.aload_n 0, 1) := by decide +kernel
theorem dX5_init_5 : decode cX5_init 5 = .ok (.bipush 12, 2) := by decide +kernel
theorem dX5_init_7 : decode cX5_init 7 = .ok (.newarray .int, 2) := by decide +kernel
theorem dX5_init_9 : decode cX5_init 9 = .ok (.putfield 9, 3) := by decide +kernel
theorem dX5_init_12 : decode cX5_init 12 = .ok (.aload_n 0, 1) := by decide +kernel
theorem dX5_init_13 : decode cX5_init 13 = .ok (.iconst 0, 1) := by decide +kernel
theorem dX5_init_14 : decode cX5_init 14 = .ok (.putfield 15, 3) := by decide +kernel
theorem dX5_init_17 : decode cX5_init 17 = .ok (.return_, 1) := by decide +kernel
theorem dX5_gather_0 : decode cX5_gather 0 = .ok (.aload_n 0, 1) := by decide +kernel
theorem dX5_gather_1 : decode cX5_gather 1 = .ok (.getfield 9, 3) := by decide +kernel
theorem dX5_gather_4 : decode cX5_gather 4 = .ok (.iconst 0, 1) := by decide +kernel
theorem dX5_gather_5 : decode cX5_gather 5 = .ok (.iload_n 1, 1) := by decide +kernel
theorem dX5_gather_6 : decode cX5_gather 6 = .ok (.iastore, 1) := by decide +kernel
theorem dX5_gather_7 : decode cX5_gather 7 = .ok (.aload_n 0, 1) := by decide +kernel
theorem dX5_gather_8 : decode cX5_gather 8 = .ok (.iconst 1, 1) := by decide +kernel
theorem dX5_gather_9 : decode cX5_gather 9 = .ok (.putfield 15, 3) := by decide +kernel
theorem dX5_gather_12 : decode cX5_gather 12 = .ok (.return_, 1) := by decide +kernel
theorem dX5_copyFrom_0 : decode cX5_copyFrom 0 = .ok (.aload_n 1, 1) := by decide +kernel
theorem dX5_copyFrom_1 : decode cX5_copyFrom 1 = .ok (.getfield 9, 3) := by decide +kernel
theorem dX5_copyFrom_4 : decode cX5_copyFrom 4 = .ok (.iconst 0, 1) := by decide +kernel
theorem dX5_copyFrom_5 : decode cX5_copyFrom 5 = .ok (.aload_n 0, 1) := by decide +kernel
theorem dX5_copyFrom_6 : decode cX5_copyFrom 6 = .ok (.getfield 9, 3) := by decide +kernel
theorem dX5_copyFrom_9 : decode cX5_copyFrom 9 = .ok (.iconst 0, 1) := by decide +kernel
theorem dX5_copyFrom_10 : decode cX5_copyFrom 10 = .ok (.bipush 12, 2) := by decide +kernel
theorem dX5_copyFrom_12 : decode cX5_copyFrom 12 = .ok (.invokestatic 19, 3) := by decide +kernel
theorem dX5_copyFrom_15 : decode cX5_copyFrom 15 = .ok (.aload_n 0, 1) := by decide +kernel
theorem dX5_copyFrom_16 : decode cX5_copyFrom 16 = .ok (.aload_n 1, 1) := by decide +kernel
theorem dX5_copyFrom_17 : decode cX5_copyFrom 17 = .ok (.getfield 15, 3) := by decide +kernel
theorem dX5_copyFrom_20 : decode cX5_copyFrom 20 = .ok (.putfield 15, 3) := by decide +kernel
theorem dX5_copyFrom_23 : decode cX5_copyFrom 23 = .ok (.return_, 1) := by decide +kernel
theorem dX5_hasPlace_0 : decode cX5_hasPlace 0 = .ok (.iload_n 1, 1) := by decide +kernel
theorem dX5_hasPlace_1 : decode cX5_hasPlace 1 = .ok (.ifCond .lt 15, 3) := by decide +kernel
theorem dX5_hasPlace_4 : decode cX5_hasPlace 4 = .ok (.iload_n 1, 1) := by decide +kernel
theorem dX5_hasPlace_5 : decode cX5_hasPlace 5 = .ok (.aload_n 0, 1) := by decide +kernel
theorem dX5_hasPlace_6 : decode cX5_hasPlace 6 = .ok (.getfield 15, 3) := by decide +kernel
theorem dX5_hasPlace_9 : decode cX5_hasPlace 9 = .ok (.if_icmp .ge 7, 3) := by decide +kernel
theorem dX5_hasPlace_12 : decode cX5_hasPlace 12 = .ok (.iconst 1, 1) := by decide +kernel
theorem dX5_hasPlace_13 : decode cX5_hasPlace 13 = .ok (.goto 4, 3) := by decide +kernel
theorem dX5_hasPlace_16 : decode cX5_hasPlace 16 = .ok (.iconst 0, 1) := by decide +kernel
theorem dX5_hasPlace_17 : decode cX5_hasPlace 17 = .ok (.ireturn, 1) := by decide +kernel
set_option maxRecDepth 20000 in
theorem ggX5_setAt_X5_hasPlace : GoodIn wsX5_setAt wsX5_hasPlace := goodIn_r _ [6, 7, 8, 9] (by decide +kernel) (by decide +kernel)
set_option maxRecDepth 20000 in
theorem gX5_setAt_X5_hasPlace : GoodIn wsX5_setAt (wsV RX5 25 RX5 yX5_hasPlace wsX5_hasPlace) := goodIn_app (goodIn_of _ (by decide +kernel)) ggX5_setAt_X5_hasPlace
theorem dX5_setAt_0 : decode cX5_setAt 0 = .ok (.aload_n 0, 1) := by decide +kernel
theorem dX5_setAt_1 : decode cX5_setAt 1 = .ok (.iload_n 1, 1) := by decide +kernel
theorem dX5_setAt_2 : decode cX5_setAt 2 = .ok (.invokevirtual 25, 3) := by decide +kernel
theorem dX5_setAt_5 : decode cX5_setAt 5 = .ok (.ifCond .eq 12, 3) := by decide +kernel
theorem dX5_setAt_8 : decode cX5_setAt 8 = .ok (.aload_n 0, 1) := by decide +kernel
theorem dX5_setAt_9 : decode cX5_setAt 9 = .ok (.getfield 9, 3) := by decide +kernel
theorem dX5_setAt_12 : decode cX5_setAt 12 = .ok (.iload_n 1, 1) := by decide +kernel
theorem dX5_setAt_13 : decode cX5_setAt 13 = .ok (.iaload, 1) := by decide +kernel
theorem dX5_setAt_14 : decode cX5_setAt 14 = .ok (.goto 4, 3) := by decide +kernel
theorem dX5_setAt_17 : decode cX5_setAt 17 = .ok (.iconst 0, 1) := by decide +kernel
theorem dX5_setAt_18 : decode cX5_setAt 18 = .ok (.ireturn, 1) := by decide +kernel
theorem dX5_placeOf_0 : decode cX5_placeOf 0 = .ok (.iconst 0, 1) := by decide +kernel
theorem dX5_placeOf_1 : decode cX5_placeOf 1 = .ok (.istore_n 2, 1) := by decide +kernel
theorem dX5_placeOf_2 : decode cX5_placeOf 2 = .ok (.iload_n 2, 1) := by decide +kernel
theorem dX5_placeOf_3 : decode cX5_placeOf 3 = .ok (.aload_n 0, 1) := by decide +kernel
theorem dX5_placeOf_4 : decode cX5_placeOf 4 = .ok (.getfield 15, 3) := by decide +kernel
theorem dX5_placeOf_7 : decode cX5_placeOf 7 = .ok (.if_icmp .ge 24, 3) := by decide +kernel
theorem dX5_placeOf_10 : decode cX5_placeOf 10 = .ok (.aload_n 0, 1) := by decide +kernel
theorem dX5_placeOf_11 : decode cX5_placeOf 11 = .ok (.getfield 9, 3) := by decide +kernel
theorem dX5_placeOf_14 : decode cX5_placeOf 14 = .ok (.iload_n 2, 1) := by decide +kernel
theorem dX5_placeOf_15 : decode cX5_placeOf 15 = .ok (.iaload, 1) := by decide +kernel
theorem dX5_placeOf_16 : decode cX5_placeOf 16 = .ok (.iload_n 1, 1) := by decide +kernel
theorem dX5_placeOf_17 : decode cX5_placeOf 17 = .ok (.ishr, 1) := by decide +kernel
theorem dX5_placeOf_18 : decode cX5_placeOf 18 = .ok (.iconst 1, 1) := by decide +kernel
theorem dX5_placeOf_19 : decode cX5_placeOf 19 = .ok (.iand, 1) := by decide +kernel
theorem dX5_placeOf_20 : decode cX5_placeOf 20 = .ok (.ifCond .eq 5, 3) := by decide +kernel
theorem dX5_placeOf_23 : decode cX5_placeOf 23 = .ok (.iload_n 2, 1) := by decide +kernel
theorem dX5_placeOf_24 : decode cX5_placeOf 24 = .ok (.ireturn, 1) := by decide +kernel
theorem dX5_placeOf_25 : decode cX5_placeOf 25 = .ok (.iinc 2 1, 3) := by decide +kernel
theorem dX5_placeOf_28 : decode cX5_placeOf 28 = .ok (.goto (-26), 3) := by decide +kernel
theorem dX5_placeOf_31 : decode cX5_placeOf 31 = .ok (.iconst (-1), 1) := by decide +kernel
theorem dX5_placeOf_32 : decode cX5_placeOf 32 = .ok (.ireturn, 1) := by decide +kernel
set_option maxRecDepth 20000 in
theorem ggX5_cutBy_X5_openPlace : GoodIn wsX5_cutBy wsX5_openPlace := goodIn_r _ [7, 1, 2, 8, 9] (by decide +kernel) (by decide +kernel)
set_option maxRecDepth 20000 in
theorem gX5_cutBy_X5_openPlace : GoodIn wsX5_cutBy (wsV RX5 29 RX5 yX5_openPlace wsX5_openPlace) := goodIn_app (goodIn_of _ (by decide +kernel)) ggX5_cutBy_X5_openPlace
theorem dX5_cutBy_0 : decode cX5_cutBy 0 = .ok (.aload_n 0, 1) := by decide +kernel
theorem dX5_cutBy_1 : decode cX5_cutBy 1 = .ok (.getfield 15, 3) := by decide +kernel
theorem dX5_cutBy_4 : decode cX5_cutBy 4 = .ok (.iconst 1, 1) := by decide +kernel
theorem dX5_cutBy_5 : decode cX5_cutBy 5 = .ok (.isub, 1) := by decide +kernel
theorem dX5_cutBy_6 : decode cX5_cutBy 6 = .ok (.istore_n 2, 1) := by decide +kernel
theorem dX5_cutBy_7 : decode cX5_cutBy 7 = .ok (.iload_n 2, 1) := by decide +kernel
theorem dX5_cutBy_8 : decode cX5_cutBy 8 = .ok (.ifCond .lt 70, 3) := by decide +kernel
theorem dX5_cutBy_11 : decode cX5_cutBy 11 = .ok (.aload_n 0, 1) := by decide +kernel
theorem dX5_cutBy_12 : decode cX5_cutBy 12 = .ok (.getfield 9, 3) := by decide +kernel
theorem dX5_cutBy_15 : decode cX5_cutBy 15 = .ok (.iload_n 2, 1) := by decide +kernel
theorem dX5_cutBy_16 : decode cX5_cutBy 16 = .ok (.iaload, 1) := by decide +kernel
theorem dX5_cutBy_17 : decode cX5_cutBy 17 = .ok (.iload_n 1, 1) := by decide +kernel
theorem dX5_cutBy_18 : decode cX5_cutBy 18 = .ok (.iand, 1) := by decide +kernel
theorem dX5_cutBy_19 : decode cX5_cutBy 19 = .ok (.istore_n 3, 1) := by decide +kernel
theorem dX5_cutBy_20 : decode cX5_cutBy 20 = .ok (.aload_n 0, 1) := by decide +kernel
theorem dX5_cutBy_21 : decode cX5_cutBy 21 = .ok (.getfield 9, 3) := by decide +kernel
theorem dX5_cutBy_24 : decode cX5_cutBy 24 = .ok (.iload_n 2, 1) := by decide +kernel
theorem dX5_cutBy_25 : decode cX5_cutBy 25 = .ok (.iaload, 1) := by decide +kernel
theorem dX5_cutBy_26 : decode cX5_cutBy 26 = .ok (.iload_n 1, 1) := by decide +kernel
theorem dX5_cutBy_27 : decode cX5_cutBy 27 = .ok (.iconst (-1), 1) := by decide +kernel
theorem dX5_cutBy_28 : decode cX5_cutBy 28 = .ok (.ixor, 1) := by decide +kernel
theorem dX5_cutBy_29 : decode cX5_cutBy 29 = .ok (.iand, 1) := by decide +kernel
theorem dX5_cutBy_30 : decode cX5_cutBy 30 = .ok (.istore 4, 2) := by decide +kernel
theorem dX5_cutBy_32 : decode cX5_cutBy 32 = .ok (.iload_n 3, 1) := by decide +kernel
theorem dX5_cutBy_33 : decode cX5_cutBy 33 = .ok (.ifCond .eq 39, 3) := by decide +kernel
theorem dX5_cutBy_36 : decode cX5_cutBy 36 = .ok (.iload 4, 2) := by decide +kernel
theorem dX5_cutBy_38 : decode cX5_cutBy 38 = .ok (.ifCond .eq 34, 3) := by decide +kernel
theorem dX5_cutBy_41 : decode cX5_cutBy 41 = .ok (.aload_n 0, 1) := by decide +kernel
theorem dX5_cutBy_42 : decode cX5_cutBy 42 = .ok (.getfield 15, 3) := by decide +kernel
theorem dX5_cutBy_45 : decode cX5_cutBy 45 = .ok (.bipush 12, 2) := by decide +kernel
theorem dX5_cutBy_47 : decode cX5_cutBy 47 = .ok (.if_icmp .ge 25, 3) := by decide +kernel
theorem dX5_cutBy_50 : decode cX5_cutBy 50 = .ok (.aload_n 0, 1) := by decide +kernel
theorem dX5_cutBy_51 : decode cX5_cutBy 51 = .ok (.iload_n 2, 1) := by decide +kernel
theorem dX5_cutBy_52 : decode cX5_cutBy 52 = .ok (.invokevirtual 29, 3) := by decide +kernel
theorem dX5_cutBy_55 : decode cX5_cutBy 55 = .ok (.aload_n 0, 1) := by decide +kernel
theorem dX5_cutBy_56 : decode cX5_cutBy 56 = .ok (.getfield 9, 3) := by decide +kernel
theorem dX5_cutBy_59 : decode cX5_cutBy 59 = .ok (.iload_n 2, 1) := by decide +kernel
theorem dX5_cutBy_60 : decode cX5_cutBy 60 = .ok (.iload_n 3, 1) := by decide +kernel
theorem dX5_cutBy_61 : decode cX5_cutBy 61 = .ok (.iastore, 1) := by decide +kernel
theorem dX5_cutBy_62 : decode cX5_cutBy 62 = .ok (.aload_n 0, 1) := by decide +kernel
theorem dX5_cutBy_63 : decode cX5_cutBy 63 = .ok (.getfield 9, 3) := by decide +kernel
theorem dX5_cutBy_66 : decode cX5_cutBy 66 = .ok (.iload_n 2, 1) := by decide +kernel
theorem dX5_cutBy_67 : decode cX5_cutBy 67 = .ok (.iconst 1, 1) := by decide +kernel
theorem dX5_cutBy_68 : decode cX5_cutBy 68 = .ok (.iadd, 1) := by decide +kernel
theorem dX5_cutBy_69 : decode cX5_cutBy 69 = .ok (.iload 4, 2) := by decide +kernel
theorem dX5_cutBy_71 : decode cX5_cutBy 71 = .ok (.iastore, 1) := by decide +kernel
theorem dX5_cutBy_72 : decode cX5_cutBy 72 = .ok (.iinc 2 (-1), 3) := by decide +kernel
theorem dX5_cutBy_75 : decode cX5_cutBy 75 = .ok (.goto (-68), 3) := by decide +kernel
theorem dX5_cutBy_78 : decode cX5_cutBy 78 = .ok (.return_, 1) := by decide +kernel
theorem dX5_openPlace_0 : decode cX5_openPlace 0 = .ok (.aload_n 0, 1) := by decide +kernel
theorem dX5_openPlace_1 : decode cX5_openPlace 1 = .ok (.getfield 15, 3) := by decide +kernel
theorem dX5_openPlace_4 : decode cX5_openPlace 4 = .ok (.istore_n 2, 1) := by decide +kernel
theorem dX5_openPlace_5 : decode cX5_openPlace 5 = .ok (.iload_n 2, 1) := by decide +kernel
theorem dX5_openPlace_6 : decode cX5_openPlace 6 = .ok (.iload_n 1, 1) := by decide +kernel
theorem dX5_openPlace_7 : decode cX5_openPlace 7 = .ok (.if_icmp .le 23, 3) := by decide +kernel
theorem dX5_openPlace_10 : decode cX5_openPlace 10 = .ok (.aload_n 0, 1) := by decide +kernel
theorem dX5_openPlace_11 : decode cX5_openPlace 11 = .ok (.getfield 9, 3) := by decide +kernel
theorem dX5_openPlace_14 : decode cX5_openPlace 14 = .ok (.iload_n 2, 1) := by decide +kernel
theorem dX5_openPlace_15 : decode cX5_openPlace 15 = .ok (.aload_n 0, 1) := by decide +kernel
theorem dX5_openPlace_16 : decode cX5_openPlace 16 = .ok (.getfield 9, 3) := by decide +kernel
theorem dX5_openPlace_19 : decode cX5_openPlace 19 = .ok (.iload_n 2, 1) := by decide +kernel
theorem dX5_openPlace_20 : decode cX5_openPlace 20 = .ok (.iconst 1, 1) := by decide +kernel
theorem dX5_openPlace_21 : decode cX5_openPlace 21 = .ok (.isub, 1) := by decide +kernel
theorem dX5_openPlace_22 : decode cX5_openPlace 22 = .ok (.iaload, 1) := by decide +kernel
theorem dX5_openPlace_23 : decode cX5_openPlace 23 = .ok (.iastore, 1) := by decide +kernel
theorem dX5_openPlace_24 : decode cX5_openPlace 24 = .ok (.iinc 2 (-1), 3) := by decide +kernel
theorem dX5_openPlace_27 : decode cX5_openPlace 27 = .ok (.goto (-22), 3) := by decide +kernel
theorem dX5_openPlace_30 : decode cX5_openPlace 30 = .ok (.aload_n 0, 1) := by decide +kernel
theorem dX5_openPlace_31 : decode cX5_openPlace 31 = .ok (.dup, 1) := by decide +kernel
theorem dX5_openPlace_32 : decode cX5_openPlace 32 = .ok (.getfield 15, 3) := by decide +kernel
theorem dX5_openPlace_35 : decode cX5_openPlace 35 = .ok (.iconst 1, 1) := by decide +kernel
theorem dX5_openPlace_36 : decode cX5_openPlace 36 = .ok (.iadd, 1) := by decide +kernel
theorem dX5_openPlace_37 : decode cX5_openPlace 37 = .ok (.putfield 15, 3) := by decide +kernel
theorem dX5_openPlace_40 : decode cX5_openPlace 40 = .ok (.return_, 1) := by decide +kernel
theorem dX5_closePlace_0 : decode cX5_closePlace 0 = .ok (.aload_n 0, 1) := by decide +kernel
theorem dX5_closePlace_1 : decode cX5_closePlace 1 = .ok (.dup, 1) := by decide +kernel
theorem dX5_closePlace_2 : decode cX5_closePlace 2 = .ok (.getfield 15, 3) := by decide +kernel
theorem dX5_closePlace_5 : decode cX5_closePlace 5 = .ok (.iconst 1, 1) := by decide +kernel
theorem dX5_closePlace_6 : decode cX5_closePlace 6 = .ok (.isub, 1) := by decide +kernel
theorem dX5_closePlace_7 : decode cX5_closePlace 7 = .ok (.putfield 15, 3) := by decide +kernel
theorem dX5_closePlace_10 : decode cX5_closePlace 10 = .ok (.iload_n 1, 1) := by decide +kernel
theorem dX5_closePlace_11 : decode cX5_closePlace 11 = .ok (.istore_n 2, 1) := by decide +kernel
theorem dX5_closePlace_12 : decode cX5_closePlace 12 = .ok (.iload_n 2, 1) := by decide +kernel
theorem dX5_closePlace_13 : decode cX5_closePlace 13 = .ok (.aload_n 0, 1) := by decide +kernel
theorem dX5_closePlace_14 : decode cX5_closePlace 14 = .ok (.getfield 15, 3) := by decide +kernel
theorem dX5_closePlace_17 : decode cX5_closePlace 17 = .ok (.if_icmp .ge 23, 3) := by decide +kernel
theorem dX5_closePlace_20 : decode cX5_closePlace 20 = .ok (.aload_n 0, 1) := by decide +kernel
theorem dX5_closePlace_21 : decode cX5_closePlace 21 = .ok (.getfield 9, 3) := by decide +kernel
theorem dX5_closePlace_24 : decode cX5_closePlace 24 = .ok (.iload_n 2, 1) := by decide +kernel
theorem dX5_closePlace_25 : decode cX5_closePlace 25 = .ok (.aload_n 0, 1) := by decide +kernel
theorem dX5_closePlace_26 : decode cX5_closePlace 26 = .ok (.getfield 9, 3) := by decide +kernel
theorem dX5_closePlace_29 : decode cX5_closePlace 29 = .ok (.iload_n 2, 1) := by decide +kernel
theorem dX5_closePlace_30 : decode cX5_closePlace 30 = .ok (.iconst 1, 1) := by decide +kernel
theorem dX5_closePlace_31 : decode cX5_closePlace 31 = .ok (.iadd, 1) := by decide +kernel
theorem dX5_closePlace_32 : decode cX5_closePlace 32 = .ok (.iaload, 1) := by decide +kernel
theorem dX5_closePlace_33 : decode cX5_closePlace 33 = .ok (.iastore, 1) := by decide +kernel
theorem dX5_closePlace_34 : decode cX5_closePlace 34 = .ok (.iinc 2 1, 3) := by decide +kernel
theorem dX5_closePlace_37 : decode cX5_closePlace 37 = .ok (.goto (-25), 3) := by decide +kernel
theorem dX5_closePlace_40 : decode cX5_closePlace 40 = .ok (.return_, 1) := by decide +kernel
set_option maxRecDepth 20000 in
theorem ggX5_mergeWithNext_X5_hasPlace : GoodIn wsX5_mergeWithNext wsX5_hasPlace := goodIn_r _ [7, 1, 12, 13] (by decide +kernel) (by decide +kernel)
set_option maxRecDepth 20000 in
theorem gX5_mergeWithNext_X5_hasPlace : GoodIn wsX5_mergeWithNext (wsV RX5 25 RX5 yX5_hasPlace wsX5_hasPlace) := goodIn_app (goodIn_of _ (by decide +kernel)) ggX5_mergeWithNext_X5_hasPlace
set_option maxRecDepth 20000 in
theorem ggX5_mergeWithNext_X5_closePlace : GoodIn wsX5_mergeWithNext wsX5_closePlace := goodIn_r _ [11, 1, 2, 12, 13] (by decide +kernel) (by decide +kernel)
set_option maxRecDepth 20000 in
theorem gX5_mergeWithNext_X5_closePlace : GoodIn wsX5_mergeWithNext (wsV RX5 33 RX5 yX5_closePlace wsX5_closePlace) := goodIn_app (goodIn_of _ (by decide +kernel)) ggX5_mergeWithNext_X5_closePlace
theorem dX5_mergeWithNext_0 : decode cX5_mergeWithNext 0 = .ok (.aload_n 0, 1) := by decide +kernel
theorem dX5_mergeWithNext_1 : decode cX5_mergeWithNext 1 = .ok (.iload_n 1, 1) := by decide +kernel
theorem dX5_mergeWithNext_2 : decode cX5_mergeWithNext 2 = .ok (.invokevirtual 25, 3) := by decide +kernel
theorem dX5_mergeWithNext_5 : decode cX5_mergeWithNext 5 = .ok (.ifCond .eq 41, 3) := by decide +kernel
theorem dX5_mergeWithNext_8 : decode cX5_mergeWithNext 8 = .ok (.iload_n 1, 1) := by decide +kernel
theorem dX5_mergeWithNext_9 : decode cX5_mergeWithNext 9 = .ok (.aload_n 0, 1) := by decide +kernel
theorem dX5_mergeWithNext_10 : decode cX5_mergeWithNext 10 = .ok (.getfield 15, 3) := by decide +kernel
theorem dX5_mergeWithNext_13 : decode cX5_mergeWithNext 13 = .ok (.iconst 1, 1) := by decide +kernel
theorem dX5_mergeWithNext_14 : decode cX5_mergeWithNext 14 = .ok (.isub, 1) := by decide +kernel
theorem dX5_mergeWithNext_15 : decode cX5_mergeWithNext 15 = .ok (.if_icmp .ge 31, 3) := by decide +kernel
theorem dX5_mergeWithNext_18 : decode cX5_mergeWithNext 18 = .ok (.aload_n 0, 1) := by decide +kernel
theorem dX5_mergeWithNext_19 : decode cX5_mergeWithNext 19 = .ok (.getfield 9, 3) := by decide +kernel
theorem dX5_mergeWithNext_22 : decode cX5_mergeWithNext 22 = .ok (.iload_n 1, 1) := by decide +kernel
theorem dX5_mergeWithNext_23 : decode cX5_mergeWithNext 23 = .ok (.iaload, 1) := by decide +kernel
theorem dX5_mergeWithNext_24 : decode cX5_mergeWithNext 24 = .ok (.aload_n 0, 1) := by decide +kernel
theorem dX5_mergeWithNext_25 : decode cX5_mergeWithNext 25 = .ok (.getfield 9, 3) := by decide +kernel
theorem dX5_mergeWithNext_28 : decode cX5_mergeWithNext 28 = .ok (.iload_n 1, 1) := by decide +kernel
theorem dX5_mergeWithNext_29 : decode cX5_mergeWithNext 29 = .ok (.iconst 1, 1) := by decide +kernel
theorem dX5_mergeWithNext_30 : decode cX5_mergeWithNext 30 = .ok (.iadd, 1) := by decide +kernel
theorem dX5_mergeWithNext_31 : decode cX5_mergeWithNext 31 = .ok (.iaload, 1) := by decide +kernel
theorem dX5_mergeWithNext_32 : decode cX5_mergeWithNext 32 = .ok (.ior, 1) := by decide +kernel
theorem dX5_mergeWithNext_33 : decode cX5_mergeWithNext 33 = .ok (.istore_n 2, 1) := by decide +kernel
theorem dX5_mergeWithNext_34 : decode cX5_mergeWithNext 34 = .ok (.aload_n 0, 1) := by decide +kernel
theorem dX5_mergeWithNext_35 : decode cX5_mergeWithNext 35 = .ok (.iload_n 1, 1) := by decide +kernel
theorem dX5_mergeWithNext_36 : decode cX5_mergeWithNext 36 = .ok (.invokevirtual 33, 3) := by decide +kernel
theorem dX5_mergeWithNext_39 : decode cX5_mergeWithNext 39 = .ok (.aload_n 0, 1) := by decide +kernel
theorem dX5_mergeWithNext_40 : decode cX5_mergeWithNext 40 = .ok (.getfield 9, 3) := by decide +kernel
theorem dX5_mergeWithNext_43 : decode cX5_mergeWithNext 43 = .ok (.iload_n 1, 1) := by decide +kernel
theorem dX5_mergeWithNext_44 : decode cX5_mergeWithNext 44 = .ok (.iload_n 2, 1) := by decide +kernel
theorem dX5_mergeWithNext_45 : decode cX5_mergeWithNext 45 = .ok (.iastore, 1) := by decide +kernel
theorem dX5_mergeWithNext_46 : decode cX5_mergeWithNext 46 = .ok (.return_, 1) := by decide +kernel
set_option maxRecDepth 20000 in
theorem ggX5_sortByLeast_X5_least : GoodIn wsX5_sortByLeast wsX5_least := goodIn_r _ [6, 7, 8, 9, 10, 11] (by decide +kernel) (by decide +kernel)
set_option maxRecDepth 20000 in
theorem gX5_sortByLeast_X5_least : GoodIn wsX5_sortByLeast (va_wsS RX5 36 yX5_least wsX5_least) := goodIn_app (goodIn_of _ (by decide +kernel)) ggX5_sortByLeast_X5_least
theorem dX5_sortByLeast_0 : decode cX5_sortByLeast 0 = .ok (.iconst 1, 1) := by decide +kernel
theorem dX5_sortByLeast_1 : decode cX5_sortByLeast 1 = .ok (.istore_n 1, 1) := by decide +kernel
theorem dX5_sortByLeast_2 : decode cX5_sortByLeast 2 = .ok (.iload_n 1, 1) := by decide +kernel
theorem dX5_sortByLeast_3 : decode cX5_sortByLeast 3 = .ok (.aload_n 0, 1) := by decide +kernel
theorem dX5_sortByLeast_4 : decode cX5_sortByLeast 4 = .ok (.getfield 15, 3) := by decide +kernel
theorem dX5_sortByLeast_7 : decode cX5_sortByLeast 7 = .ok (.if_icmp .ge 67, 3) := by decide +kernel
theorem dX5_sortByLeast_10 : decode cX5_sortByLeast 10 = .ok (.aload_n 0, 1) := by decide +kernel
theorem dX5_sortByLeast_11 : decode cX5_sortByLeast 11 = .ok (.getfield 9, 3) := by decide +kernel
theorem dX5_sortByLeast_14 : decode cX5_sortByLeast 14 = .ok (.iload_n 1, 1) := by decide +kernel
theorem dX5_sortByLeast_15 : decode cX5_sortByLeast 15 = .ok (.iaload, 1) := by decide +kernel
theorem dX5_sortByLeast_16 : decode cX5_sortByLeast 16 = .ok (.istore_n 2, 1) := by decide +kernel
theorem dX5_sortByLeast_17 : decode cX5_sortByLeast 17 = .ok (.iload_n 1, 1) := by decide +kernel
theorem dX5_sortByLeast_18 : decode cX5_sortByLeast 18 = .ok (.istore_n 3, 1) := by decide +kernel
theorem dX5_sortByLeast_19 : decode cX5_sortByLeast 19 = .ok (.iload_n 3, 1) := by decide +kernel
theorem dX5_sortByLeast_20 : decode cX5_sortByLeast 20 = .ok (.ifCond .le 41, 3) := by decide +kernel
theorem dX5_sortByLeast_23 : decode cX5_sortByLeast 23 = .ok (.aload_n 0, 1) := by decide +kernel
theorem dX5_sortByLeast_24 : decode cX5_sortByLeast 24 = .ok (.getfield 9, 3) := by decide +kernel
theorem dX5_sortByLeast_27 : decode cX5_sortByLeast 27 = .ok (.iload_n 3, 1) := by decide +kernel
theorem dX5_sortByLeast_28 : decode cX5_sortByLeast 28 = .ok (.iconst 1, 1) := by decide +kernel
theorem dX5_sortByLeast_29 : decode cX5_sortByLeast 29 = .ok (.isub, 1) := by decide +kernel
theorem dX5_sortByLeast_30 : decode cX5_sortByLeast 30 = .ok (.iaload, 1) := by decide +kernel
theorem dX5_sortByLeast_31 : decode cX5_sortByLeast 31 = .ok (.invokestatic 36, 3) := by decide +kernel
theorem dX5_sortByLeast_34 : decode cX5_sortByLeast 34 = .ok (.iload_n 2, 1) := by decide +kernel
theorem dX5_sortByLeast_35 : decode cX5_sortByLeast 35 = .ok (.invokestatic 36, 3) := by decide +kernel
theorem dX5_sortByLeast_38 : decode cX5_sortByLeast 38 = .ok (.if_icmp .le 23, 3) := by decide +kernel
theorem dX5_sortByLeast_41 : decode cX5_sortByLeast 41 = .ok (.aload_n 0, 1) := by decide +kernel
theorem dX5_sortByLeast_42 : decode cX5_sortByLeast 42 = .ok (.getfield 9, 3) := by decide +kernel
theorem dX5_sortByLeast_45 : decode cX5_sortByLeast 45 = .ok (.iload_n 3, 1) := by decide +kernel
theorem dX5_sortByLeast_46 : decode cX5_sortByLeast 46 = .ok (.aload_n 0, 1) := by decide +kernel
theorem dX5_sortByLeast_47 : decode cX5_sortByLeast 47 = .ok (.getfield 9, 3) := by decide +kernel
theorem dX5_sortByLeast_50 : decode cX5_sortByLeast 50 = .ok (.iload_n 3, 1) := by decide +kernel
theorem dX5_sortByLeast_51 : decode cX5_sortByLeast 51 = .ok (.iconst 1, 1) := by decide +kernel
theorem dX5_sortByLeast_52 : decode cX5_sortByLeast 52 = .ok (.isub, 1) := by decide +kernel
theorem dX5_sortByLeast_53 : decode cX5_sortByLeast 53 = .ok (.iaload, 1) := by decide +kernel
theorem dX5_sortByLeast_54 : decode cX5_sortByLeast 54 = .ok (.iastore, 1) := by decide +kernel
theorem dX5_sortByLeast_55 : decode cX5_sortByLeast 55 = .ok (.iinc 3 (-1), 3) := by decide +kernel
theorem dX5_sortByLeast_58 : decode cX5_sortByLeast 58 = .ok (.goto (-39), 3) := by decide +kernel
theorem dX5_sortByLeast_61 : decode cX5_sortByLeast 61 = .ok (.aload_n 0, 1) := by decide +kernel
theorem dX5_sortByLeast_62 : decode cX5_sortByLeast 62 = .ok (.getfield 9, 3) := by decide +kernel
theorem dX5_sortByLeast_65 : decode cX5_sortByLeast 65 = .ok (.iload_n 3, 1) := by decide +kernel
theorem dX5_sortByLeast_66 : decode cX5_sortByLeast 66 = .ok (.iload_n 2, 1) := by decide +kernel
theorem dX5_sortByLeast_67 : decode cX5_sortByLeast 67 = .ok (.iastore, 1) := by decide +kernel
theorem dX5_sortByLeast_68 : decode cX5_sortByLeast 68 = .ok (.iinc 1 1, 3) := by decide +kernel
theorem dX5_sortByLeast_71 : decode cX5_sortByLeast 71 = .ok (.goto (-69), 3) := by decide +kernel
theorem dX5_sortByLeast_74 : decode cX5_sortByLeast 74 = .ok (.return_, 1) := by decide +kernel
set_option maxRecDepth 20000 in
theorem ggX5_least_J6_numberOfTrailingZeros_0f7a4 : GoodIn wsX5_least wsJ6_numberOfTrailingZeros_0f7a4 := goodIn_r _ [4, 5] (by decide +kernel) (by decide +kernel)
set_option maxRecDepth 20000 in
theorem gX5_least_J6_numberOfTrailingZeros_0f7a4 : GoodIn wsX5_least (va_wsS RX5 40 yJ6_numberOfTrailingZeros_0f7a4 wsJ6_numberOfTrailingZeros_0f7a4) := goodIn_app (goodIn_of _ (by decide +kernel)) ggX5_least_J6_numberOfTrailingZeros_0f7a4
theorem dX5_least_0 : decode cX5_least 0 = .ok (.iload_n 0, 1) := by decide +kernel
theorem dX5_least_1 : decode cX5_least 1 = .ok (.invokestatic 40, 3) := by decide +kernel
theorem dX5_least_4 : decode cX5_least 4 = .ok (.ireturn, 1) := by decide +kernel
set_option maxRecDepth 20000 in
theorem ggX5_differingFrom_X5_setAt : GoodIn wsX5_differingFrom wsX5_setAt := goodIn_r _ [7, 2, 8, 9, 10, 6, 11, 1, 12, 13] (by decide +kernel) (by decide +kernel)
set_option maxRecDepth 20000 in
theorem gX5_differingFrom_X5_setAt : GoodIn wsX5_differingFrom (wsV RX5 45 RX5 yX5_setAt wsX5_setAt) := goodIn_app (goodIn_of _ (by decide +kernel)) ggX5_differingFrom_X5_setAt
theorem dX5_differingFrom_0 : decode cX5_differingFrom 0 = .ok (.iconst 0, 1) := by decide +kernel
theorem dX5_differingFrom_1 : decode cX5_differingFrom 1 = .ok (.istore_n 2, 1) := by decide +kernel
theorem dX5_differingFrom_2 : decode cX5_differingFrom 2 = .ok (.iconst 0, 1) := by decide +kernel
theorem dX5_differingFrom_3 : decode cX5_differingFrom 3 = .ok (.istore_n 3, 1) := by decide +kernel
theorem dX5_differingFrom_4 : decode cX5_differingFrom 4 = .ok (.iload_n 3, 1) := by decide +kernel
theorem dX5_differingFrom_5 : decode cX5_differingFrom 5 = .ok (.aload_n 0, 1) := by decide +kernel
theorem dX5_differingFrom_6 : decode cX5_differingFrom 6 = .ok (.getfield 15, 3) := by decide +kernel
theorem dX5_differingFrom_9 : decode cX5_differingFrom 9 = .ok (.if_icmp .ge 26, 3) := by decide +kernel
theorem dX5_differingFrom_12 : decode cX5_differingFrom 12 = .ok (.aload_n 0, 1) := by decide +kernel
theorem dX5_differingFrom_13 : decode cX5_differingFrom 13 = .ok (.getfield 9, 3) := by decide +kernel
theorem dX5_differingFrom_16 : decode cX5_differingFrom 16 = .ok (.iload_n 3, 1) := by decide +kernel
theorem dX5_differingFrom_17 : decode cX5_differingFrom 17 = .ok (.iaload, 1) := by decide +kernel
theorem dX5_differingFrom_18 : decode cX5_differingFrom 18 = .ok (.aload_n 1, 1) := by decide +kernel
theorem dX5_differingFrom_19 : decode cX5_differingFrom 19 = .ok (.iload_n 3, 1) := by decide +kernel
theorem dX5_differingFrom_20 : decode cX5_differingFrom 20 = .ok (.invokevirtual 45, 3) := by decide +kernel
theorem dX5_differingFrom_23 : decode cX5_differingFrom 23 = .ok (.if_icmp .eq 6, 3) := by decide +kernel
theorem dX5_differingFrom_26 : decode cX5_differingFrom 26 = .ok (.iinc 2 1, 3) := by decide +kernel
theorem dX5_differingFrom_29 : decode cX5_differingFrom 29 = .ok (.iinc 3 1, 3) := by decide +kernel
theorem dX5_differingFrom_32 : decode cX5_differingFrom 32 = .ok (.goto (-28), 3) := by decide +kernel
theorem dX5_differingFrom_35 : decode cX5_differingFrom 35 = .ok (.iload_n 2, 1) := by decide +kernel
theorem dX5_differingFrom_36 : decode cX5_differingFrom 36 = .ok (.ireturn, 1) := by decide +kernel
set_option maxRecDepth 20000 in
theorem ggX5_takeLeast_X5_least : GoodIn wsX5_takeLeast wsX5_least := goodIn_r _ [6, 7, 8, 9, 10, 11] (by decide +kernel) (by decide +kernel)
set_option maxRecDepth 20000 in
theorem gX5_takeLeast_X5_least : GoodIn wsX5_takeLeast (va_wsS RX5 36 yX5_least wsX5_least) := goodIn_app (goodIn_of _ (by decide +kernel)) ggX5_takeLeast_X5_least
set_option maxRecDepth 20000 in
theorem ggX5_takeLeast_X5_closePlace : GoodIn wsX5_takeLeast wsX5_closePlace := goodIn_r _ [15, 1, 2, 16, 17] (by decide +kernel) (by decide +kernel)
set_option maxRecDepth 20000 in
theorem gX5_takeLeast_X5_closePlace : GoodIn wsX5_takeLeast (wsV RX5 33 RX5 yX5_closePlace wsX5_closePlace) := goodIn_app (goodIn_of _ (by decide +kernel)) ggX5_takeLeast_X5_closePlace
theorem dX5_takeLeast_0 : decode cX5_takeLeast 0 = .ok (.aload_n 0, 1) := by decide +kernel
theorem dX5_takeLeast_1 : decode cX5_takeLeast 1 = .ok (.getfield 15, 3) := by decide +kernel
theorem dX5_takeLeast_4 : decode cX5_takeLeast 4 = .ok (.ifCond .ne 5, 3) := by decide +kernel
theorem dX5_takeLeast_7 : decode cX5_takeLeast 7 = .ok (.iconst (-1), 1) := by decide +kernel
theorem dX5_takeLeast_8 : decode cX5_takeLeast 8 = .ok (.ireturn, 1) := by decide +kernel
theorem dX5_takeLeast_9 : decode cX5_takeLeast 9 = .ok (.aload_n 0, 1) := by decide +kernel
theorem dX5_takeLeast_10 : decode cX5_takeLeast 10 = .ok (.getfield 9, 3) := by decide +kernel
theorem dX5_takeLeast_13 : decode cX5_takeLeast 13 = .ok (.iconst 0, 1) := by decide +kernel
theorem dX5_takeLeast_14 : decode cX5_takeLeast 14 = .ok (.iaload, 1) := by decide +kernel
theorem dX5_takeLeast_15 : decode cX5_takeLeast 15 = .ok (.invokestatic 36, 3) := by decide +kernel
theorem dX5_takeLeast_18 : decode cX5_takeLeast 18 = .ok (.istore_n 1, 1) := by decide +kernel
theorem dX5_takeLeast_19 : decode cX5_takeLeast 19 = .ok (.aload_n 0, 1) := by decide +kernel
theorem dX5_takeLeast_20 : decode cX5_takeLeast 20 = .ok (.getfield 9, 3) := by decide +kernel
theorem dX5_takeLeast_23 : decode cX5_takeLeast 23 = .ok (.iconst 0, 1) := by decide +kernel
theorem dX5_takeLeast_24 : decode cX5_takeLeast 24 = .ok (.dup2, 1) := by decide +kernel
theorem dX5_takeLeast_25 : decode cX5_takeLeast 25 = .ok (.iaload, 1) := by decide +kernel
theorem dX5_takeLeast_26 : decode cX5_takeLeast 26 = .ok (.aload_n 0, 1) := by decide +kernel
theorem dX5_takeLeast_27 : decode cX5_takeLeast 27 = .ok (.getfield 9, 3) := by decide +kernel
theorem dX5_takeLeast_30 : decode cX5_takeLeast 30 = .ok (.iconst 0, 1) := by decide +kernel
theorem dX5_takeLeast_31 : decode cX5_takeLeast 31 = .ok (.iaload, 1) := by decide +kernel
theorem dX5_takeLeast_32 : decode cX5_takeLeast 32 = .ok (.iconst 1, 1) := by decide +kernel
theorem dX5_takeLeast_33 : decode cX5_takeLeast 33 = .ok (.isub, 1) := by decide +kernel
theorem dX5_takeLeast_34 : decode cX5_takeLeast 34 = .ok (.iand, 1) := by decide +kernel
theorem dX5_takeLeast_35 : decode cX5_takeLeast 35 = .ok (.iastore, 1) := by decide +kernel
theorem dX5_takeLeast_36 : decode cX5_takeLeast 36 = .ok (.aload_n 0, 1) := by decide +kernel
theorem dX5_takeLeast_37 : decode cX5_takeLeast 37 = .ok (.getfield 9, 3) := by decide +kernel
theorem dX5_takeLeast_40 : decode cX5_takeLeast 40 = .ok (.iconst 0, 1) := by decide +kernel
theorem dX5_takeLeast_41 : decode cX5_takeLeast 41 = .ok (.iaload, 1) := by decide +kernel
theorem dX5_takeLeast_42 : decode cX5_takeLeast 42 = .ok (.ifCond .ne 8, 3) := by decide +kernel
theorem dX5_takeLeast_45 : decode cX5_takeLeast 45 = .ok (.aload_n 0, 1) := by decide +kernel
theorem dX5_takeLeast_46 : decode cX5_takeLeast 46 = .ok (.iconst 0, 1) := by decide +kernel
theorem dX5_takeLeast_47 : decode cX5_takeLeast 47 = .ok (.invokevirtual 33, 3) := by decide +kernel
theorem dX5_takeLeast_50 : decode cX5_takeLeast 50 = .ok (.iload_n 1, 1) := by decide +kernel
theorem dX5_takeLeast_51 : decode cX5_takeLeast 51 = .ok (.ireturn, 1) := by decide +kernel
set_option maxRecDepth 20000 in
theorem ggX6_init_X5_init : GoodIn wsX6_init wsX5_init := goodIn_r _ [14, 15, 2, 3, 4, 16, 17, 63, 64] (by decide +kernel) (by decide +kernel)
set_option maxRecDepth 20000 in
theorem gX6_init_X5_init : GoodIn wsX6_init (wsX5_init) := ggX6_init_X5_init
set_option maxRecDepth 20000 in
theorem ggX6_init_X6_startWith : GoodIn wsX6_init wsX6_startWith := goodIn_r _ [22, 23, 5, 6, 24, 25, 11, 26, 27, 28, 29, 30, 31, 32, 33, 21, 34, 35, 36, 37, 38, 7, 39, 40, 41, 42, 43, 44, 45, 46, 47, 48, 49, 50, 51, 52, 53, 10, 54, 16, 17, 55, 56, 57, 58, 59, 60, 61, 62, 63, 64] (by decide +kernel) (by decide +kernel)
set_option maxRecDepth 20000 in
theorem gX6_init_X6_startWith : GoodIn wsX6_init (wsV RX6 28 RX6 yX6_startWith wsX6_startWith) := goodIn_app (goodIn_of _ (by decide +kernel)) ggX6_init_X6_startWith
theorem dX6_init_0 : decode cX6_init 0 = .ok (.aload_n 0, 1) := by decide +kernel
theorem dX6_init_1 : decode cX6_init 1 = .ok (.invokespecial 3, 3) := by decide +kernel
theorem dX6_init_4 : decode cX6_init 4 = .ok (.aload_n 0, 1) := by decide +kernel
theorem dX6_init_5 : decode cX6_init 5 = .ok (.bipush 12, 2) := by decide +kernel
theorem dX6_init_7 : decode cX6_init 7 = .ok (.newarray .int, 2) := by decide +kernel
theorem dX6_init_9 : decode cX6_init 9 = .ok (.putfield 9, 3) := by decide +kernel
theorem dX6_init_12 : decode cX6_init 12 = .ok (.aload_n 0, 1) := by decide +kernel
theorem dX6_init_13 : decode cX6_init 13 = .ok (.bipush 12, 2) := by decide +kernel
theorem dX6_init_15 : decode cX6_init 15 = .ok (.newarray .int, 2) := by decide +kernel
theorem dX6_init_17 : decode cX6_init 17 = .ok (.putfield 15, 3) := by decide +kernel
theorem dX6_init_20 : decode cX6_init 20 = .ok (.aload_n 0, 1) := by decide +kernel
theorem dX6_init_21 : decode cX6_init 21 = .ok (.bipush 36, 2) := by decide +kernel
theorem dX6_init_23 : decode cX6_init 23 = .ok (.newarray .int, 2) := by decide +kernel
theorem dX6_init_25 : decode cX6_init 25 = .ok (.putfield 18, 3) := by decide +kernel
theorem dX6_init_28 : decode cX6_init 28 = .ok (.aload_n 0, 1) := by decide +kernel
theorem dX6_init_29 : decode cX6_init 29 = .ok (.new 21, 3) := by decide +kernel
theorem dX6_init_32 : decode cX6_init 32 = .ok (.dup, 1) := by decide +kernel
theorem dX6_init_33 : decode cX6_init 33 = .ok (.invokespecial 23, 3) := by decide +kernel
theorem dX6_init_36 : decode cX6_init 36 = .ok (.putfield 24, 3) := by decide +kernel
theorem dX6_init_39 : decode cX6_init 39 = .ok (.aload_n 0, 1) := by decide +kernel
theorem dX6_init_40 : decode cX6_init 40 = .ok (.iconst 4, 1) := by decide +kernel
theorem dX6_init_41 : decode cX6_init 41 = .ok (.invokevirtual 28, 3) := by decide +kernel
theorem dX6_init_44 : decode cX6_init 44 = .ok (.return_, 1) := by decide +kernel
set_option maxRecDepth 20000 in
theorem ggX6_startWith_J7_fill_53178 : GoodIn wsX6_startWith wsJ7_fill_53178 := goodIn_r _ [11] (by decide +kernel) (by decide +kernel)
set_option maxRecDepth 20000 in
theorem gX6_startWith_J7_fill_53178 : GoodIn wsX6_startWith (va_wsS RX6 36 yJ7_fill_53178 wsJ7_fill_53178) := goodIn_app (goodIn_of _ (by decide +kernel)) ggX6_startWith_J7_fill_53178
set_option maxRecDepth 20000 in
theorem ggX6_startWith_X6_takeLetters : GoodIn wsX6_startWith wsX6_takeLetters := goodIn_r _ [16, 4, 1, 17, 18, 19, 15, 20, 21, 22, 23, 24, 25, 26, 27, 28, 29, 41, 42, 43, 44, 45, 46, 47, 48] (by decide +kernel) (by decide +kernel)
set_option maxRecDepth 20000 in
theorem gX6_startWith_X6_takeLetters : GoodIn wsX6_startWith (wsV RX6 45 RX6 yX6_takeLetters wsX6_takeLetters) := goodIn_app (goodIn_of _ (by decide +kernel)) ggX6_startWith_X6_takeLetters
set_option maxRecDepth 20000 in
theorem ggX6_startWith_X6_all : GoodIn wsX6_startWith wsX6_all := goodIn_r _ [33, 1, 41, 42, 43, 44, 45, 46, 47, 48] (by decide +kernel) (by decide +kernel)
set_option maxRecDepth 20000 in
theorem gX6_startWith_X6_all : GoodIn wsX6_startWith (wsV RX6 51 RX6 yX6_all wsX6_all) := goodIn_app (goodIn_of _ (by decide +kernel)) ggX6_startWith_X6_all
set_option maxRecDepth 20000 in
theorem ggX6_startWith_X5_gather : GoodIn wsX6_startWith wsX5_gather := goodIn_r _ [38, 39, 40, 49, 50] (by decide +kernel) (by decide +kernel)
set_option maxRecDepth 20000 in
theorem gX6_startWith_X5_gather : GoodIn wsX6_startWith (wsV RX6 55 RX5 yX5_gather wsX5_gather) := goodIn_app (goodIn_of _ (by decide +kernel)) ggX6_startWith_X5_gather
theorem dX6_startWith_0 : decode cX6_startWith 0 = .ok (.aload_n 0, 1) := by decide +kernel
theorem dX6_startWith_1 : decode cX6_startWith 1 = .ok (.iload_n 1, 1) := by decide +kernel
theorem dX6_startWith_2 : decode cX6_startWith 2 = .ok (.putfield 32, 3) := by decide +kernel
theorem dX6_startWith_5 : decode cX6_startWith 5 = .ok (.aload_n 0, 1) := by decide +kernel
theorem dX6_startWith_6 : decode cX6_startWith 6 = .ok (.getfield 9, 3) := by decide +kernel
theorem dX6_startWith_9 : decode cX6_startWith 9 = .ok (.iconst 0, 1) := by decide +kernel
theorem dX6_startWith_10 : decode cX6_startWith 10 = .ok (.invokestatic 36, 3) := by decide +kernel
theorem dX6_startWith_13 : decode cX6_startWith 13 = .ok (.aload_n 0, 1) := by decide +kernel
theorem dX6_startWith_14 : decode cX6_startWith 14 = .ok (.getfield 15, 3) := by decide +kernel
theorem dX6_startWith_17 : decode cX6_startWith 17 = .ok (.iconst 0, 1) := by decide +kernel
theorem dX6_startWith_18 : decode cX6_startWith 18 = .ok (.invokestatic 36, 3) := by decide +kernel
theorem dX6_startWith_21 : decode cX6_startWith 21 = .ok (.aload_n 0, 1) := by decide +kernel
theorem dX6_startWith_22 : decode cX6_startWith 22 = .ok (.iconst 0, 1) := by decide +kernel
theorem dX6_startWith_23 : decode cX6_startWith 23 = .ok (.putfield 42, 3) := by decide +kernel
theorem dX6_startWith_26 : decode cX6_startWith 26 = .ok (.aload_n 0, 1) := by decide +kernel
theorem dX6_startWith_27 : decode cX6_startWith 27 = .ok (.iconst 1, 1) := by decide +kernel
theorem dX6_startWith_28 : decode cX6_startWith 28 = .ok (.invokevirtual 45, 3) := by decide +kernel
theorem dX6_startWith_31 : decode cX6_startWith 31 = .ok (.aload_n 0, 1) := by decide +kernel
theorem dX6_startWith_32 : decode cX6_startWith 32 = .ok (.iconst 0, 1) := by decide +kernel
theorem dX6_startWith_33 : decode cX6_startWith 33 = .ok (.putfield 48, 3) := by decide +kernel
theorem dX6_startWith_36 : decode cX6_startWith 36 = .ok (.aload_n 0, 1) := by decide +kernel
theorem dX6_startWith_37 : decode cX6_startWith 37 = .ok (.getfield 24, 3) := by decide +kernel
theorem dX6_startWith_40 : decode cX6_startWith 40 = .ok (.aload_n 0, 1) := by decide +kernel
theorem dX6_startWith_41 : decode cX6_startWith 41 = .ok (.invokevirtual 51, 3) := by decide +kernel
theorem dX6_startWith_44 : decode cX6_startWith 44 = .ok (.invokevirtual 55, 3) := by decide +kernel
theorem dX6_startWith_47 : decode cX6_startWith 47 = .ok (.aload_n 0, 1) := by decide +kernel
theorem dX6_startWith_48 : decode cX6_startWith 48 = .ok (.iconst 0, 1) := by decide +kernel
theorem dX6_startWith_49 : decode cX6_startWith 49 = .ok (.putfield 58, 3) := by decide +kernel
theorem dX6_startWith_52 : decode cX6_startWith 52 = .ok (.return_, 1) := by decide +kernel
set_option maxRecDepth 20000 in
theorem ggX6_copyFrom_X5_copyFrom : GoodIn wsX6_copyFrom wsX5_copyFrom := goodIn_r _ [17, 18, 19, 7, 8, 9, 20, 29, 30] (by decide +kernel) (by decide +kernel)
set_option maxRecDepth 20000 in
theorem gX6_copyFrom_X5_copyFrom : GoodIn wsX6_copyFrom (wsV RX6 67 RX5 yX5_copyFrom wsX5_copyFrom) := goodIn_app (goodIn_of _ (by decide +kernel)) ggX6_copyFrom_X5_copyFrom
theorem dX6_copyFrom_0 : decode cX6_copyFrom 0 = .ok (.aload_n 0, 1) := by decide +kernel
theorem dX6_copyFrom_1 : decode cX6_copyFrom 1 = .ok (.aload_n 1, 1) := by decide +kernel
theorem dX6_copyFrom_2 : decode cX6_copyFrom 2 = .ok (.getfield 32, 3) := by decide +kernel
theorem dX6_copyFrom_5 : decode cX6_copyFrom 5 = .ok (.putfield 32, 3) := by decide +kernel
theorem dX6_copyFrom_8 : decode cX6_copyFrom 8 = .ok (.aload_n 0, 1) := by decide +kernel
theorem dX6_copyFrom_9 : decode cX6_copyFrom 9 = .ok (.aload_n 1, 1) := by decide +kernel
theorem dX6_copyFrom_10 : decode cX6_copyFrom 10 = .ok (.getfield 42, 3) := by decide +kernel
theorem dX6_copyFrom_13 : decode cX6_copyFrom 13 = .ok (.putfield 42, 3) := by decide +kernel
theorem dX6_copyFrom_16 : decode cX6_copyFrom 16 = .ok (.aload_n 0, 1) := by decide +kernel
theorem dX6_copyFrom_17 : decode cX6_copyFrom 17 = .ok (.aload_n 1, 1) := by decide +kernel
theorem dX6_copyFrom_18 : decode cX6_copyFrom 18 = .ok (.getfield 48, 3) := by decide +kernel
theorem dX6_copyFrom_21 : decode cX6_copyFrom 21 = .ok (.putfield 48, 3) := by decide +kernel
theorem dX6_copyFrom_24 : decode cX6_copyFrom 24 = .ok (.aload_n 0, 1) := by decide +kernel
theorem dX6_copyFrom_25 : decode cX6_copyFrom 25 = .ok (.aload_n 1, 1) := by decide +kernel
theorem dX6_copyFrom_26 : decode cX6_copyFrom 26 = .ok (.getfield 58, 3) := by decide +kernel
theorem dX6_copyFrom_29 : decode cX6_copyFrom 29 = .ok (.putfield 58, 3) := by decide +kernel
theorem dX6_copyFrom_32 : decode cX6_copyFrom 32 = .ok (.aload_n 1, 1) := by decide +kernel
theorem dX6_copyFrom_33 : decode cX6_copyFrom 33 = .ok (.getfield 9, 3) := by decide +kernel
theorem dX6_copyFrom_36 : decode cX6_copyFrom 36 = .ok (.iconst 0, 1) := by decide +kernel
theorem dX6_copyFrom_37 : decode cX6_copyFrom 37 = .ok (.aload_n 0, 1) := by decide +kernel
theorem dX6_copyFrom_38 : decode cX6_copyFrom 38 = .ok (.getfield 9, 3) := by decide +kernel
theorem dX6_copyFrom_41 : decode cX6_copyFrom 41 = .ok (.iconst 0, 1) := by decide +kernel
theorem dX6_copyFrom_42 : decode cX6_copyFrom 42 = .ok (.bipush 12, 2) := by decide +kernel
theorem dX6_copyFrom_44 : decode cX6_copyFrom 44 = .ok (.invokestatic 61, 3) := by decide +kernel
theorem dX6_copyFrom_47 : decode cX6_copyFrom 47 = .ok (.aload_n 1, 1) := by decide +kernel
theorem dX6_copyFrom_48 : decode cX6_copyFrom 48 = .ok (.getfield 15, 3) := by decide +kernel
theorem dX6_copyFrom_51 : decode cX6_copyFrom 51 = .ok (.iconst 0, 1) := by decide +kernel
theorem dX6_copyFrom_52 : decode cX6_copyFrom 52 = .ok (.aload_n 0, 1) := by decide +kernel
theorem dX6_copyFrom_53 : decode cX6_copyFrom 53 = .ok (.getfield 15, 3) := by decide +kernel
theorem dX6_copyFrom_56 : decode cX6_copyFrom 56 = .ok (.iconst 0, 1) := by decide +kernel
theorem dX6_copyFrom_57 : decode cX6_copyFrom 57 = .ok (.bipush 12, 2) := by decide +kernel
theorem dX6_copyFrom_59 : decode cX6_copyFrom 59 = .ok (.invokestatic 61, 3) := by decide +kernel
theorem dX6_copyFrom_62 : decode cX6_copyFrom 62 = .ok (.aload_n 1, 1) := by decide +kernel
theorem dX6_copyFrom_63 : decode cX6_copyFrom 63 = .ok (.getfield 18, 3) := by decide +kernel
theorem dX6_copyFrom_66 : decode cX6_copyFrom 66 = .ok (.iconst 0, 1) := by decide +kernel
theorem dX6_copyFrom_67 : decode cX6_copyFrom 67 = .ok (.aload_n 0, 1) := by decide +kernel
theorem dX6_copyFrom_68 : decode cX6_copyFrom 68 = .ok (.getfield 18, 3) := by decide +kernel
theorem dX6_copyFrom_71 : decode cX6_copyFrom 71 = .ok (.iconst 0, 1) := by decide +kernel
theorem dX6_copyFrom_72 : decode cX6_copyFrom 72 = .ok (.bipush 36, 2) := by decide +kernel
theorem dX6_copyFrom_74 : decode cX6_copyFrom 74 = .ok (.invokestatic 61, 3) := by decide +kernel
theorem dX6_copyFrom_77 : decode cX6_copyFrom 77 = .ok (.aload_n 0, 1) := by decide +kernel
theorem dX6_copyFrom_78 : decode cX6_copyFrom 78 = .ok (.getfield 24, 3) := by decide +kernel
theorem dX6_copyFrom_81 : decode cX6_copyFrom 81 = .ok (.aload_n 1, 1) := by decide +kernel
theorem dX6_copyFrom_82 : decode cX6_copyFrom 82 = .ok (.getfield 24, 3) := by decide +kernel
theorem dX6_copyFrom_85 : decode cX6_copyFrom 85 = .ok (.invokevirtual 67, 3) := by decide +kernel
theorem dX6_copyFrom_88 : decode cX6_copyFrom 88 = .ok (.return_, 1) := by decide +kernel
theorem dX6_all_0 : decode cX6_all 0 = .ok (.iconst 1, 1) := by decide +kernel
theorem dX6_all_1 : decode cX6_all 1 = .ok (.aload_n 0, 1) := by decide +kernel
theorem dX6_all_2 : decode cX6_all 2 = .ok (.getfield 32, 3) := by decide +kernel
theorem dX6_all_5 : decode cX6_all 5 = .ok (.ishl, 1) := by decide +kernel
theorem dX6_all_6 : decode cX6_all 6 = .ok (.iconst 1, 1) := by decide +kernel
theorem dX6_all_7 : decode cX6_all 7 = .ok (.isub, 1) := by decide +kernel
theorem dX6_all_8 : decode cX6_all 8 = .ok (.ireturn, 1) := by decide +kernel
theorem dX6_hasItem_0 : decode cX6_hasItem 0 = .ok (.iload_n 1, 1) := by decide +kernel
theorem dX6_hasItem_1 : decode cX6_hasItem 1 = .ok (.ifCond .lt 15, 3) := by decide +kernel
theorem dX6_hasItem_4 : decode cX6_hasItem 4 = .ok (.iload_n 1, 1) := by decide +kernel
theorem dX6_hasItem_5 : decode cX6_hasItem 5 = .ok (.aload_n 0, 1) := by decide +kernel
theorem dX6_hasItem_6 : decode cX6_hasItem 6 = .ok (.getfield 32, 3) := by decide +kernel
theorem dX6_hasItem_9 : decode cX6_hasItem 9 = .ok (.if_icmp .ge 7, 3) := by decide +kernel
theorem dX6_hasItem_12 : decode cX6_hasItem 12 = .ok (.iconst 1, 1) := by decide +kernel
theorem dX6_hasItem_13 : decode cX6_hasItem 13 = .ok (.goto 4, 3) := by decide +kernel
theorem dX6_hasItem_16 : decode cX6_hasItem 16 = .ok (.iconst 0, 1) := by decide +kernel
theorem dX6_hasItem_17 : decode cX6_hasItem 17 = .ok (.ireturn, 1) := by decide +kernel
set_option maxRecDepth 20000 in
theorem ggX6_hasItemsOf_X6_all : GoodIn wsX6_hasItemsOf wsX6_all := goodIn_r _ [5, 6, 7, 8, 9, 10, 11, 12, 13, 14] (by decide +kernel) (by decide +kernel)
set_option maxRecDepth 20000 in
theorem gX6_hasItemsOf_X6_all : GoodIn wsX6_hasItemsOf (wsV RX6 51 RX6 yX6_all wsX6_all) := goodIn_app (goodIn_of _ (by decide +kernel)) ggX6_hasItemsOf_X6_all
theorem dX6_hasItemsOf_0 : decode cX6_hasItemsOf 0 = .ok (.iload_n 1, 1) := by decide +kernel
theorem dX6_hasItemsOf_1 : decode cX6_hasItemsOf 1 = .ok (.aload_n 0, 1) := by decide +kernel
theorem dX6_hasItemsOf_2 : decode cX6_hasItemsOf 2 = .ok (.invokevirtual 51, 3) := by decide +kernel
theorem dX6_hasItemsOf_5 : decode cX6_hasItemsOf 5 = .ok (.iconst (-1), 1) := by decide +kernel
theorem dX6_hasItemsOf_6 : decode cX6_hasItemsOf 6 = .ok (.ixor, 1) := by decide +kernel
theorem dX6_hasItemsOf_7 : decode cX6_hasItemsOf 7 = .ok (.iand, 1) := by decide +kernel
theorem dX6_hasItemsOf_8 : decode cX6_hasItemsOf 8 = .ok (.ifCond .ne 7, 3) := by decide +kernel
theorem dX6_hasItemsOf_11 : decode cX6_hasItemsOf 11 = .ok (.iconst 1, 1) := by decide +kernel
theorem dX6_hasItemsOf_12 : decode cX6_hasItemsOf 12 = .ok (.goto 4, 3) := by decide +kernel
theorem dX6_hasItemsOf_15 : decode cX6_hasItemsOf 15 = .ok (.iconst 0, 1) := by decide +kernel
theorem dX6_hasItemsOf_16 : decode cX6_hasItemsOf 16 = .ok (.ireturn, 1) := by decide +kernel
theorem dX6_hasLetter_0 : decode cX6_hasLetter 0 = .ok (.iload_n 1, 1) := by decide +kernel
theorem dX6_hasLetter_1 : decode cX6_hasLetter 1 = .ok (.ifCond .lt 15, 3) := by decide +kernel
theorem dX6_hasLetter_4 : decode cX6_hasLetter 4 = .ok (.iload_n 1, 1) := by decide +kernel
theorem dX6_hasLetter_5 : decode cX6_hasLetter 5 = .ok (.aload_n 0, 1) := by decide +kernel
theorem dX6_hasLetter_6 : decode cX6_hasLetter 6 = .ok (.getfield 42, 3) := by decide +kernel
theorem dX6_hasLetter_9 : decode cX6_hasLetter 9 = .ok (.if_icmp .ge 7, 3) := by decide +kernel
theorem dX6_hasLetter_12 : decode cX6_hasLetter 12 = .ok (.iconst 1, 1) := by decide +kernel
theorem dX6_hasLetter_13 : decode cX6_hasLetter 13 = .ok (.goto 4, 3) := by decide +kernel
theorem dX6_hasLetter_16 : decode cX6_hasLetter 16 = .ok (.iconst 0, 1) := by decide +kernel
theorem dX6_hasLetter_17 : decode cX6_hasLetter 17 = .ok (.ireturn, 1) := by decide +kernel
set_option maxRecDepth 20000 in
theorem ggX6_leadsTo_X6_hasItem : GoodIn wsX6_leadsTo wsX6_hasItem := goodIn_r _ [6, 7, 13, 14, 15, 16, 17, 18, 19, 20] (by decide +kernel) (by decide +kernel)
set_option maxRecDepth 20000 in
theorem gX6_leadsTo_X6_hasItem : GoodIn wsX6_leadsTo (wsV RX6 71 RX6 yX6_hasItem wsX6_hasItem) := goodIn_app (goodIn_of _ (by decide +kernel)) ggX6_leadsTo_X6_hasItem
set_option maxRecDepth 20000 in
theorem ggX6_leadsTo_X6_hasLetter : GoodIn wsX6_leadsTo wsX6_hasLetter := goodIn_r _ [11, 12, 13, 14, 15, 16, 17, 18, 19, 20] (by decide +kernel) (by decide +kernel)
set_option maxRecDepth 20000 in
theorem gX6_leadsTo_X6_hasLetter : GoodIn wsX6_leadsTo (wsV RX6 75 RX6 yX6_hasLetter wsX6_hasLetter) := goodIn_app (goodIn_of _ (by decide +kernel)) ggX6_leadsTo_X6_hasLetter
theorem dX6_leadsTo_0 : decode cX6_leadsTo 0 = .ok (.aload_n 0, 1) := by decide +kernel
theorem dX6_leadsTo_1 : decode cX6_leadsTo 1 = .ok (.iload_n 1, 1) := by decide +kernel
theorem dX6_leadsTo_2 : decode cX6_leadsTo 2 = .ok (.invokevirtual 71, 3) := by decide +kernel
theorem dX6_leadsTo_5 : decode cX6_leadsTo 5 = .ok (.ifCond .eq 25, 3) := by decide +kernel
theorem dX6_leadsTo_8 : decode cX6_leadsTo 8 = .ok (.aload_n 0, 1) := by decide +kernel
theorem dX6_leadsTo_9 : decode cX6_leadsTo 9 = .ok (.iload_n 2, 1) := by decide +kernel
theorem dX6_leadsTo_10 : decode cX6_leadsTo 10 = .ok (.invokevirtual 75, 3) := by decide +kernel
theorem dX6_leadsTo_13 : decode cX6_leadsTo 13 = .ok (.ifCond .eq 17, 3) := by decide +kernel
theorem dX6_leadsTo_16 : decode cX6_leadsTo 16 = .ok (.aload_n 0, 1) := by decide +kernel
theorem dX6_leadsTo_17 : decode cX6_leadsTo 17 = .ok (.getfield 18, 3) := by decide +kernel
theorem dX6_leadsTo_20 : decode cX6_leadsTo 20 = .ok (.iload_n 2, 1) := by decide +kernel
theorem dX6_leadsTo_21 : decode cX6_leadsTo 21 = .ok (.bipush 12, 2) := by decide +kernel
theorem dX6_leadsTo_23 : decode cX6_leadsTo 23 = .ok (.imul, 1) := by decide +kernel
theorem dX6_leadsTo_24 : decode cX6_leadsTo 24 = .ok (.iload_n 1, 1) := by decide +kernel
theorem dX6_leadsTo_25 : decode cX6_leadsTo 25 = .ok (.iadd, 1) := by decide +kernel
theorem dX6_leadsTo_26 : decode cX6_leadsTo 26 = .ok (.iaload, 1) := by decide +kernel
theorem dX6_leadsTo_27 : decode cX6_leadsTo 27 = .ok (.goto 4, 3) := by decide +kernel
theorem dX6_leadsTo_30 : decode cX6_leadsTo 30 = .ok (.iconst (-1), 1) := by decide +kernel
theorem dX6_leadsTo_31 : decode cX6_leadsTo 31 = .ok (.ireturn, 1) := by decide +kernel
set_option maxRecDepth 20000 in
theorem ggX6_lead_X6_hasItem : GoodIn wsX6_lead wsX6_hasItem := goodIn_r _ [6, 7, 13, 14, 15, 16, 17, 18, 19, 20] (by decide +kernel) (by decide +kernel)
set_option maxRecDepth 20000 in
theorem gX6_lead_X6_hasItem : GoodIn wsX6_lead (wsV RX6 71 RX6 yX6_hasItem wsX6_hasItem) := goodIn_app (goodIn_of _ (by decide +kernel)) ggX6_lead_X6_hasItem
set_option maxRecDepth 20000 in
theorem ggX6_lead_X6_hasLetter : GoodIn wsX6_lead wsX6_hasLetter := goodIn_r _ [11, 12, 13, 14, 15, 16, 17, 18, 19, 20] (by decide +kernel) (by decide +kernel)
set_option maxRecDepth 20000 in
theorem gX6_lead_X6_hasLetter : GoodIn wsX6_lead (wsV RX6 75 RX6 yX6_hasLetter wsX6_hasLetter) := goodIn_app (goodIn_of _ (by decide +kernel)) ggX6_lead_X6_hasLetter
theorem dX6_lead_0 : decode cX6_lead 0 = .ok (.aload_n 0, 1) := by decide +kernel
theorem dX6_lead_1 : decode cX6_lead 1 = .ok (.iload_n 1, 1) := by decide +kernel
theorem dX6_lead_2 : decode cX6_lead 2 = .ok (.invokevirtual 71, 3) := by decide +kernel
theorem dX6_lead_5 : decode cX6_lead 5 = .ok (.ifCond .eq 31, 3) := by decide +kernel
theorem dX6_lead_8 : decode cX6_lead 8 = .ok (.aload_n 0, 1) := by decide +kernel
theorem dX6_lead_9 : decode cX6_lead 9 = .ok (.iload_n 2, 1) := by decide +kernel
theorem dX6_lead_10 : decode cX6_lead 10 = .ok (.invokevirtual 75, 3) := by decide +kernel
theorem dX6_lead_13 : decode cX6_lead 13 = .ok (.ifCond .eq 23, 3) := by decide +kernel
theorem dX6_lead_16 : decode cX6_lead 16 = .ok (.aload_n 0, 1) := by decide +kernel
theorem dX6_lead_17 : decode cX6_lead 17 = .ok (.iload_n 3, 1) := by decide +kernel
theorem dX6_lead_18 : decode cX6_lead 18 = .ok (.invokevirtual 71, 3) := by decide +kernel
theorem dX6_lead_21 : decode cX6_lead 21 = .ok (.ifCond .eq 15, 3) := by decide +kernel
theorem dX6_lead_24 : decode cX6_lead 24 = .ok (.aload_n 0, 1) := by decide +kernel
theorem dX6_lead_25 : decode cX6_lead 25 = .ok (.getfield 18, 3) := by decide +kernel
theorem dX6_lead_28 : decode cX6_lead 28 = .ok (.iload_n 2, 1) := by decide +kernel
theorem dX6_lead_29 : decode cX6_lead 29 = .ok (.bipush 12, 2) := by decide +kernel
theorem dX6_lead_31 : decode cX6_lead 31 = .ok (.imul, 1) := by decide +kernel
theorem dX6_lead_32 : decode cX6_lead 32 = .ok (.iload_n 1, 1) := by decide +kernel
theorem dX6_lead_33 : decode cX6_lead 33 = .ok (.iadd, 1) := by decide +kernel
theorem dX6_lead_34 : decode cX6_lead 34 = .ok (.iload_n 3, 1) := by decide +kernel
theorem dX6_lead_35 : decode cX6_lead 35 = .ok (.iastore, 1) := by decide +kernel
theorem dX6_lead_36 : decode cX6_lead 36 = .ok (.return_, 1) := by decide +kernel
set_option maxRecDepth 20000 in
theorem ggX6_takeLetters_X6_lead : GoodIn wsX6_takeLetters wsX6_lead := goodIn_r _ [7, 8, 9, 10, 11, 6, 12, 2, 13, 14, 15, 16, 1, 17, 18, 19, 20, 21, 22, 23, 24] (by decide +kernel) (by decide +kernel)
set_option maxRecDepth 20000 in
theorem gX6_takeLetters_X6_lead : GoodIn wsX6_takeLetters (wsV RX6 78 RX6 yX6_lead wsX6_lead) := goodIn_app (goodIn_of _ (by decide +kernel)) ggX6_takeLetters_X6_lead
theorem dX6_takeLetters_0 : decode cX6_takeLetters 0 = .ok (.aload_n 0, 1) := by decide +kernel
theorem dX6_takeLetters_1 : decode cX6_takeLetters 1 = .ok (.getfield 42, 3) := by decide +kernel
theorem dX6_takeLetters_4 : decode cX6_takeLetters 4 = .ok (.istore_n 2, 1) := by decide +kernel
theorem dX6_takeLetters_5 : decode cX6_takeLetters 5 = .ok (.aload_n 0, 1) := by decide +kernel
theorem dX6_takeLetters_6 : decode cX6_takeLetters 6 = .ok (.iload_n 1, 1) := by decide +kernel
theorem dX6_takeLetters_7 : decode cX6_takeLetters 7 = .ok (.putfield 42, 3) := by decide +kernel
theorem dX6_takeLetters_10 : decode cX6_takeLetters 10 = .ok (.iload_n 2, 1) := by decide +kernel
theorem dX6_takeLetters_11 : decode cX6_takeLetters 11 = .ok (.istore_n 3, 1) := by decide +kernel
theorem dX6_takeLetters_12 : decode cX6_takeLetters 12 = .ok (.iload_n 3, 1) := by decide +kernel
theorem dX6_takeLetters_13 : decode cX6_takeLetters 13 = .ok (.iload_n 1, 1) := by decide +kernel
theorem dX6_takeLetters_14 : decode cX6_takeLetters 14 = .ok (.if_icmp .ge 36, 3) := by decide +kernel
theorem dX6_takeLetters_17 : decode cX6_takeLetters 17 = .ok (.iconst 0, 1) := by decide +kernel
theorem dX6_takeLetters_18 : decode cX6_takeLetters 18 = .ok (.istore 4, 2) := by decide +kernel
theorem dX6_takeLetters_20 : decode cX6_takeLetters 20 = .ok (.iload 4, 2) := by decide +kernel
theorem dX6_takeLetters_22 : decode cX6_takeLetters 22 = .ok (.aload_n 0, 1) := by decide +kernel
theorem dX6_takeLetters_23 : decode cX6_takeLetters 23 = .ok (.getfield 32, 3) := by decide +kernel
theorem dX6_takeLetters_26 : decode cX6_takeLetters 26 = .ok (.if_icmp .ge 18, 3) := by decide +kernel
