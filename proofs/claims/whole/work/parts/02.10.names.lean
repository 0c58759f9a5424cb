set_option maxRecDepth 20000 in
theorem gX9_arrange_X9_membersOf : GoodIn wsX9_arrange (wsV RX9 77 RX9 yX9_membersOf wsX9_membersOf) := goodIn_app (goodIn_of _ (by decide +kernel)) ggX9_arrange_X9_membersOf
set_option maxRecDepth 20000 in
theorem ggX9_arrange_X9_leastOf : GoodIn wsX9_arrange wsX9_leastOf := goodIn_r _ [36, 26, 27, 6, 28] (by decide +kernel) (by decide +kernel)
set_option maxRecDepth 20000 in
theorem gX9_arrange_X9_leastOf : GoodIn wsX9_arrange (wsV RX9 133 RX9 yX9_leastOf wsX9_leastOf) := goodIn_app (goodIn_of _ (by decide +kernel)) ggX9_arrange_X9_leastOf
theorem dX9_arrange_0 : decode cX9_arrange 0 = .ok (.aload_n 0, 1) := by decide +kernel
theorem dX9_arrange_1 : decode cX9_arrange 1 = .ok (.invokevirtual 161, 3) := by decide +kernel
theorem dX9_arrange_4 : decode cX9_arrange 4 = .ok (.aload_n 0, 1) := by decide +kernel
theorem dX9_arrange_5 : decode cX9_arrange 5 = .ok (.getfield 7, 3) := by decide +kernel
theorem dX9_arrange_8 : decode cX9_arrange 8 = .ok (.bipush 64, 2) := by decide +kernel
theorem dX9_arrange_10 : decode cX9_arrange 10 = .ok (.aload_n 0, 1) := by decide +kernel
theorem dX9_arrange_11 : decode cX9_arrange 11 = .ok (.getfield 38, 3) := by decide +kernel
theorem dX9_arrange_14 : decode cX9_arrange 14 = .ok (.iconst 0, 1) := by decide +kernel
theorem dX9_arrange_15 : decode cX9_arrange 15 = .ok (.bipush 12, 2) := by decide +kernel
theorem dX9_arrange_17 : decode cX9_arrange 17 = .ok (.invokestatic 65, 3) := by decide +kernel
theorem dX9_arrange_20 : decode cX9_arrange 20 = .ok (.aload_n 0, 1) := by decide +kernel
theorem dX9_arrange_21 : decode cX9_arrange 21 = .ok (.aload_n 0, 1) := by decide +kernel
theorem dX9_arrange_22 : decode cX9_arrange 22 = .ok (.getfield 7, 3) := by decide +kernel
theorem dX9_arrange_25 : decode cX9_arrange 25 = .ok (.bipush 64, 2) := by decide +kernel
theorem dX9_arrange_27 : decode cX9_arrange 27 = .ok (.invokevirtual 116, 3) := by decide +kernel
theorem dX9_arrange_30 : decode cX9_arrange 30 = .ok (.iconst 0, 1) := by decide +kernel
theorem dX9_arrange_31 : decode cX9_arrange 31 = .ok (.istore_n 1, 1) := by decide +kernel
theorem dX9_arrange_32 : decode cX9_arrange 32 = .ok (.iconst 0, 1) := by decide +kernel
theorem dX9_arrange_33 : decode cX9_arrange 33 = .ok (.istore_n 2, 1) := by decide +kernel
theorem dX9_arrange_34 : decode cX9_arrange 34 = .ok (.iload_n 2, 1) := by decide +kernel
theorem dX9_arrange_35 : decode cX9_arrange 35 = .ok (.aload_n 0, 1) := by decide +kernel
theorem dX9_arrange_36 : decode cX9_arrange 36 = .ok (.aload_n 0, 1) := by decide +kernel
theorem dX9_arrange_37 : decode cX9_arrange 37 = .ok (.getfield 7, 3) := by decide +kernel
theorem dX9_arrange_40 : decode cX9_arrange 40 = .ok (.bipush 64, 2) := by decide +kernel
theorem dX9_arrange_42 : decode cX9_arrange 42 = .ok (.invokevirtual 73, 3) := by decide +kernel
theorem dX9_arrange_45 : decode cX9_arrange 45 = .ok (.if_icmp .ge 43, 3) := by decide +kernel
theorem dX9_arrange_48 : decode cX9_arrange 48 = .ok (.aload_n 0, 1) := by decide +kernel
theorem dX9_arrange_49 : decode cX9_arrange 49 = .ok (.aload_n 0, 1) := by decide +kernel
theorem dX9_arrange_50 : decode cX9_arrange 50 = .ok (.aload_n 0, 1) := by decide +kernel
theorem dX9_arrange_51 : decode cX9_arrange 51 = .ok (.getfield 7, 3) := by decide +kernel
theorem dX9_arrange_54 : decode cX9_arrange 54 = .ok (.bipush 64, 2) := by decide +kernel
theorem dX9_arrange_56 : decode cX9_arrange 56 = .ok (.iload_n 2, 1) := by decide +kernel
theorem dX9_arrange_57 : decode cX9_arrange 57 = .ok (.invokevirtual 77, 3) := by decide +kernel
theorem dX9_arrange_60 : decode cX9_arrange 60 = .ok (.invokevirtual 133, 3) := by decide +kernel
theorem dX9_arrange_63 : decode cX9_arrange 63 = .ok (.istore_n 3, 1) := by decide +kernel
theorem dX9_arrange_64 : decode cX9_arrange 64 = .ok (.iload_n 1, 1) := by decide +kernel
theorem dX9_arrange_65 : decode cX9_arrange 65 = .ok (.aload_n 0, 1) := by decide +kernel
theorem dX9_arrange_66 : decode cX9_arrange 66 = .ok (.getfield 38, 3) := by decide +kernel
theorem dX9_arrange_69 : decode cX9_arrange 69 = .ok (.iload_n 3, 1) := by decide +kernel
theorem dX9_arrange_70 : decode cX9_arrange 70 = .ok (.iaload, 1) := by decide +kernel
theorem dX9_arrange_71 : decode cX9_arrange 71 = .ok (.iload_n 2, 1) := by decide +kernel
theorem dX9_arrange_72 : decode cX9_arrange 72 = .ok (.if_icmp .ne 7, 3) := by decide +kernel
theorem dX9_arrange_75 : decode cX9_arrange 75 = .ok (.iconst 0, 1) := by decide +kernel
theorem dX9_arrange_76 : decode cX9_arrange 76 = .ok (.goto 4, 3) := by decide +kernel
theorem dX9_arrange_79 : decode cX9_arrange 79 = .ok (.iconst 1, 1) := by decide +kernel
theorem dX9_arrange_80 : decode cX9_arrange 80 = .ok (.iadd, 1) := by decide +kernel
theorem dX9_arrange_81 : decode cX9_arrange 81 = .ok (.istore_n 1, 1) := by decide +kernel
theorem dX9_arrange_82 : decode cX9_arrange 82 = .ok (.iinc 2 1, 3) := by decide +kernel
theorem dX9_arrange_85 : decode cX9_arrange 85 = .ok (.goto (-51), 3) := by decide +kernel
theorem dX9_arrange_88 : decode cX9_arrange 88 = .ok (.iload_n 1, 1) := by decide +kernel
theorem dX9_arrange_89 : decode cX9_arrange 89 = .ok (.ireturn, 1) := by decide +kernel
theorem dX9_draws_0 : decode cX9_draws 0 = .ok (.aload_n 0, 1) := by decide +kernel
theorem dX9_draws_1 : decode cX9_draws 1 = .ok (.aload_n 0, 1) := by decide +kernel
theorem dX9_draws_2 : decode cX9_draws 2 = .ok (.getfield 158, 3) := by decide +kernel
theorem dX9_draws_5 : decode cX9_draws 5 = .ok (.i2l, 1) := by decide +kernel
theorem dX9_draws_6 : decode cX9_draws 6 = .ok (.ldc2_w 174, 3) := by decide +kernel
theorem dX9_draws_9 : decode cX9_draws 9 = .ok (.lmul, 1) := by decide +kernel
theorem dX9_draws_10 : decode cX9_draws 10 = .ok (.ldc2_w 176, 3) := by decide +kernel
theorem dX9_draws_13 : decode cX9_draws 13 = .ok (.ladd, 1) := by decide +kernel
theorem dX9_draws_14 : decode cX9_draws 14 = .ok (.ldc2_w 178, 3) := by decide +kernel
theorem dX9_draws_17 : decode cX9_draws 17 = .ok (.lrem, 1) := by decide +kernel
theorem dX9_draws_18 : decode cX9_draws 18 = .ok (.l2i, 1) := by decide +kernel
theorem dX9_draws_19 : decode cX9_draws 19 = .ok (.putfield 158, 3) := by decide +kernel
theorem dX9_draws_22 : decode cX9_draws 22 = .ok (.aload_n 0, 1) := by decide +kernel
theorem dX9_draws_23 : decode cX9_draws 23 = .ok (.getfield 158, 3) := by decide +kernel
theorem dX9_draws_26 : decode cX9_draws 26 = .ok (.ldc 180, 2) := by decide +kernel
theorem dX9_draws_28 : decode cX9_draws 28 = .ok (.idiv, 1) := by decide +kernel
theorem dX9_draws_29 : decode cX9_draws 29 = .ok (.iload_n 1, 1) := by decide +kernel
theorem dX9_draws_30 : decode cX9_draws 30 = .ok (.irem, 1) := by decide +kernel
theorem dX9_draws_31 : decode cX9_draws 31 = .ok (.ireturn, 1) := by decide +kernel
set_option maxRecDepth 20000 in
theorem ggX9_driftsOnce_X9_notes : GoodIn wsX9_driftsOnce wsX9_notes := goodIn_r _ [6, 7, 8, 1, 9, 10, 5, 11, 25, 26, 27, 28, 29, 30, 31, 32, 33, 34, 35, 36, 37, 38, 39, 40, 41] (by decide +kernel) (by decide +kernel)
set_option maxRecDepth 20000 in
theorem gX9_driftsOnce_X9_notes : GoodIn wsX9_driftsOnce (wsV RX9 161 RX9 yX9_notes wsX9_notes) := goodIn_app (goodIn_of _ (by decide +kernel)) ggX9_driftsOnce_X9_notes
set_option maxRecDepth 20000 in
theorem ggX9_driftsOnce_X9_draws : GoodIn wsX9_driftsOnce wsX9_draws := goodIn_r _ [15, 16, 17, 18, 19, 20, 25, 26, 27, 28, 29, 30, 31, 32, 33, 34, 35, 36, 37, 38, 39, 40, 41] (by decide +kernel) (by decide +kernel)
set_option maxRecDepth 20000 in
theorem gX9_driftsOnce_X9_draws : GoodIn wsX9_driftsOnce (wsV RX9 181 RX9 yX9_draws wsX9_draws) := goodIn_app (goodIn_of _ (by decide +kernel)) ggX9_driftsOnce_X9_draws
set_option maxRecDepth 20000 in
theorem ggX9_driftsOnce_X9_turnsEdge : GoodIn wsX9_driftsOnce wsX9_turnsEdge := goodIn_r _ [24, 1, 25, 26, 27, 28, 29, 30, 31, 32, 33, 34, 35, 36, 37, 38, 39, 40, 41] (by decide +kernel) (by decide +kernel)
set_option maxRecDepth 20000 in
theorem gX9_driftsOnce_X9_turnsEdge : GoodIn wsX9_driftsOnce (wsV RX9 164 RX9 yX9_turnsEdge wsX9_turnsEdge) := goodIn_app (goodIn_of _ (by decide +kernel)) ggX9_driftsOnce_X9_turnsEdge
theorem dX9_driftsOnce_0 : decode cX9_driftsOnce 0 = .ok (.aload_n 0, 1) := by decide +kernel
theorem dX9_driftsOnce_1 : decode cX9_driftsOnce 1 = .ok (.invokevirtual 161, 3) := by decide +kernel
theorem dX9_driftsOnce_4 : decode cX9_driftsOnce 4 = .ok (.aload_n 0, 1) := by decide +kernel
theorem dX9_driftsOnce_5 : decode cX9_driftsOnce 5 = .ok (.iconst 4, 1) := by decide +kernel
theorem dX9_driftsOnce_6 : decode cX9_driftsOnce 6 = .ok (.invokevirtual 181, 3) := by decide +kernel
theorem dX9_driftsOnce_9 : decode cX9_driftsOnce 9 = .ok (.istore_n 1, 1) := by decide +kernel
theorem dX9_driftsOnce_10 : decode cX9_driftsOnce 10 = .ok (.iload_n 1, 1) := by decide +kernel
theorem dX9_driftsOnce_11 : decode cX9_driftsOnce 11 = .ok (.iconst 3, 1) := by decide +kernel
theorem dX9_driftsOnce_12 : decode cX9_driftsOnce 12 = .ok (.if_icmp .ne 22, 3) := by decide +kernel
theorem dX9_driftsOnce_15 : decode cX9_driftsOnce 15 = .ok (.aload_n 0, 1) := by decide +kernel
theorem dX9_driftsOnce_16 : decode cX9_driftsOnce 16 = .ok (.getfield 7, 3) := by decide +kernel
theorem dX9_driftsOnce_19 : decode cX9_driftsOnce 19 = .ok (.iconst 2, 1) := by decide +kernel
theorem dX9_driftsOnce_20 : decode cX9_driftsOnce 20 = .ok (.aload_n 0, 1) := by decide +kernel
theorem dX9_driftsOnce_21 : decode cX9_driftsOnce 21 = .ok (.iconst 1, 1) := by decide +kernel
theorem dX9_driftsOnce_22 : decode cX9_driftsOnce 22 = .ok (.aload_n 0, 1) := by decide +kernel
theorem dX9_driftsOnce_23 : decode cX9_driftsOnce 23 = .ok (.getfield 7, 3) := by decide +kernel
theorem dX9_driftsOnce_26 : decode cX9_driftsOnce 26 = .ok (.iconst 0, 1) := by decide +kernel
theorem dX9_driftsOnce_27 : decode cX9_driftsOnce 27 = .ok (.iaload, 1) := by decide +kernel
theorem dX9_driftsOnce_28 : decode cX9_driftsOnce 28 = .ok (.ishl, 1) := by decide +kernel
theorem dX9_driftsOnce_29 : decode cX9_driftsOnce 29 = .ok (.invokevirtual 181, 3) := by decide +kernel
theorem dX9_driftsOnce_32 : decode cX9_driftsOnce 32 = .ok (.iastore, 1) := by decide +kernel
theorem dX9_driftsOnce_33 : decode cX9_driftsOnce 33 = .ok (.return_, 1) := by decide +kernel
theorem dX9_driftsOnce_34 : decode cX9_driftsOnce 34 = .ok (.aload_n 0, 1) := by decide +kernel
theorem dX9_driftsOnce_35 : decode cX9_driftsOnce 35 = .ok (.aload_n 0, 1) := by decide +kernel
theorem dX9_driftsOnce_36 : decode cX9_driftsOnce 36 = .ok (.getfield 7, 3) := by decide +kernel
theorem dX9_driftsOnce_39 : decode cX9_driftsOnce 39 = .ok (.iconst 0, 1) := by decide +kernel
theorem dX9_driftsOnce_40 : decode cX9_driftsOnce 40 = .ok (.iaload, 1) := by decide +kernel
theorem dX9_driftsOnce_41 : decode cX9_driftsOnce 41 = .ok (.invokevirtual 181, 3) := by decide +kernel
theorem dX9_driftsOnce_44 : decode cX9_driftsOnce 44 = .ok (.istore_n 2, 1) := by decide +kernel
theorem dX9_driftsOnce_45 : decode cX9_driftsOnce 45 = .ok (.iload_n 1, 1) := by decide +kernel
theorem dX9_driftsOnce_46 : decode cX9_driftsOnce 46 = .ok (.ifCond .ne 28, 3) := by decide +kernel
theorem dX9_driftsOnce_49 : decode cX9_driftsOnce 49 = .ok (.aload_n 0, 1) := by decide +kernel
theorem dX9_driftsOnce_50 : decode cX9_driftsOnce 50 = .ok (.aload_n 0, 1) := by decide +kernel
theorem dX9_driftsOnce_51 : decode cX9_driftsOnce 51 = .ok (.getfield 7, 3) := by decide +kernel
theorem dX9_driftsOnce_54 : decode cX9_driftsOnce 54 = .ok (.iconst 0, 1) := by decide +kernel
theorem dX9_driftsOnce_55 : decode cX9_driftsOnce 55 = .ok (.iaload, 1) := by decide +kernel
theorem dX9_driftsOnce_56 : decode cX9_driftsOnce 56 = .ok (.invokevirtual 181, 3) := by decide +kernel
theorem dX9_driftsOnce_59 : decode cX9_driftsOnce 59 = .ok (.istore_n 3, 1) := by decide +kernel
theorem dX9_driftsOnce_60 : decode cX9_driftsOnce 60 = .ok (.iload_n 2, 1) := by decide +kernel
theorem dX9_driftsOnce_61 : decode cX9_driftsOnce 61 = .ok (.iload_n 3, 1) := by decide +kernel
theorem dX9_driftsOnce_62 : decode cX9_driftsOnce 62 = .ok (.if_icmp .eq 9, 3) := by decide +kernel
theorem dX9_driftsOnce_65 : decode cX9_driftsOnce 65 = .ok (.aload_n 0, 1) := by decide +kernel
theorem dX9_driftsOnce_66 : decode cX9_driftsOnce 66 = .ok (.iload_n 2, 1) := by decide +kernel
theorem dX9_driftsOnce_67 : decode cX9_driftsOnce 67 = .ok (.iload_n 3, 1) := by decide +kernel
theorem dX9_driftsOnce_68 : decode cX9_driftsOnce 68 = .ok (.invokevirtual 164, 3) := by decide +kernel
theorem dX9_driftsOnce_71 : decode cX9_driftsOnce 71 = .ok (.goto 60, 3) := by decide +kernel
theorem dX9_driftsOnce_74 : decode cX9_driftsOnce 74 = .ok (.iload_n 1, 1) := by decide +kernel
theorem dX9_driftsOnce_75 : decode cX9_driftsOnce 75 = .ok (.iconst 1, 1) := by decide +kernel
theorem dX9_driftsOnce_76 : decode cX9_driftsOnce 76 = .ok (.if_icmp .ne 21, 3) := by decide +kernel
theorem dX9_driftsOnce_79 : decode cX9_driftsOnce 79 = .ok (.aload_n 0, 1) := by decide +kernel
theorem dX9_driftsOnce_80 : decode cX9_driftsOnce 80 = .ok (.getfield 7, 3) := by decide +kernel
theorem dX9_driftsOnce_83 : decode cX9_driftsOnce 83 = .ok (.iconst 4, 1) := by decide +kernel
theorem dX9_driftsOnce_84 : decode cX9_driftsOnce 84 = .ok (.iload_n 2, 1) := by decide +kernel
theorem dX9_driftsOnce_85 : decode cX9_driftsOnce 85 = .ok (.iadd, 1) := by decide +kernel
theorem dX9_driftsOnce_86 : decode cX9_driftsOnce 86 = .ok (.aload_n 0, 1) := by decide +kernel
theorem dX9_driftsOnce_87 : decode cX9_driftsOnce 87 = .ok (.sipush 256, 3) := by decide +kernel
theorem dX9_driftsOnce_90 : decode cX9_driftsOnce 90 = .ok (.invokevirtual 181, 3) := by decide +kernel
theorem dX9_driftsOnce_93 : decode cX9_driftsOnce 93 = .ok (.iastore, 1) := by decide +kernel
theorem dX9_driftsOnce_94 : decode cX9_driftsOnce 94 = .ok (.goto 37, 3) := by decide +kernel
theorem dX9_driftsOnce_97 : decode cX9_driftsOnce 97 = .ok (.aload_n 0, 1) := by decide +kernel
theorem dX9_driftsOnce_98 : decode cX9_driftsOnce 98 = .ok (.aload_n 0, 1) := by decide +kernel
theorem dX9_driftsOnce_99 : decode cX9_driftsOnce 99 = .ok (.getfield 7, 3) := by decide +kernel
theorem dX9_driftsOnce_102 : decode cX9_driftsOnce 102 = .ok (.iconst 1, 1) := by decide +kernel
theorem dX9_driftsOnce_103 : decode cX9_driftsOnce 103 = .ok (.iaload, 1) := by decide +kernel
theorem dX9_driftsOnce_104 : decode cX9_driftsOnce 104 = .ok (.invokevirtual 181, 3) := by decide +kernel
theorem dX9_driftsOnce_107 : decode cX9_driftsOnce 107 = .ok (.istore_n 3, 1) := by decide +kernel
theorem dX9_driftsOnce_108 : decode cX9_driftsOnce 108 = .ok (.aload_n 0, 1) := by decide +kernel
theorem dX9_driftsOnce_109 : decode cX9_driftsOnce 109 = .ok (.getfield 7, 3) := by decide +kernel
theorem dX9_driftsOnce_112 : decode cX9_driftsOnce 112 = .ok (.bipush 28, 2) := by decide +kernel
theorem dX9_driftsOnce_114 : decode cX9_driftsOnce 114 = .ok (.iconst 3, 1) := by decide +kernel
theorem dX9_driftsOnce_115 : decode cX9_driftsOnce 115 = .ok (.iload_n 2, 1) := by decide +kernel
theorem dX9_driftsOnce_116 : decode cX9_driftsOnce 116 = .ok (.imul, 1) := by decide +kernel
theorem dX9_driftsOnce_117 : decode cX9_driftsOnce 117 = .ok (.iadd, 1) := by decide +kernel
theorem dX9_driftsOnce_118 : decode cX9_driftsOnce 118 = .ok (.iload_n 3, 1) := by decide +kernel
theorem dX9_driftsOnce_119 : decode cX9_driftsOnce 119 = .ok (.iadd, 1) := by decide +kernel
theorem dX9_driftsOnce_120 : decode cX9_driftsOnce 120 = .ok (.aload_n 0, 1) := by decide +kernel
theorem dX9_driftsOnce_121 : decode cX9_driftsOnce 121 = .ok (.aload_n 0, 1) := by decide +kernel
theorem dX9_driftsOnce_122 : decode cX9_driftsOnce 122 = .ok (.getfield 7, 3) := by decide +kernel
theorem dX9_driftsOnce_125 : decode cX9_driftsOnce 125 = .ok (.iconst 0, 1) := by decide +kernel
theorem dX9_driftsOnce_126 : decode cX9_driftsOnce 126 = .ok (.iaload, 1) := by decide +kernel
theorem dX9_driftsOnce_127 : decode cX9_driftsOnce 127 = .ok (.invokevirtual 181, 3) := by decide +kernel
theorem dX9_driftsOnce_130 : decode cX9_driftsOnce 130 = .ok (.iastore, 1) := by decide +kernel
theorem dX9_driftsOnce_131 : decode cX9_driftsOnce 131 = .ok (.return_, 1) := by decide +kernel
set_option maxRecDepth 20000 in
theorem ggX9_drift_X9_in : GoodIn wsX9_drift wsX9_in := goodIn_r _ [5] (by decide +kernel) (by decide +kernel)
set_option maxRecDepth 20000 in
theorem gX9_drift_X9_in : GoodIn wsX9_drift (va_wsS RX9 57 yX9_in wsX9_in) := goodIn_app (goodIn_of _ (by decide +kernel)) ggX9_drift_X9_in
set_option maxRecDepth 20000 in
theorem ggX9_drift_X9_driftsOnce : GoodIn wsX9_drift wsX9_driftsOnce := goodIn_r _ [9, 10, 11, 12, 13, 4, 14, 15, 16, 17, 18, 19, 20, 21, 22, 23, 24, 25, 26, 27, 28, 29, 30, 31, 32, 40, 41, 42, 43, 44, 45, 46, 47, 48, 49, 50, 51, 52, 53, 54, 55, 56] (by decide +kernel) (by decide +kernel)
set_option maxRecDepth 20000 in
theorem gX9_drift_X9_driftsOnce : GoodIn wsX9_drift (wsV RX9 184 RX9 yX9_driftsOnce wsX9_driftsOnce) := goodIn_app (goodIn_of _ (by decide +kernel)) ggX9_drift_X9_driftsOnce
set_option maxRecDepth 20000 in
theorem ggX9_drift_X9_edgesNow : GoodIn wsX9_drift wsX9_edgesNow := goodIn_r _ [36, 10, 37, 38, 4, 39, 40, 41, 42, 43, 44, 45, 46, 47, 48, 49, 50, 51, 52, 53, 54, 55, 56] (by decide +kernel) (by decide +kernel)
set_option maxRecDepth 20000 in
theorem gX9_drift_X9_edgesNow : GoodIn wsX9_drift (wsV RX9 146 RX9 yX9_edgesNow wsX9_edgesNow) := goodIn_app (goodIn_of _ (by decide +kernel)) ggX9_drift_X9_edgesNow
theorem dX9_drift_0 : decode cX9_drift 0 = .ok (.iload_n 1, 1) := by decide +kernel
theorem dX9_drift_1 : decode cX9_drift 1 = .ok (.iconst 1, 1) := by decide +kernel
theorem dX9_drift_2 : decode cX9_drift 2 = .ok (.bipush 12, 2) := by decide +kernel
theorem dX9_drift_4 : decode cX9_drift 4 = .ok (.invokestatic 57, 3) := by decide +kernel
theorem dX9_drift_7 : decode cX9_drift 7 = .ok (.ifCond .ne 6, 3) := by decide +kernel
theorem dX9_drift_10 : decode cX9_drift 10 = .ok (.ldc 94, 2) := by decide +kernel
theorem dX9_drift_12 : decode cX9_drift 12 = .ok (.ireturn, 1) := by decide +kernel
theorem dX9_drift_13 : decode cX9_drift 13 = .ok (.iconst 0, 1) := by decide +kernel
theorem dX9_drift_14 : decode cX9_drift 14 = .ok (.istore_n 2, 1) := by decide +kernel
theorem dX9_drift_15 : decode cX9_drift 15 = .ok (.iload_n 2, 1) := by decide +kernel
theorem dX9_drift_16 : decode cX9_drift 16 = .ok (.iload_n 1, 1) := by decide +kernel
theorem dX9_drift_17 : decode cX9_drift 17 = .ok (.if_icmp .ge 13, 3) := by decide +kernel
theorem dX9_drift_20 : decode cX9_drift 20 = .ok (.aload_n 0, 1) := by decide +kernel
theorem dX9_drift_21 : decode cX9_drift 21 = .ok (.invokevirtual 184, 3) := by decide +kernel
theorem dX9_drift_24 : decode cX9_drift 24 = .ok (.iinc 2 1, 3) := by decide +kernel
theorem dX9_drift_27 : decode cX9_drift 27 = .ok (.goto (-12), 3) := by decide +kernel
theorem dX9_drift_30 : decode cX9_drift 30 = .ok (.aload_n 0, 1) := by decide +kernel
theorem dX9_drift_31 : decode cX9_drift 31 = .ok (.invokevirtual 146, 3) := by decide +kernel
theorem dX9_drift_34 : decode cX9_drift 34 = .ok (.ireturn, 1) := by decide +kernel
set_option maxRecDepth 20000 in
theorem ggX9_undo_X9_in : GoodIn wsX9_undo wsX9_in := goodIn_r _ [9] (by decide +kernel) (by decide +kernel)
set_option maxRecDepth 20000 in
theorem gX9_undo_X9_in : GoodIn wsX9_undo (va_wsS RX9 57 yX9_in wsX9_in) := goodIn_app (goodIn_of _ (by decide +kernel)) ggX9_undo_X9_in
set_option maxRecDepth 20000 in
theorem ggX9_undo_X9_bring : GoodIn wsX9_undo wsX9_bring := goodIn_r _ [12] (by decide +kernel) (by decide +kernel)
set_option maxRecDepth 20000 in
theorem gX9_undo_X9_bring : GoodIn wsX9_undo (va_wsS RX9 65 yX9_bring wsX9_bring) := goodIn_app (goodIn_of _ (by decide +kernel)) ggX9_undo_X9_bring
theorem dX9_undo_0 : decode cX9_undo 0 = .ok (.iload_n 1, 1) := by decide +kernel
theorem dX9_undo_1 : decode cX9_undo 1 = .ok (.iconst 1, 1) := by decide +kernel
theorem dX9_undo_2 : decode cX9_undo 2 = .ok (.bipush 16, 2) := by decide +kernel
theorem dX9_undo_4 : decode cX9_undo 4 = .ok (.invokestatic 57, 3) := by decide +kernel
theorem dX9_undo_7 : decode cX9_undo 7 = .ok (.ifCond .ne 6, 3) := by decide +kernel
theorem dX9_undo_10 : decode cX9_undo 10 = .ok (.ldc 94, 2) := by decide +kernel
theorem dX9_undo_12 : decode cX9_undo 12 = .ok (.ireturn, 1) := by decide +kernel
theorem dX9_undo_13 : decode cX9_undo 13 = .ok (.iload_n 1, 1) := by decide +kernel
theorem dX9_undo_14 : decode cX9_undo 14 = .ok (.aload_n 0, 1) := by decide +kernel
theorem dX9_undo_15 : decode cX9_undo 15 = .ok (.getfield 61, 3) := by decide +kernel
theorem dX9_undo_18 : decode cX9_undo 18 = .ok (.if_icmp .le 6, 3) := by decide +kernel
theorem dX9_undo_21 : decode cX9_undo 21 = .ok (.ldc 187, 2) := by decide +kernel
theorem dX9_undo_23 : decode cX9_undo 23 = .ok (.ireturn, 1) := by decide +kernel
theorem dX9_undo_24 : decode cX9_undo 24 = .ok (.aload_n 0, 1) := by decide +kernel
theorem dX9_undo_25 : decode cX9_undo 25 = .ok (.dup, 1) := by decide +kernel
theorem dX9_undo_26 : decode cX9_undo 26 = .ok (.getfield 61, 3) := by decide +kernel
theorem dX9_undo_29 : decode cX9_undo 29 = .ok (.iload_n 1, 1) := by decide +kernel
theorem dX9_undo_30 : decode cX9_undo 30 = .ok (.isub, 1) := by decide +kernel
theorem dX9_undo_31 : decode cX9_undo 31 = .ok (.putfield 61, 3) := by decide +kernel
theorem dX9_undo_34 : decode cX9_undo 34 = .ok (.aload_n 0, 1) := by decide +kernel
theorem dX9_undo_35 : decode cX9_undo 35 = .ok (.getfield 13, 3) := by decide +kernel
theorem dX9_undo_38 : decode cX9_undo 38 = .ok (.bipush 76, 2) := by decide +kernel
theorem dX9_undo_40 : decode cX9_undo 40 = .ok (.aload_n 0, 1) := by decide +kernel
theorem dX9_undo_41 : decode cX9_undo 41 = .ok (.getfield 61, 3) := by decide +kernel
theorem dX9_undo_44 : decode cX9_undo 44 = .ok (.imul, 1) := by decide +kernel
theorem dX9_undo_45 : decode cX9_undo 45 = .ok (.aload_n 0, 1) := by decide +kernel
theorem dX9_undo_46 : decode cX9_undo 46 = .ok (.getfield 7, 3) := by decide +kernel
theorem dX9_undo_49 : decode cX9_undo 49 = .ok (.iconst 0, 1) := by decide +kernel
theorem dX9_undo_50 : decode cX9_undo 50 = .ok (.bipush 76, 2) := by decide +kernel
theorem dX9_undo_52 : decode cX9_undo 52 = .ok (.invokestatic 65, 3) := by decide +kernel
theorem dX9_undo_55 : decode cX9_undo 55 = .ok (.aload_n 0, 1) := by decide +kernel
theorem dX9_undo_56 : decode cX9_undo 56 = .ok (.getfield 61, 3) := by decide +kernel
theorem dX9_undo_59 : decode cX9_undo 59 = .ok (.ireturn, 1) := by decide +kernel
set_option maxRecDepth 20000 in
theorem ggX9_write_X9_isItem : GoodIn wsX9_write wsX9_isItem := goodIn_r _ [10, 11, 12, 13, 9, 14, 15, 16, 17, 18, 19, 20, 21, 22, 23, 24, 25, 26, 27, 28, 29, 30, 31] (by decide +kernel) (by decide +kernel)
set_option maxRecDepth 20000 in
theorem gX9_write_X9_isItem : GoodIn wsX9_write (wsV RX9 89 RX9 yX9_isItem wsX9_isItem) := goodIn_app (goodIn_of _ (by decide +kernel)) ggX9_write_X9_isItem
theorem dX9_write_0 : decode cX9_write 0 = .ok (.aload_n 0, 1) := by decide +kernel
theorem dX9_write_1 : decode cX9_write 1 = .ok (.iload_n 1, 1) := by decide +kernel
theorem dX9_write_2 : decode cX9_write 2 = .ok (.invokevirtual 89, 3) := by decide +kernel
theorem dX9_write_5 : decode cX9_write 5 = .ok (.ifCond .ne 6, 3) := by decide +kernel
theorem dX9_write_8 : decode cX9_write 8 = .ok (.ldc 93, 2) := by decide +kernel
theorem dX9_write_10 : decode cX9_write 10 = .ok (.ireturn, 1) := by decide +kernel
theorem dX9_write_11 : decode cX9_write 11 = .ok (.aload_n 0, 1) := by decide +kernel
theorem dX9_write_12 : decode cX9_write 12 = .ok (.getfield 143, 3) := by decide +kernel
theorem dX9_write_15 : decode cX9_write 15 = .ok (.bipush 20, 2) := by decide +kernel
theorem dX9_write_17 : decode cX9_write 17 = .ok (.if_icmp .ne 6, 3) := by decide +kernel
theorem dX9_write_20 : decode cX9_write 20 = .ok (.ldc 188, 2) := by decide +kernel
theorem dX9_write_22 : decode cX9_write 22 = .ok (.ireturn, 1) := by decide +kernel
theorem dX9_write_23 : decode cX9_write 23 = .ok (.aload_n 0, 1) := by decide +kernel
theorem dX9_write_24 : decode cX9_write 24 = .ok (.getfield 23, 3) := by decide +kernel
theorem dX9_write_27 : decode cX9_write 27 = .ok (.aload_n 0, 1) := by decide +kernel
theorem dX9_write_28 : decode cX9_write 28 = .ok (.getfield 143, 3) := by decide +kernel
theorem dX9_write_31 : decode cX9_write 31 = .ok (.iload_n 1, 1) := by decide +kernel
theorem dX9_write_32 : decode cX9_write 32 = .ok (.iastore, 1) := by decide +kernel
theorem dX9_write_33 : decode cX9_write 33 = .ok (.aload_n 0, 1) := by decide +kernel
theorem dX9_write_34 : decode cX9_write 34 = .ok (.getfield 26, 3) := by decide +kernel
theorem dX9_write_37 : decode cX9_write 37 = .ok (.aload_n 0, 1) := by decide +kernel
theorem dX9_write_38 : decode cX9_write 38 = .ok (.getfield 143, 3) := by decide +kernel
theorem dX9_write_41 : decode cX9_write 41 = .ok (.iload_n 2, 1) := by decide +kernel
theorem dX9_write_42 : decode cX9_write 42 = .ok (.iastore, 1) := by decide +kernel
theorem dX9_write_43 : decode cX9_write 43 = .ok (.aload_n 0, 1) := by decide +kernel
theorem dX9_write_44 : decode cX9_write 44 = .ok (.dup, 1) := by decide +kernel
theorem dX9_write_45 : decode cX9_write 45 = .ok (.getfield 143, 3) := by decide +kernel
theorem dX9_write_48 : decode cX9_write 48 = .ok (.iconst 1, 1) := by decide +kernel
theorem dX9_write_49 : decode cX9_write 49 = .ok (.iadd, 1) := by decide +kernel
theorem dX9_write_50 : decode cX9_write 50 = .ok (.putfield 143, 3) := by decide +kernel
theorem dX9_write_53 : decode cX9_write 53 = .ok (.aload_n 0, 1) := by decide +kernel
theorem dX9_write_54 : decode cX9_write 54 = .ok (.getfield 143, 3) := by decide +kernel
theorem dX9_write_57 : decode cX9_write 57 = .ok (.ireturn, 1) := by decide +kernel
theorem dX9_tear_0 : decode cX9_tear 0 = .ok (.aload_n 0, 1) := by decide +kernel
theorem dX9_tear_1 : decode cX9_tear 1 = .ok (.getfield 143, 3) := by decide +kernel
theorem dX9_tear_4 : decode cX9_tear 4 = .ok (.istore_n 1, 1) := by decide +kernel
theorem dX9_tear_5 : decode cX9_tear 5 = .ok (.aload_n 0, 1) := by decide +kernel
theorem dX9_tear_6 : decode cX9_tear 6 = .ok (.iconst 0, 1) := by decide +kernel
theorem dX9_tear_7 : decode cX9_tear 7 = .ok (.putfield 143, 3) := by decide +kernel
theorem dX9_tear_10 : decode cX9_tear 10 = .ok (.iload_n 1, 1) := by decide +kernel
theorem dX9_tear_11 : decode cX9_tear 11 = .ok (.ireturn, 1) := by decide +kernel
theorem dX9_seed_0 : decode cX9_seed 0 = .ok (.iload_n 1, 1) := by decide +kernel
theorem dX9_seed_1 : decode cX9_seed 1 = .ok (.ifCond .ge 6, 3) := by decide +kernel
theorem dX9_seed_4 : decode cX9_seed 4 = .ok (.ldc 94, 2) := by decide +kernel
theorem dX9_seed_6 : decode cX9_seed 6 = .ok (.ireturn, 1) := by decide +kernel
theorem dX9_seed_7 : decode cX9_seed 7 = .ok (.aload_n 0, 1) := by decide +kernel
theorem dX9_seed_8 : decode cX9_seed 8 = .ok (.getfield 158, 3) := by decide +kernel
theorem dX9_seed_11 : decode cX9_seed 11 = .ok (.istore_n 2, 1) := by decide +kernel
theorem dX9_seed_12 : decode cX9_seed 12 = .ok (.aload_n 0, 1) := by decide +kernel
theorem dX9_seed_13 : decode cX9_seed 13 = .ok (.iload_n 1, 1) := by decide +kernel
theorem dX9_seed_14 : decode cX9_seed 14 = .ok (.putfield 158, 3) := by decide +kernel
theorem dX9_seed_17 : decode cX9_seed 17 = .ok (.iload_n 2, 1) := by decide +kernel
theorem dX9_seed_18 : decode cX9_seed 18 = .ok (.ireturn, 1) := by decide +kernel
set_option maxRecDepth 20000 in
theorem ggX9_keep_X9_in : GoodIn wsX9_keep wsX9_in := goodIn_r _ [10] (by decide +kernel) (by decide +kernel)
set_option maxRecDepth 20000 in
theorem gX9_keep_X9_in : GoodIn wsX9_keep (va_wsS RX9 57 yX9_in wsX9_in) := goodIn_app (goodIn_of _ (by decide +kernel)) ggX9_keep_X9_in
set_option maxRecDepth 20000 in
theorem ggX9_keep_X9_bring : GoodIn wsX9_keep wsX9_bring := goodIn_r _ [13] (by decide +kernel) (by decide +kernel)
set_option maxRecDepth 20000 in
theorem gX9_keep_X9_bring : GoodIn wsX9_keep (va_wsS RX9 65 yX9_bring wsX9_bring) := goodIn_app (goodIn_of _ (by decide +kernel)) ggX9_keep_X9_bring
theorem dX9_keep_0 : decode cX9_keep 0 = .ok (.iload_n 1, 1) := by decide +kernel
theorem dX9_keep_1 : decode cX9_keep 1 = .ok (.iconst 0, 1) := by decide +kernel
theorem dX9_keep_2 : decode cX9_keep 2 = .ok (.iconst 1, 1) := by decide +kernel
theorem dX9_keep_3 : decode cX9_keep 3 = .ok (.invokestatic 57, 3) := by decide +kernel
theorem dX9_keep_6 : decode cX9_keep 6 = .ok (.ifCond .ne 6, 3) := by decide +kernel
theorem dX9_keep_9 : decode cX9_keep 9 = .ok (.ldc 93, 2) := by decide +kernel
theorem dX9_keep_11 : decode cX9_keep 11 = .ok (.ireturn, 1) := by decide +kernel
theorem dX9_keep_12 : decode cX9_keep 12 = .ok (.aload_n 0, 1) := by decide +kernel
theorem dX9_keep_13 : decode cX9_keep 13 = .ok (.getfield 19, 3) := by decide +kernel
theorem dX9_keep_16 : decode cX9_keep 16 = .ok (.iload_n 1, 1) := by decide +kernel
theorem dX9_keep_17 : decode cX9_keep 17 = .ok (.iconst 1, 1) := by decide +kernel
theorem dX9_keep_18 : decode cX9_keep 18 = .ok (.bastore, 1) := by decide +kernel
theorem dX9_keep_19 : decode cX9_keep 19 = .ok (.aload_n 0, 1) := by decide +kernel
theorem dX9_keep_20 : decode cX9_keep 20 = .ok (.getfield 7, 3) := by decide +kernel
theorem dX9_keep_23 : decode cX9_keep 23 = .ok (.iconst 0, 1) := by decide +kernel
theorem dX9_keep_24 : decode cX9_keep 24 = .ok (.aload_n 0, 1) := by decide +kernel
theorem dX9_keep_25 : decode cX9_keep 25 = .ok (.getfield 16, 3) := by decide +kernel
theorem dX9_keep_28 : decode cX9_keep 28 = .ok (.bipush 77, 2) := by decide +kernel
theorem dX9_keep_30 : decode cX9_keep 30 = .ok (.iload_n 1, 1) := by decide +kernel
theorem dX9_keep_31 : decode cX9_keep 31 = .ok (.imul, 1) := by decide +kernel
theorem dX9_keep_32 : decode cX9_keep 32 = .ok (.bipush 76, 2) := by decide +kernel
theorem dX9_keep_34 : decode cX9_keep 34 = .ok (.invokestatic 65, 3) := by decide +kernel
theorem dX9_keep_37 : decode cX9_keep 37 = .ok (.aload_n 0, 1) := by decide +kernel
theorem dX9_keep_38 : decode cX9_keep 38 = .ok (.getfield 16, 3) := by decide +kernel
theorem dX9_keep_41 : decode cX9_keep 41 = .ok (.bipush 77, 2) := by decide +kernel
theorem dX9_keep_43 : decode cX9_keep 43 = .ok (.iload_n 1, 1) := by decide +kernel
theorem dX9_keep_44 : decode cX9_keep 44 = .ok (.imul, 1) := by decide +kernel
theorem dX9_keep_45 : decode cX9_keep 45 = .ok (.bipush 76, 2) := by decide +kernel
theorem dX9_keep_47 : decode cX9_keep 47 = .ok (.iadd, 1) := by decide +kernel
theorem dX9_keep_48 : decode cX9_keep 48 = .ok (.aload_n 0, 1) := by decide +kernel
theorem dX9_keep_49 : decode cX9_keep 49 = .ok (.getfield 158, 3) := by decide +kernel
theorem dX9_keep_52 : decode cX9_keep 52 = .ok (.iastore, 1) := by decide +kernel
theorem dX9_keep_53 : decode cX9_keep 53 = .ok (.aload_n 0, 1) := by decide +kernel
theorem dX9_keep_54 : decode cX9_keep 54 = .ok (.iconst 0, 1) := by decide +kernel
theorem dX9_keep_55 : decode cX9_keep 55 = .ok (.putfield 61, 3) := by decide +kernel
theorem dX9_keep_58 : decode cX9_keep 58 = .ok (.iconst 1, 1) := by decide +kernel
theorem dX9_keep_59 : decode cX9_keep 59 = .ok (.ireturn, 1) := by decide +kernel
set_option maxRecDepth 20000 in
theorem ggX9_goBack_X9_in : GoodIn wsX9_goBack wsX9_in := goodIn_r _ [11] (by decide +kernel) (by decide +kernel)
set_option maxRecDepth 20000 in
theorem gX9_goBack_X9_in : GoodIn wsX9_goBack (va_wsS RX9 57 yX9_in wsX9_in) := goodIn_app (goodIn_of _ (by decide +kernel)) ggX9_goBack_X9_in
set_option maxRecDepth 20000 in
theorem ggX9_goBack_X9_bring : GoodIn wsX9_goBack wsX9_bring := goodIn_r _ [14] (by decide +kernel) (by decide +kernel)
set_option maxRecDepth 20000 in
theorem gX9_goBack_X9_bring : GoodIn wsX9_goBack (va_wsS RX9 65 yX9_bring wsX9_bring) := goodIn_app (goodIn_of _ (by decide +kernel)) ggX9_goBack_X9_bring
theorem dX9_goBack_0 : decode cX9_goBack 0 = .ok (.iload_n 1, 1) := by decide +kernel
theorem dX9_goBack_1 : decode cX9_goBack 1 = .ok (.iconst 0, 1) := by decide +kernel
theorem dX9_goBack_2 : decode cX9_goBack 2 = .ok (.iconst 1, 1) := by decide +kernel
theorem dX9_goBack_3 : decode cX9_goBack 3 = .ok (.invokestatic 57, 3) := by decide +kernel
theorem dX9_goBack_6 : decode cX9_goBack 6 = .ok (.ifCond .ne 6, 3) := by decide +kernel
theorem dX9_goBack_9 : decode cX9_goBack 9 = .ok (.ldc 93, 2) := by decide +kernel
theorem dX9_goBack_11 : decode cX9_goBack 11 = .ok (.ireturn, 1) := by decide +kernel
theorem dX9_goBack_12 : decode cX9_goBack 12 = .ok (.aload_n 0, 1) := by decide +kernel
theorem dX9_goBack_13 : decode cX9_goBack 13 = .ok (.getfield 19, 3) := by decide +kernel
theorem dX9_goBack_16 : decode cX9_goBack 16 = .ok (.iload_n 1, 1) := by decide +kernel
theorem dX9_goBack_17 : decode cX9_goBack 17 = .ok (.baload, 1) := by decide +kernel
theorem dX9_goBack_18 : decode cX9_goBack 18 = .ok (.ifCond .ne 6, 3) := by decide +kernel
theorem dX9_goBack_21 : decode cX9_goBack 21 = .ok (.ldc 187, 2) := by decide +kernel
theorem dX9_goBack_23 : decode cX9_goBack 23 = .ok (.ireturn, 1) := by decide +kernel
theorem dX9_goBack_24 : decode cX9_goBack 24 = .ok (.aload_n 0, 1) := by decide +kernel
theorem dX9_goBack_25 : decode cX9_goBack 25 = .ok (.getfield 16, 3) := by decide +kernel
theorem dX9_goBack_28 : decode cX9_goBack 28 = .ok (.bipush 77, 2) := by decide +kernel
theorem dX9_goBack_30 : decode cX9_goBack 30 = .ok (.iload_n 1, 1) := by decide +kernel
theorem dX9_goBack_31 : decode cX9_goBack 31 = .ok (.imul, 1) := by decide +kernel
theorem dX9_goBack_32 : decode cX9_goBack 32 = .ok (.aload_n 0, 1) := by decide +kernel
theorem dX9_goBack_33 : decode cX9_goBack 33 = .ok (.getfield 7, 3) := by decide +kernel
theorem dX9_goBack_36 : decode cX9_goBack 36 = .ok (.iconst 0, 1) := by decide +kernel
theorem dX9_goBack_37 : decode cX9_goBack 37 = .ok (.bipush 76, 2) := by decide +kernel
theorem dX9_goBack_39 : decode cX9_goBack 39 = .ok (.invokestatic 65, 3) := by decide +kernel
theorem dX9_goBack_42 : decode cX9_goBack 42 = .ok (.aload_n 0, 1) := by decide +kernel
theorem dX9_goBack_43 : decode cX9_goBack 43 = .ok (.aload_n 0, 1) := by decide +kernel
theorem dX9_goBack_44 : decode cX9_goBack 44 = .ok (.getfield 16, 3) := by decide +kernel
theorem dX9_goBack_47 : decode cX9_goBack 47 = .ok (.bipush 77, 2) := by decide +kernel
theorem dX9_goBack_49 : decode cX9_goBack 49 = .ok (.iload_n 1, 1) := by decide +kernel
theorem dX9_goBack_50 : decode cX9_goBack 50 = .ok (.imul, 1) := by decide +kernel
theorem dX9_goBack_51 : decode cX9_goBack 51 = .ok (.bipush 76, 2) := by decide +kernel
theorem dX9_goBack_53 : decode cX9_goBack 53 = .ok (.iadd, 1) := by decide +kernel
theorem dX9_goBack_54 : decode cX9_goBack 54 = .ok (.iaload, 1) := by decide +kernel
theorem dX9_goBack_55 : decode cX9_goBack 55 = .ok (.putfield 158, 3) := by decide +kernel
theorem dX9_goBack_58 : decode cX9_goBack 58 = .ok (.aload_n 0, 1) := by decide +kernel
theorem dX9_goBack_59 : decode cX9_goBack 59 = .ok (.iconst 0, 1) := by decide +kernel
theorem dX9_goBack_60 : decode cX9_goBack 60 = .ok (.putfield 61, 3) := by decide +kernel
theorem dX9_goBack_63 : decode cX9_goBack 63 = .ok (.iconst 1, 1) := by decide +kernel
theorem dX9_goBack_64 : decode cX9_goBack 64 = .ok (.ireturn, 1) := by decide +kernel
theorem dJ6_numberOfTrailingZeros_0f7a4_0 : decode cJ6_numberOfTrailingZeros_0f7a4 0 = .ok (.iload_n 0, 1) := by decide +kernel
theorem dJ6_numberOfTrailingZeros_0f7a4_1 : decode cJ6_numberOfTrailingZeros_0f7a4 1 = .ok (.iconst (-1), 1) := by decide +kernel
theorem dJ6_numberOfTrailingZeros_0f7a4_2 : decode cJ6_numberOfTrailingZeros_0f7a4 2 = .ok (.ixor, 1) := by decide +kernel
theorem dJ6_numberOfTrailingZeros_0f7a4_3 : decode cJ6_numberOfTrailingZeros_0f7a4 3 = .ok (.iload_n 0, 1) := by decide +kernel
theorem dJ6_numberOfTrailingZeros_0f7a4_4 : decode cJ6_numberOfTrailingZeros_0f7a4 4 = .ok (.iconst 1, 1) := by decide +kernel
theorem dJ6_numberOfTrailingZeros_0f7a4_5 : decode cJ6_numberOfTrailingZeros_0f7a4 5 = .ok (.isub, 1) := by decide +kernel
theorem dJ6_numberOfTrailingZeros_0f7a4_6 : decode cJ6_numberOfTrailingZeros_0f7a4 6 = .ok (.iand, 1) := by decide +kernel
theorem dJ6_numberOfTrailingZeros_0f7a4_7 : decode cJ6_numberOfTrailingZeros_0f7a4 7 = .ok (.istore_n 0, 1) := by decide +kernel
theorem dJ6_numberOfTrailingZeros_0f7a4_8 : decode cJ6_numberOfTrailingZeros_0f7a4 8 = .ok (.iload_n 0, 1) := by decide +kernel
theorem dJ6_numberOfTrailingZeros_0f7a4_9 : decode cJ6_numberOfTrailingZeros_0f7a4 9 = .ok (.ifCond .gt 8, 3) := by decide +kernel
theorem dJ6_numberOfTrailingZeros_0f7a4_12 : decode cJ6_numberOfTrailingZeros_0f7a4 12 = .ok (.iload_n 0, 1) := by decide +kernel
theorem dJ6_numberOfTrailingZeros_0f7a4_13 : decode cJ6_numberOfTrailingZeros_0f7a4 13 = .ok (.bipush 32, 2) := by decide +kernel
theorem dJ6_numberOfTrailingZeros_0f7a4_15 : decode cJ6_numberOfTrailingZeros_0f7a4 15 = .ok (.iand, 1) := by decide +kernel
theorem dJ6_numberOfTrailingZeros_0f7a4_16 : decode cJ6_numberOfTrailingZeros_0f7a4 16 = .ok (.ireturn, 1) := by decide +kernel
theorem dJ6_numberOfTrailingZeros_0f7a4_17 : decode cJ6_numberOfTrailingZeros_0f7a4 17 = .ok (.iconst 1, 1) := by decide +kernel
theorem dJ6_numberOfTrailingZeros_0f7a4_18 : decode cJ6_numberOfTrailingZeros_0f7a4 18 = .ok (.istore_n 1, 1) := by decide +kernel
theorem dJ6_numberOfTrailingZeros_0f7a4_19 : decode cJ6_numberOfTrailingZeros_0f7a4 19 = .ok (.iload_n 0, 1) := by decide +kernel
theorem dJ6_numberOfTrailingZeros_0f7a4_20 : decode cJ6_numberOfTrailingZeros_0f7a4 20 = .ok (.ldc_w 264, 3) := by decide +kernel
theorem dJ6_numberOfTrailingZeros_0f7a4_23 : decode cJ6_numberOfTrailingZeros_0f7a4 23 = .ok (.if_icmp .le 11, 3) := by decide +kernel
theorem dJ6_numberOfTrailingZeros_0f7a4_26 : decode cJ6_numberOfTrailingZeros_0f7a4 26 = .ok (.iinc 1 16, 3) := by decide +kernel
theorem dJ6_numberOfTrailingZeros_0f7a4_29 : decode cJ6_numberOfTrailingZeros_0f7a4 29 = .ok (.iload_n 0, 1) := by decide +kernel
theorem dJ6_numberOfTrailingZeros_0f7a4_30 : decode cJ6_numberOfTrailingZeros_0f7a4 30 = .ok (.bipush 16, 2) := by decide +kernel
theorem dJ6_numberOfTrailingZeros_0f7a4_32 : decode cJ6_numberOfTrailingZeros_0f7a4 32 = .ok (.iushr, 1) := by decide +kernel
theorem dJ6_numberOfTrailingZeros_0f7a4_33 : decode cJ6_numberOfTrailingZeros_0f7a4 33 = .ok (.istore_n 0, 1) := by decide +kernel
theorem dJ6_numberOfTrailingZeros_0f7a4_34 : decode cJ6_numberOfTrailingZeros_0f7a4 34 = .ok (.iload_n 0, 1) := by decide +kernel
theorem dJ6_numberOfTrailingZeros_0f7a4_35 : decode cJ6_numberOfTrailingZeros_0f7a4 35 = .ok (.sipush 256, 3) := by decide +kernel
theorem dJ6_numberOfTrailingZeros_0f7a4_38 : decode cJ6_numberOfTrailingZeros_0f7a4 38 = .ok (.if_icmp .le 11, 3) := by decide +kernel
theorem dJ6_numberOfTrailingZeros_0f7a4_41 : decode cJ6_numberOfTrailingZeros_0f7a4 41 = .ok (.iinc 1 8, 3) := by decide +kernel
theorem dJ6_numberOfTrailingZeros_0f7a4_44 : decode cJ6_numberOfTrailingZeros_0f7a4 44 = .ok (.iload_n 0, 1) := by decide +kernel
theorem dJ6_numberOfTrailingZeros_0f7a4_45 : decode cJ6_numberOfTrailingZeros_0f7a4 45 = .ok (.bipush 8, 2) := by decide +kernel
theorem dJ6_numberOfTrailingZeros_0f7a4_47 : decode cJ6_numberOfTrailingZeros_0f7a4 47 = .ok (.iushr, 1) := by decide +kernel
theorem dJ6_numberOfTrailingZeros_0f7a4_48 : decode cJ6_numberOfTrailingZeros_0f7a4 48 = .ok (.istore_n 0, 1) := by decide +kernel
theorem dJ6_numberOfTrailingZeros_0f7a4_49 : decode cJ6_numberOfTrailingZeros_0f7a4 49 = .ok (.iload_n 0, 1) := by decide +kernel
theorem dJ6_numberOfTrailingZeros_0f7a4_50 : decode cJ6_numberOfTrailingZeros_0f7a4 50 = .ok (.bipush 16, 2) := by decide +kernel
theorem dJ6_numberOfTrailingZeros_0f7a4_52 : decode cJ6_numberOfTrailingZeros_0f7a4 52 = .ok (.if_icmp .le 10, 3) := by decide +kernel
theorem dJ6_numberOfTrailingZeros_0f7a4_55 : decode cJ6_numberOfTrailingZeros_0f7a4 55 = .ok (.iinc 1 4, 3) := by decide +kernel
theorem dJ6_numberOfTrailingZeros_0f7a4_58 : decode cJ6_numberOfTrailingZeros_0f7a4 58 = .ok (.iload_n 0, 1) := by decide +kernel
theorem dJ6_numberOfTrailingZeros_0f7a4_59 : decode cJ6_numberOfTrailingZeros_0f7a4 59 = .ok (.iconst 4, 1) := by decide +kernel
theorem dJ6_numberOfTrailingZeros_0f7a4_60 : decode cJ6_numberOfTrailingZeros_0f7a4 60 = .ok (.iushr, 1) := by decide +kernel
theorem dJ6_numberOfTrailingZeros_0f7a4_61 : decode cJ6_numberOfTrailingZeros_0f7a4 61 = .ok (.istore_n 0, 1) := by decide +kernel
theorem dJ6_numberOfTrailingZeros_0f7a4_62 : decode cJ6_numberOfTrailingZeros_0f7a4 62 = .ok (.iload_n 0, 1) := by decide +kernel
theorem dJ6_numberOfTrailingZeros_0f7a4_63 : decode cJ6_numberOfTrailingZeros_0f7a4 63 = .ok (.iconst 4, 1) := by decide +kernel
theorem dJ6_numberOfTrailingZeros_0f7a4_64 : decode cJ6_numberOfTrailingZeros_0f7a4 64 = .ok (.if_icmp .le 10, 3) := by decide +kernel
theorem dJ6_numberOfTrailingZeros_0f7a4_67 : decode cJ6_numberOfTrailingZeros_0f7a4 67 = .ok (.iinc 1 2, 3) := by decide +kernel
theorem dJ6_numberOfTrailingZeros_0f7a4_70 : decode cJ6_numberOfTrailingZeros_0f7a4 70 = .ok (.iload_n 0, 1) := by decide +kernel
theorem dJ6_numberOfTrailingZeros_0f7a4_71 : decode cJ6_numberOfTrailingZeros_0f7a4 71 = .ok (.iconst 2, 1) := by decide +kernel
theorem dJ6_numberOfTrailingZeros_0f7a4_72 : decode cJ6_numberOfTrailingZeros_0f7a4 72 = .ok (.iushr, 1) := by decide +kernel
theorem dJ6_numberOfTrailingZeros_0f7a4_73 : decode cJ6_numberOfTrailingZeros_0f7a4 73 = .ok (.istore_n 0, 1) := by decide +kernel
theorem dJ6_numberOfTrailingZeros_0f7a4_74 : decode cJ6_numberOfTrailingZeros_0f7a4 74 = .ok (.iload_n 1, 1) := by decide +kernel
theorem dJ6_numberOfTrailingZeros_0f7a4_75 : decode cJ6_numberOfTrailingZeros_0f7a4 75 = .ok (.iload_n 0, 1) := by decide +kernel
theorem dJ6_numberOfTrailingZeros_0f7a4_76 : decode cJ6_numberOfTrailingZeros_0f7a4 76 = .ok (.iconst 1, 1) := by decide +kernel
theorem dJ6_numberOfTrailingZeros_0f7a4_77 : decode cJ6_numberOfTrailingZeros_0f7a4 77 = .ok (.iushr, 1) := by decide +kernel
theorem dJ6_numberOfTrailingZeros_0f7a4_78 : decode cJ6_numberOfTrailingZeros_0f7a4 78 = .ok (.iadd, 1) := by decide +kernel
theorem dJ6_numberOfTrailingZeros_0f7a4_79 : decode cJ6_numberOfTrailingZeros_0f7a4 79 = .ok (.ireturn, 1) := by decide +kernel
theorem dJ6_bitCount_0f7a4_0 : decode cJ6_bitCount_0f7a4 0 = .ok (.iload_n 0, 1) := by decide +kernel
theorem dJ6_bitCount_0f7a4_1 : decode cJ6_bitCount_0f7a4 1 = .ok (.iload_n 0, 1) := by decide +kernel
theorem dJ6_bitCount_0f7a4_2 : decode cJ6_bitCount_0f7a4 2 = .ok (.iconst 1, 1) := by decide +kernel
theorem dJ6_bitCount_0f7a4_3 : decode cJ6_bitCount_0f7a4 3 = .ok (.iushr, 1) := by decide +kernel
theorem dJ6_bitCount_0f7a4_4 : decode cJ6_bitCount_0f7a4 4 = .ok (.ldc_w 265, 3) := by decide +kernel
theorem dJ6_bitCount_0f7a4_7 : decode cJ6_bitCount_0f7a4 7 = .ok (.iand, 1) := by decide +kernel
theorem dJ6_bitCount_0f7a4_8 : decode cJ6_bitCount_0f7a4 8 = .ok (.isub, 1) := by decide +kernel
theorem dJ6_bitCount_0f7a4_9 : decode cJ6_bitCount_0f7a4 9 = .ok (.istore_n 0, 1) := by decide +kernel
theorem dJ6_bitCount_0f7a4_10 : decode cJ6_bitCount_0f7a4 10 = .ok (.iload_n 0, 1) := by decide +kernel
theorem dJ6_bitCount_0f7a4_11 : decode cJ6_bitCount_0f7a4 11 = .ok (.ldc_w 266, 3) := by decide +kernel
theorem dJ6_bitCount_0f7a4_14 : decode cJ6_bitCount_0f7a4 14 = .ok (.iand, 1) := by decide +kernel
theorem dJ6_bitCount_0f7a4_15 : decode cJ6_bitCount_0f7a4 15 = .ok (.iload_n 0, 1) := by decide +kernel
theorem dJ6_bitCount_0f7a4_16 : decode cJ6_bitCount_0f7a4 16 = .ok (.iconst 2, 1) := by decide +kernel
theorem dJ6_bitCount_0f7a4_17 : decode cJ6_bitCount_0f7a4 17 = .ok (.iushr, 1) := by decide +kernel
theorem dJ6_bitCount_0f7a4_18 : decode cJ6_bitCount_0f7a4 18 = .ok (.ldc_w 266, 3) := by decide +kernel
theorem dJ6_bitCount_0f7a4_21 : decode cJ6_bitCount_0f7a4 21 = .ok (.iand, 1) := by decide +kernel
theorem dJ6_bitCount_0f7a4_22 : decode cJ6_bitCount_0f7a4 22 = .ok (.iadd, 1) := by decide +kernel
theorem dJ6_bitCount_0f7a4_23 : decode cJ6_bitCount_0f7a4 23 = .ok (.istore_n 0, 1) := by decide +kernel
theorem dJ6_bitCount_0f7a4_24 : decode cJ6_bitCount_0f7a4 24 = .ok (.iload_n 0, 1) := by decide +kernel
theorem dJ6_bitCount_0f7a4_25 : decode cJ6_bitCount_0f7a4 25 = .ok (.iload_n 0, 1) := by decide +kernel
theorem dJ6_bitCount_0f7a4_26 : decode cJ6_bitCount_0f7a4 26 = .ok (.iconst 4, 1) := by decide +kernel
theorem dJ6_bitCount_0f7a4_27 : decode cJ6_bitCount_0f7a4 27 = .ok (.iushr, 1) := by decide +kernel
theorem dJ6_bitCount_0f7a4_28 : decode cJ6_bitCount_0f7a4 28 = .ok (.iadd, 1) := by decide +kernel
theorem dJ6_bitCount_0f7a4_29 : decode cJ6_bitCount_0f7a4 29 = .ok (.ldc_w 267, 3) := by decide +kernel
theorem dJ6_bitCount_0f7a4_32 : decode cJ6_bitCount_0f7a4 32 = .ok (.iand, 1) := by decide +kernel
theorem dJ6_bitCount_0f7a4_33 : decode cJ6_bitCount_0f7a4 33 = .ok (.istore_n 0, 1) := by decide +kernel
theorem dJ6_bitCount_0f7a4_34 : decode cJ6_bitCount_0f7a4 34 = .ok (.iload_n 0, 1) := by decide +kernel
theorem dJ6_bitCount_0f7a4_35 : decode cJ6_bitCount_0f7a4 35 = .ok (.iload_n 0, 1) := by decide +kernel
theorem dJ6_bitCount_0f7a4_36 : decode cJ6_bitCount_0f7a4 36 = .ok (.bipush 8, 2) := by decide +kernel
theorem dJ6_bitCount_0f7a4_38 : decode cJ6_bitCount_0f7a4 38 = .ok (.iushr, 1) := by decide +kernel
theorem dJ6_bitCount_0f7a4_39 : decode cJ6_bitCount_0f7a4 39 = .ok (.iadd, 1) := by decide +kernel
theorem dJ6_bitCount_0f7a4_40 : decode cJ6_bitCount_0f7a4 40 = .ok (.istore_n 0, 1) := by decide +kernel
theorem dJ6_bitCount_0f7a4_41 : decode cJ6_bitCount_0f7a4 41 = .ok (.iload_n 0, 1) := by decide +kernel
theorem dJ6_bitCount_0f7a4_42 : decode cJ6_bitCount_0f7a4 42 = .ok (.iload_n 0, 1) := by decide +kernel
theorem dJ6_bitCount_0f7a4_43 : decode cJ6_bitCount_0f7a4 43 = .ok (.bipush 16, 2) := by decide +kernel
theorem dJ6_bitCount_0f7a4_45 : decode cJ6_bitCount_0f7a4 45 = .ok (.iushr, 1) := by decide +kernel
theorem dJ6_bitCount_0f7a4_46 : decode cJ6_bitCount_0f7a4 46 = .ok (.iadd, 1) := by decide +kernel
theorem dJ6_bitCount_0f7a4_47 : decode cJ6_bitCount_0f7a4 47 = .ok (.istore_n 0, 1) := by decide +kernel
theorem dJ6_bitCount_0f7a4_48 : decode cJ6_bitCount_0f7a4 48 = .ok (.iload_n 0, 1) := by decide +kernel
theorem dJ6_bitCount_0f7a4_49 : decode cJ6_bitCount_0f7a4 49 = .ok (.bipush 63, 2) := by decide +kernel
theorem dJ6_bitCount_0f7a4_51 : decode cJ6_bitCount_0f7a4 51 = .ok (.iand, 1) := by decide +kernel
theorem dJ6_bitCount_0f7a4_52 : decode cJ6_bitCount_0f7a4 52 = .ok (.ireturn, 1) := by decide +kernel
theorem dJ9_floorMod_7cf53_0 : decode cJ9_floorMod_7cf53 0 = .ok (.iload_n 0, 1) := by decide +kernel
theorem dJ9_floorMod_7cf53_1 : decode cJ9_floorMod_7cf53 1 = .ok (.iload_n 1, 1) := by decide +kernel
theorem dJ9_floorMod_7cf53_2 : decode cJ9_floorMod_7cf53 2 = .ok (.irem, 1) := by decide +kernel
theorem dJ9_floorMod_7cf53_3 : decode cJ9_floorMod_7cf53 3 = .ok (.istore_n 2, 1) := by decide +kernel
theorem dJ9_floorMod_7cf53_4 : decode cJ9_floorMod_7cf53 4 = .ok (.iload_n 0, 1) := by decide +kernel
theorem dJ9_floorMod_7cf53_5 : decode cJ9_floorMod_7cf53 5 = .ok (.iload_n 1, 1) := by decide +kernel
theorem dJ9_floorMod_7cf53_6 : decode cJ9_floorMod_7cf53 6 = .ok (.ixor, 1) := by decide +kernel
theorem dJ9_floorMod_7cf53_7 : decode cJ9_floorMod_7cf53 7 = .ok (.ifCond .ge 11, 3) := by decide +kernel
theorem dJ9_floorMod_7cf53_10 : decode cJ9_floorMod_7cf53 10 = .ok (.iload_n 2, 1) := by decide +kernel
theorem dJ9_floorMod_7cf53_11 : decode cJ9_floorMod_7cf53 11 = .ok (.ifCond .eq 7, 3) := by decide +kernel
theorem dJ9_floorMod_7cf53_14 : decode cJ9_floorMod_7cf53 14 = .ok (.iload_n 2, 1) := by decide +kernel
theorem dJ9_floorMod_7cf53_15 : decode cJ9_floorMod_7cf53 15 = .ok (.iload_n 1, 1) := by decide +kernel
theorem dJ9_floorMod_7cf53_16 : decode cJ9_floorMod_7cf53 16 = .ok (.iadd, 1) := by decide +kernel
theorem dJ9_floorMod_7cf53_17 : decode cJ9_floorMod_7cf53 17 = .ok (.ireturn, 1) := by decide +kernel
theorem dJ9_floorMod_7cf53_18 : decode cJ9_floorMod_7cf53 18 = .ok (.iload_n 2, 1) := by decide +kernel
theorem dJ9_floorMod_7cf53_19 : decode cJ9_floorMod_7cf53 19 = .ok (.ireturn, 1) := by decide +kernel
theorem dJ9_max_7cf53_0 : decode cJ9_max_7cf53 0 = .ok (.iload_n 0, 1) := by decide +kernel
theorem dJ9_max_7cf53_1 : decode cJ9_max_7cf53 1 = .ok (.iload_n 1, 1) := by decide +kernel
theorem dJ9_max_7cf53_2 : decode cJ9_max_7cf53 2 = .ok (.if_icmp .lt 7, 3) := by decide +kernel
theorem dJ9_max_7cf53_5 : decode cJ9_max_7cf53 5 = .ok (.iload_n 0, 1) := by decide +kernel
theorem dJ9_max_7cf53_6 : decode cJ9_max_7cf53 6 = .ok (.goto 4, 3) := by decide +kernel
theorem dJ9_max_7cf53_9 : decode cJ9_max_7cf53 9 = .ok (.iload_n 1, 1) := by decide +kernel
theorem dJ9_max_7cf53_10 : decode cJ9_max_7cf53 10 = .ok (.ireturn, 1) := by decide +kernel
theorem dJ9_min_7cf53_0 : decode cJ9_min_7cf53 0 = .ok (.iload_n 0, 1) := by decide +kernel
theorem dJ9_min_7cf53_1 : decode cJ9_min_7cf53 1 = .ok (.iload_n 1, 1) := by decide +kernel
theorem dJ9_min_7cf53_2 : decode cJ9_min_7cf53 2 = .ok (.if_icmp .gt 7, 3) := by decide +kernel
theorem dJ9_min_7cf53_5 : decode cJ9_min_7cf53 5 = .ok (.iload_n 0, 1) := by decide +kernel
theorem dJ9_min_7cf53_6 : decode cJ9_min_7cf53 6 = .ok (.goto 4, 3) := by decide +kernel
theorem dJ9_min_7cf53_9 : decode cJ9_min_7cf53 9 = .ok (.iload_n 1, 1) := by decide +kernel
theorem dJ9_min_7cf53_10 : decode cJ9_min_7cf53 10 = .ok (.ireturn, 1) := by decide +kernel
theorem dJ7_fill_53178_0 : decode cJ7_fill_53178 0 = .ok (.iconst 0, 1) := by decide +kernel
theorem dJ7_fill_53178_1 : decode cJ7_fill_53178 1 = .ok (.istore_n 2, 1) := by decide +kernel
theorem dJ7_fill_53178_2 : decode cJ7_fill_53178 2 = .ok (.aload_n 0, 1) := by decide +kernel
theorem dJ7_fill_53178_3 : decode cJ7_fill_53178 3 = .ok (.arraylength, 1) := by decide +kernel
theorem dJ7_fill_53178_4 : decode cJ7_fill_53178 4 = .ok (.istore_n 3, 1) := by decide +kernel
theorem dJ7_fill_53178_5 : decode cJ7_fill_53178 5 = .ok (.iload_n 2, 1) := by decide +kernel
theorem dJ7_fill_53178_6 : decode cJ7_fill_53178 6 = .ok (.iload_n 3, 1) := by decide +kernel
theorem dJ7_fill_53178_7 : decode cJ7_fill_53178 7 = .ok (.if_icmp .ge 13, 3) := by decide +kernel
theorem dJ7_fill_53178_10 : decode cJ7_fill_53178 10 = .ok (.aload_n 0, 1) := by decide +kernel
theorem dJ7_fill_53178_11 : decode cJ7_fill_53178 11 = .ok (.iload_n 2, 1) := by decide +kernel
theorem dJ7_fill_53178_12 : decode cJ7_fill_53178 12 = .ok (.iload_n 1, 1) := by decide +kernel
theorem dJ7_fill_53178_13 : decode cJ7_fill_53178 13 = .ok (.iastore, 1) := by decide +kernel
theorem dJ7_fill_53178_14 : decode cJ7_fill_53178 14 = .ok (.iinc 2 1, 3) := by decide +kernel
theorem dJ7_fill_53178_17 : decode cJ7_fill_53178 17 = .ok (.goto (-12), 3) := by decide +kernel
theorem dJ7_fill_53178_20 : decode cJ7_fill_53178 20 = .ok (.return_, 1) := by decide +kernel
