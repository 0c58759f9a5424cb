theorem dX0_init_0 : decode cX0_init 0 = .ok (.aload_n 0, 1) := by decide +kernel
theorem dX0_init_1 : decode cX0_init 1 = .ok (.invokespecial 3, 3) := by decide +kernel
theorem dX0_init_4 : decode cX0_init 4 = .ok (.aload_n 0, 1) := by decide +kernel
theorem dX0_init_5 : decode cX0_init 5 = .ok (.bipush 20, 2) := by decide +kernel
theorem dX0_init_7 : decode cX0_init 7 = .ok (.newarray .int, 2) := by decide +kernel
theorem dX0_init_9 : decode cX0_init 9 = .ok (.putfield 9, 3) := by decide +kernel
theorem dX0_init_12 : decode cX0_init 12 = .ok (.aload_n 0, 1) := by decide +kernel
theorem dX0_init_13 : decode cX0_init 13 = .ok (.bipush 20, 2) := by decide +kernel
theorem dX0_init_15 : decode cX0_init 15 = .ok (.newarray .int, 2) := by decide +kernel
theorem dX0_init_17 : decode cX0_init 17 = .ok (.putfield 15, 3) := by decide +kernel
theorem dX0_init_20 : decode cX0_init 20 = .ok (.aload_n 0, 1) := by decide +kernel
theorem dX0_init_21 : decode cX0_init 21 = .ok (.iconst 0, 1) := by decide +kernel
theorem dX0_init_22 : decode cX0_init 22 = .ok (.putfield 18, 3) := by decide +kernel
theorem dX0_init_25 : decode cX0_init 25 = .ok (.return_, 1) := by decide +kernel
theorem dX0_append_0 : decode cX0_append 0 = .ok (.aload_n 0, 1) := by decide +kernel
theorem dX0_append_1 : decode cX0_append 1 = .ok (.getfield 18, 3) := by decide +kernel
theorem dX0_append_4 : decode cX0_append 4 = .ok (.bipush 20, 2) := by decide +kernel
theorem dX0_append_6 : decode cX0_append 6 = .ok (.if_icmp .ge 33, 3) := by decide +kernel
theorem dX0_append_9 : decode cX0_append 9 = .ok (.aload_n 0, 1) := by decide +kernel
theorem dX0_append_10 : decode cX0_append 10 = .ok (.getfield 9, 3) := by decide +kernel
theorem dX0_append_13 : decode cX0_append 13 = .ok (.aload_n 0, 1) := by decide +kernel
theorem dX0_append_14 : decode cX0_append 14 = .ok (.getfield 18, 3) := by decide +kernel
theorem dX0_append_17 : decode cX0_append 17 = .ok (.iload_n 1, 1) := by decide +kernel
theorem dX0_append_18 : decode cX0_append 18 = .ok (.iastore, 1) := by decide +kernel
theorem dX0_append_19 : decode cX0_append 19 = .ok (.aload_n 0, 1) := by decide +kernel
theorem dX0_append_20 : decode cX0_append 20 = .ok (.getfield 15, 3) := by decide +kernel
theorem dX0_append_23 : decode cX0_append 23 = .ok (.aload_n 0, 1) := by decide +kernel
theorem dX0_append_24 : decode cX0_append 24 = .ok (.getfield 18, 3) := by decide +kernel
theorem dX0_append_27 : decode cX0_append 27 = .ok (.iload_n 2, 1) := by decide +kernel
theorem dX0_append_28 : decode cX0_append 28 = .ok (.iastore, 1) := by decide +kernel
theorem dX0_append_29 : decode cX0_append 29 = .ok (.aload_n 0, 1) := by decide +kernel
theorem dX0_append_30 : decode cX0_append 30 = .ok (.dup, 1) := by decide +kernel
theorem dX0_append_31 : decode cX0_append 31 = .ok (.getfield 18, 3) := by decide +kernel
theorem dX0_append_34 : decode cX0_append 34 = .ok (.iconst 1, 1) := by decide +kernel
theorem dX0_append_35 : decode cX0_append 35 = .ok (.iadd, 1) := by decide +kernel
theorem dX0_append_36 : decode cX0_append 36 = .ok (.putfield 18, 3) := by decide +kernel
theorem dX0_append_39 : decode cX0_append 39 = .ok (.return_, 1) := by decide +kernel
set_option maxRecDepth 20000 in
theorem ggX0_firstWrong_X6_hasItem : GoodIn wsX0_firstWrong wsX6_hasItem := goodIn_r _ [9, 10, 21, 22, 23, 24, 25, 26, 27, 28] (by decide +kernel) (by decide +kernel)
set_option maxRecDepth 20000 in
theorem gX0_firstWrong_X6_hasItem : GoodIn wsX0_firstWrong (wsV RX0 22 RX6 yX6_hasItem wsX6_hasItem) := goodIn_app (goodIn_of _ (by decide +kernel)) ggX0_firstWrong_X6_hasItem
set_option maxRecDepth 20000 in
theorem ggX0_firstWrong_X5_placeOf : GoodIn wsX0_firstWrong wsX5_placeOf := goodIn_r _ [15, 16, 17, 29, 30] (by decide +kernel) (by decide +kernel)
set_option maxRecDepth 20000 in
theorem gX0_firstWrong_X5_placeOf : GoodIn wsX0_firstWrong (wsV RX0 32 RX5 yX5_placeOf wsX5_placeOf) := goodIn_app (goodIn_of _ (by decide +kernel)) ggX0_firstWrong_X5_placeOf
theorem dX0_firstWrong_0 : decode cX0_firstWrong 0 = .ok (.iconst 0, 1) := by decide +kernel
theorem dX0_firstWrong_1 : decode cX0_firstWrong 1 = .ok (.istore_n 2, 1) := by decide +kernel
theorem dX0_firstWrong_2 : decode cX0_firstWrong 2 = .ok (.iload_n 2, 1) := by decide +kernel
theorem dX0_firstWrong_3 : decode cX0_firstWrong 3 = .ok (.aload_n 0, 1) := by decide +kernel
theorem dX0_firstWrong_4 : decode cX0_firstWrong 4 = .ok (.getfield 18, 3) := by decide +kernel
theorem dX0_firstWrong_7 : decode cX0_firstWrong 7 = .ok (.if_icmp .ge 46, 3) := by decide +kernel
theorem dX0_firstWrong_10 : decode cX0_firstWrong 10 = .ok (.aload_n 1, 1) := by decide +kernel
theorem dX0_firstWrong_11 : decode cX0_firstWrong 11 = .ok (.aload_n 0, 1) := by decide +kernel
theorem dX0_firstWrong_12 : decode cX0_firstWrong 12 = .ok (.getfield 9, 3) := by decide +kernel
theorem dX0_firstWrong_15 : decode cX0_firstWrong 15 = .ok (.iload_n 2, 1) := by decide +kernel
theorem dX0_firstWrong_16 : decode cX0_firstWrong 16 = .ok (.iaload, 1) := by decide +kernel
theorem dX0_firstWrong_17 : decode cX0_firstWrong 17 = .ok (.invokevirtual 22, 3) := by decide +kernel
theorem dX0_firstWrong_20 : decode cX0_firstWrong 20 = .ok (.ifCond .eq 25, 3) := by decide +kernel
theorem dX0_firstWrong_23 : decode cX0_firstWrong 23 = .ok (.aload_n 1, 1) := by decide +kernel
theorem dX0_firstWrong_24 : decode cX0_firstWrong 24 = .ok (.getfield 28, 3) := by decide +kernel
theorem dX0_firstWrong_27 : decode cX0_firstWrong 27 = .ok (.aload_n 0, 1) := by decide +kernel
theorem dX0_firstWrong_28 : decode cX0_firstWrong 28 = .ok (.getfield 9, 3) := by decide +kernel
theorem dX0_firstWrong_31 : decode cX0_firstWrong 31 = .ok (.iload_n 2, 1) := by decide +kernel
theorem dX0_firstWrong_32 : decode cX0_firstWrong 32 = .ok (.iaload, 1) := by decide +kernel
theorem dX0_firstWrong_33 : decode cX0_firstWrong 33 = .ok (.invokevirtual 32, 3) := by decide +kernel
theorem dX0_firstWrong_36 : decode cX0_firstWrong 36 = .ok (.aload_n 0, 1) := by decide +kernel
theorem dX0_firstWrong_37 : decode cX0_firstWrong 37 = .ok (.getfield 15, 3) := by decide +kernel
theorem dX0_firstWrong_40 : decode cX0_firstWrong 40 = .ok (.iload_n 2, 1) := by decide +kernel
theorem dX0_firstWrong_41 : decode cX0_firstWrong 41 = .ok (.iaload, 1) := by decide +kernel
theorem dX0_firstWrong_42 : decode cX0_firstWrong 42 = .ok (.if_icmp .eq 5, 3) := by decide +kernel
theorem dX0_firstWrong_45 : decode cX0_firstWrong 45 = .ok (.iload_n 2, 1) := by decide +kernel
theorem dX0_firstWrong_46 : decode cX0_firstWrong 46 = .ok (.ireturn, 1) := by decide +kernel
theorem dX0_firstWrong_47 : decode cX0_firstWrong 47 = .ok (.iinc 2 1, 3) := by decide +kernel
theorem dX0_firstWrong_50 : decode cX0_firstWrong 50 = .ok (.goto (-48), 3) := by decide +kernel
theorem dX0_firstWrong_53 : decode cX0_firstWrong 53 = .ok (.iconst (-1), 1) := by decide +kernel
theorem dX0_firstWrong_54 : decode cX0_firstWrong 54 = .ok (.ireturn, 1) := by decide +kernel
theorem dX1_init_0 : decode cX1_init 0 = .ok (.aload_n 0, 1) := by decide +kernel
theorem dX1_init_1 : decode cX1_init 1 = .ok (.invokespecial 3, 3) := by decide +kernel
theorem dX1_init_4 : decode cX1_init 4 = .ok (.aload_n 0, 1) := by decide +kernel
theorem dX1_init_5 : decode cX1_init 5 = .ok (.iconst 0, 1) := by decide +kernel
theorem dX1_init_6 : decode cX1_init 6 = .ok (.putfield 9, 3) := by decide +kernel
theorem dX1_init_9 : decode cX1_init 9 = .ok (.return_, 1) := by decide +kernel
theorem dX1_draw_0 : decode cX1_draw 0 = .ok (.aload_n 0, 1) := by decide +kernel
theorem dX1_draw_1 : decode cX1_draw 1 = .ok (.aload_n 0, 1) := by decide +kernel
theorem dX1_draw_2 : decode cX1_draw 2 = .ok (.getfield 9, 3) := by decide +kernel
theorem dX1_draw_5 : decode cX1_draw 5 = .ok (.i2l, 1) := by decide +kernel
theorem dX1_draw_6 : decode cX1_draw 6 = .ok (.ldc2_w 15, 3) := by decide +kernel
theorem dX1_draw_9 : decode cX1_draw 9 = .ok (.lmul, 1) := by decide +kernel
theorem dX1_draw_10 : decode cX1_draw 10 = .ok (.ldc2_w 17, 3) := by decide +kernel
theorem dX1_draw_13 : decode cX1_draw 13 = .ok (.ladd, 1) := by decide +kernel
theorem dX1_draw_14 : decode cX1_draw 14 = .ok (.ldc2_w 19, 3) := by decide +kernel
theorem dX1_draw_17 : decode cX1_draw 17 = .ok (.land, 1) := by decide +kernel
theorem dX1_draw_18 : decode cX1_draw 18 = .ok (.l2i, 1) := by decide +kernel
theorem dX1_draw_19 : decode cX1_draw 19 = .ok (.putfield 9, 3) := by decide +kernel
theorem dX1_draw_22 : decode cX1_draw 22 = .ok (.iload_n 1, 1) := by decide +kernel
theorem dX1_draw_23 : decode cX1_draw 23 = .ok (.ifCond .le 15, 3) := by decide +kernel
theorem dX1_draw_26 : decode cX1_draw 26 = .ok (.aload_n 0, 1) := by decide +kernel
theorem dX1_draw_27 : decode cX1_draw 27 = .ok (.getfield 9, 3) := by decide +kernel
theorem dX1_draw_30 : decode cX1_draw 30 = .ok (.ldc 21, 2) := by decide +kernel
theorem dX1_draw_32 : decode cX1_draw 32 = .ok (.idiv, 1) := by decide +kernel
theorem dX1_draw_33 : decode cX1_draw 33 = .ok (.iload_n 1, 1) := by decide +kernel
theorem dX1_draw_34 : decode cX1_draw 34 = .ok (.irem, 1) := by decide +kernel
theorem dX1_draw_35 : decode cX1_draw 35 = .ok (.goto 4, 3) := by decide +kernel
theorem dX1_draw_38 : decode cX1_draw 38 = .ok (.iconst 0, 1) := by decide +kernel
theorem dX1_draw_39 : decode cX1_draw 39 = .ok (.ireturn, 1) := by decide +kernel
set_option maxRecDepth 20000 in
theorem ggX1_change_X1_draw : GoodIn wsX1_change wsX1_draw := goodIn_r _ [7, 8, 9, 10, 11, 12, 57] (by decide +kernel) (by decide +kernel)
set_option maxRecDepth 20000 in
theorem gX1_change_X1_draw : GoodIn wsX1_change (wsV RX1 22 RX1 yX1_draw wsX1_draw) := goodIn_app (goodIn_of _ (by decide +kernel)) ggX1_change_X1_draw
set_option maxRecDepth 20000 in
theorem ggX1_change_X1_changeEdge : GoodIn wsX1_change wsX1_changeEdge := goodIn_r _ [16, 1, 3, 4, 5, 6, 7, 8, 9, 10, 11, 12, 17, 18, 19, 20, 21, 22, 23, 24, 25, 26, 27, 49, 50, 51, 52, 53, 54, 55, 56, 57] (by decide +kernel) (by decide +kernel)
set_option maxRecDepth 20000 in
theorem gX1_change_X1_changeEdge : GoodIn wsX1_change (wsV RX1 26 RX1 yX1_changeEdge wsX1_changeEdge) := goodIn_app (goodIn_of _ (by decide +kernel)) ggX1_change_X1_changeEdge
set_option maxRecDepth 20000 in
theorem ggX1_change_X1_changeColumns : GoodIn wsX1_change wsX1_changeColumns := goodIn_r _ [31, 1, 32, 3, 4, 5, 6, 7, 8, 9, 10, 11, 12, 33, 24, 25, 20, 26, 27, 49, 50, 51, 52, 53, 54, 55, 56, 57] (by decide +kernel) (by decide +kernel)
set_option maxRecDepth 20000 in
theorem gX1_change_X1_changeColumns : GoodIn wsX1_change (wsV RX1 30 RX1 yX1_changeColumns wsX1_changeColumns) := goodIn_app (goodIn_of _ (by decide +kernel)) ggX1_change_X1_changeColumns
set_option maxRecDepth 20000 in
theorem ggX1_change_X1_changeMachine : GoodIn wsX1_change wsX1_changeMachine := goodIn_r _ [37, 1, 38, 3, 4, 5, 6, 7, 8, 9, 10, 11, 12, 39, 40, 41, 20, 42, 43, 23, 24, 25, 26, 27, 44, 45, 46, 47, 48, 49, 50, 51, 52, 53, 54, 55, 56, 57] (by decide +kernel) (by decide +kernel)
set_option maxRecDepth 20000 in
theorem gX1_change_X1_changeMachine : GoodIn wsX1_change (wsV RX1 33 RX1 yX1_changeMachine wsX1_changeMachine) := goodIn_app (goodIn_of _ (by decide +kernel)) ggX1_change_X1_changeMachine
theorem dX1_change_0 : decode cX1_change 0 = .ok (.aload_n 0, 1) := by decide +kernel
theorem dX1_change_1 : decode cX1_change 1 = .ok (.iconst 4, 1) := by decide +kernel
theorem dX1_change_2 : decode cX1_change 2 = .ok (.invokevirtual 22, 3) := by decide +kernel
theorem dX1_change_5 : decode cX1_change 5 = .ok (.tableswitch 51 0 2 #[27, 35, 43], 27) := by decide +kernel
theorem dX1_change_32 : decode cX1_change 32 = .ok (.aload_n 0, 1) := by decide +kernel
theorem dX1_change_33 : decode cX1_change 33 = .ok (.aload_n 1, 1) := by decide +kernel
theorem dX1_change_34 : decode cX1_change 34 = .ok (.invokevirtual 26, 3) := by decide +kernel
theorem dX1_change_37 : decode cX1_change 37 = .ok (.goto 33, 3) := by decide +kernel
theorem dX1_change_40 : decode cX1_change 40 = .ok (.aload_n 0, 1) := by decide +kernel
theorem dX1_change_41 : decode cX1_change 41 = .ok (.aload_n 1, 1) := by decide +kernel
theorem dX1_change_42 : decode cX1_change 42 = .ok (.invokevirtual 30, 3) := by decide +kernel
theorem dX1_change_45 : decode cX1_change 45 = .ok (.goto 25, 3) := by decide +kernel
theorem dX1_change_48 : decode cX1_change 48 = .ok (.aload_n 0, 1) := by decide +kernel
theorem dX1_change_49 : decode cX1_change 49 = .ok (.aload_n 1, 1) := by decide +kernel
theorem dX1_change_50 : decode cX1_change 50 = .ok (.invokevirtual 33, 3) := by decide +kernel
theorem dX1_change_53 : decode cX1_change 53 = .ok (.goto 17, 3) := by decide +kernel
theorem dX1_change_56 : decode cX1_change 56 = .ok (.aload_n 1, 1) := by decide +kernel
theorem dX1_change_57 : decode cX1_change 57 = .ok (.aload_n 0, 1) := by decide +kernel
theorem dX1_change_58 : decode cX1_change 58 = .ok (.iconst 1, 1) := by decide +kernel
theorem dX1_change_59 : decode cX1_change 59 = .ok (.aload_n 1, 1) := by decide +kernel
theorem dX1_change_60 : decode cX1_change 60 = .ok (.getfield 36, 3) := by decide +kernel
theorem dX1_change_63 : decode cX1_change 63 = .ok (.ishl, 1) := by decide +kernel
theorem dX1_change_64 : decode cX1_change 64 = .ok (.invokevirtual 22, 3) := by decide +kernel
theorem dX1_change_67 : decode cX1_change 67 = .ok (.putfield 41, 3) := by decide +kernel
theorem dX1_change_70 : decode cX1_change 70 = .ok (.return_, 1) := by decide +kernel
set_option maxRecDepth 20000 in
theorem ggX1_changeEdge_X1_draw : GoodIn wsX1_changeEdge wsX1_draw := goodIn_r _ [6, 7, 8, 9, 10, 11, 31] (by decide +kernel) (by decide +kernel)
set_option maxRecDepth 20000 in
theorem gX1_changeEdge_X1_draw : GoodIn wsX1_changeEdge (wsV RX1 22 RX1 yX1_draw wsX1_draw) := goodIn_app (goodIn_of _ (by decide +kernel)) ggX1_changeEdge_X1_draw
set_option maxRecDepth 20000 in
theorem ggX1_changeEdge_X6_flipEdge : GoodIn wsX1_changeEdge wsX6_flipEdge := goodIn_r _ [16, 17, 18, 19, 20, 15, 21, 22, 23, 24, 25, 26, 27, 28, 29, 30] (by decide +kernel) (by decide +kernel)
set_option maxRecDepth 20000 in
theorem gX1_changeEdge_X6_flipEdge : GoodIn wsX1_changeEdge (wsV RX1 44 RX6 yX6_flipEdge wsX6_flipEdge) := goodIn_app (goodIn_of _ (by decide +kernel)) ggX1_changeEdge_X6_flipEdge
theorem dX1_changeEdge_0 : decode cX1_changeEdge 0 = .ok (.aload_n 0, 1) := by decide +kernel
theorem dX1_changeEdge_1 : decode cX1_changeEdge 1 = .ok (.aload_n 1, 1) := by decide +kernel
theorem dX1_changeEdge_2 : decode cX1_changeEdge 2 = .ok (.getfield 36, 3) := by decide +kernel
theorem dX1_changeEdge_5 : decode cX1_changeEdge 5 = .ok (.invokevirtual 22, 3) := by decide +kernel
theorem dX1_changeEdge_8 : decode cX1_changeEdge 8 = .ok (.istore_n 2, 1) := by decide +kernel
theorem dX1_changeEdge_9 : decode cX1_changeEdge 9 = .ok (.aload_n 0, 1) := by decide +kernel
theorem dX1_changeEdge_10 : decode cX1_changeEdge 10 = .ok (.aload_n 1, 1) := by decide +kernel
theorem dX1_changeEdge_11 : decode cX1_changeEdge 11 = .ok (.getfield 36, 3) := by decide +kernel
theorem dX1_changeEdge_14 : decode cX1_changeEdge 14 = .ok (.invokevirtual 22, 3) := by decide +kernel
theorem dX1_changeEdge_17 : decode cX1_changeEdge 17 = .ok (.istore_n 3, 1) := by decide +kernel
theorem dX1_changeEdge_18 : decode cX1_changeEdge 18 = .ok (.aload_n 1, 1) := by decide +kernel
theorem dX1_changeEdge_19 : decode cX1_changeEdge 19 = .ok (.iload_n 2, 1) := by decide +kernel
theorem dX1_changeEdge_20 : decode cX1_changeEdge 20 = .ok (.iload_n 3, 1) := by decide +kernel
theorem dX1_changeEdge_21 : decode cX1_changeEdge 21 = .ok (.invokevirtual 44, 3) := by decide +kernel
theorem dX1_changeEdge_24 : decode cX1_changeEdge 24 = .ok (.return_, 1) := by decide +kernel
set_option maxRecDepth 20000 in
theorem ggX1_changeColumns_X1_draw : GoodIn wsX1_changeColumns wsX1_draw := goodIn_r _ [7, 8, 9, 10, 11, 12, 27] (by decide +kernel) (by decide +kernel)
set_option maxRecDepth 20000 in
theorem gX1_changeColumns_X1_draw : GoodIn wsX1_changeColumns (wsV RX1 22 RX1 yX1_draw wsX1_draw) := goodIn_app (goodIn_of _ (by decide +kernel)) ggX1_changeColumns_X1_draw
set_option maxRecDepth 20000 in
theorem ggX1_changeColumns_X6_hasItem : GoodIn wsX1_changeColumns wsX6_hasItem := goodIn_r _ [17, 18, 19, 20, 21, 22, 23, 24, 25, 26] (by decide +kernel) (by decide +kernel)
set_option maxRecDepth 20000 in
theorem gX1_changeColumns_X6_hasItem : GoodIn wsX1_changeColumns (wsV RX1 48 RX6 yX6_hasItem wsX6_hasItem) := goodIn_app (goodIn_of _ (by decide +kernel)) ggX1_changeColumns_X6_hasItem
theorem dX1_changeColumns_0 : decode cX1_changeColumns 0 = .ok (.aload_n 0, 1) := by decide +kernel
theorem dX1_changeColumns_1 : decode cX1_changeColumns 1 = .ok (.aload_n 1, 1) := by decide +kernel
theorem dX1_changeColumns_2 : decode cX1_changeColumns 2 = .ok (.getfield 36, 3) := by decide +kernel
theorem dX1_changeColumns_5 : decode cX1_changeColumns 5 = .ok (.invokevirtual 22, 3) := by decide +kernel
theorem dX1_changeColumns_8 : decode cX1_changeColumns 8 = .ok (.istore_n 2, 1) := by decide +kernel
theorem dX1_changeColumns_9 : decode cX1_changeColumns 9 = .ok (.aload_n 0, 1) := by decide +kernel
theorem dX1_changeColumns_10 : decode cX1_changeColumns 10 = .ok (.sipush 256, 3) := by decide +kernel
theorem dX1_changeColumns_13 : decode cX1_changeColumns 13 = .ok (.invokevirtual 22, 3) := by decide +kernel
theorem dX1_changeColumns_16 : decode cX1_changeColumns 16 = .ok (.istore_n 3, 1) := by decide +kernel
theorem dX1_changeColumns_17 : decode cX1_changeColumns 17 = .ok (.aload_n 1, 1) := by decide +kernel
theorem dX1_changeColumns_18 : decode cX1_changeColumns 18 = .ok (.iload_n 2, 1) := by decide +kernel
theorem dX1_changeColumns_19 : decode cX1_changeColumns 19 = .ok (.invokevirtual 48, 3) := by decide +kernel
theorem dX1_changeColumns_22 : decode cX1_changeColumns 22 = .ok (.ifCond .eq 10, 3) := by decide +kernel
theorem dX1_changeColumns_25 : decode cX1_changeColumns 25 = .ok (.aload_n 1, 1) := by decide +kernel
theorem dX1_changeColumns_26 : decode cX1_changeColumns 26 = .ok (.getfield 52, 3) := by decide +kernel
theorem dX1_changeColumns_29 : decode cX1_changeColumns 29 = .ok (.iload_n 2, 1) := by decide +kernel
theorem dX1_changeColumns_30 : decode cX1_changeColumns 30 = .ok (.iload_n 3, 1) := by decide +kernel
theorem dX1_changeColumns_31 : decode cX1_changeColumns 31 = .ok (.iastore, 1) := by decide +kernel
theorem dX1_changeColumns_32 : decode cX1_changeColumns 32 = .ok (.return_, 1) := by decide +kernel
set_option maxRecDepth 20000 in
theorem ggX1_changeMachine_X1_draw : GoodIn wsX1_changeMachine wsX1_draw := goodIn_r _ [7, 8, 9, 10, 11, 12, 37] (by decide +kernel) (by decide +kernel)
set_option maxRecDepth 20000 in
theorem gX1_changeMachine_X1_draw : GoodIn wsX1_changeMachine (wsV RX1 22 RX1 yX1_draw wsX1_draw) := goodIn_app (goodIn_of _ (by decide +kernel)) ggX1_changeMachine_X1_draw
set_option maxRecDepth 20000 in
theorem ggX1_changeMachine_X6_lead : GoodIn wsX1_changeMachine wsX6_lead := goodIn_r _ [17, 18, 19, 20, 21, 16, 22, 23, 24, 25, 26, 27, 28, 29, 30, 31, 32, 33, 34, 35, 36] (by decide +kernel) (by decide +kernel)
set_option maxRecDepth 20000 in
theorem gX1_changeMachine_X6_lead : GoodIn wsX1_changeMachine (wsV RX1 59 RX6 yX6_lead wsX6_lead) := goodIn_app (goodIn_of _ (by decide +kernel)) ggX1_changeMachine_X6_lead
theorem dX1_changeMachine_0 : decode cX1_changeMachine 0 = .ok (.aload_n 0, 1) := by decide +kernel
theorem dX1_changeMachine_1 : decode cX1_changeMachine 1 = .ok (.aload_n 1, 1) := by decide +kernel
theorem dX1_changeMachine_2 : decode cX1_changeMachine 2 = .ok (.getfield 36, 3) := by decide +kernel
theorem dX1_changeMachine_5 : decode cX1_changeMachine 5 = .ok (.invokevirtual 22, 3) := by decide +kernel
theorem dX1_changeMachine_8 : decode cX1_changeMachine 8 = .ok (.istore_n 2, 1) := by decide +kernel
theorem dX1_changeMachine_9 : decode cX1_changeMachine 9 = .ok (.aload_n 0, 1) := by decide +kernel
theorem dX1_changeMachine_10 : decode cX1_changeMachine 10 = .ok (.aload_n 1, 1) := by decide +kernel
theorem dX1_changeMachine_11 : decode cX1_changeMachine 11 = .ok (.getfield 56, 3) := by decide +kernel
theorem dX1_changeMachine_14 : decode cX1_changeMachine 14 = .ok (.invokevirtual 22, 3) := by decide +kernel
theorem dX1_changeMachine_17 : decode cX1_changeMachine 17 = .ok (.istore_n 3, 1) := by decide +kernel
theorem dX1_changeMachine_18 : decode cX1_changeMachine 18 = .ok (.aload_n 0, 1) := by decide +kernel
theorem dX1_changeMachine_19 : decode cX1_changeMachine 19 = .ok (.aload_n 1, 1) := by decide +kernel
theorem dX1_changeMachine_20 : decode cX1_changeMachine 20 = .ok (.getfield 36, 3) := by decide +kernel
theorem dX1_changeMachine_23 : decode cX1_changeMachine 23 = .ok (.invokevirtual 22, 3) := by decide +kernel
theorem dX1_changeMachine_26 : decode cX1_changeMachine 26 = .ok (.istore 4, 2) := by decide +kernel
theorem dX1_changeMachine_28 : decode cX1_changeMachine 28 = .ok (.aload_n 1, 1) := by decide +kernel
theorem dX1_changeMachine_29 : decode cX1_changeMachine 29 = .ok (.iload_n 2, 1) := by decide +kernel
theorem dX1_changeMachine_30 : decode cX1_changeMachine 30 = .ok (.iload_n 3, 1) := by decide +kernel
theorem dX1_changeMachine_31 : decode cX1_changeMachine 31 = .ok (.iload 4, 2) := by decide +kernel
theorem dX1_changeMachine_33 : decode cX1_changeMachine 33 = .ok (.invokevirtual 59, 3) := by decide +kernel
theorem dX1_changeMachine_36 : decode cX1_changeMachine 36 = .ok (.return_, 1) := by decide +kernel
set_option maxRecDepth 20000 in
theorem ggX2_init_X6_init : GoodIn wsX2_init wsX6_init := goodIn_r _ [12, 13, 2, 3, 14, 15, 16, 17, 18, 19, 20, 21, 22, 23, 24, 25, 26, 27, 28, 29, 30, 7, 31, 32, 33, 34, 35, 36, 37, 38, 39, 40, 41, 42, 43, 44, 45, 46, 47, 48, 49, 50, 51, 52, 53, 54, 55, 56, 57, 58, 59, 60, 61, 62, 63, 67, 68, 69, 70, 71, 72, 73, 74, 75, 76] (by decide +kernel) (by decide +kernel)
set_option maxRecDepth 20000 in
theorem gX2_init_X6_init : GoodIn wsX2_init (wsX6_init) := ggX2_init_X6_init
theorem dX2_init_0 : decode cX2_init 0 = .ok (.aload_n 0, 1) := by decide +kernel
theorem dX2_init_1 : decode cX2_init 1 = .ok (.invokespecial 3, 3) := by decide +kernel
theorem dX2_init_4 : decode cX2_init 4 = .ok (.aload_n 0, 1) := by decide +kernel
theorem dX2_init_5 : decode cX2_init 5 = .ok (.bipush 16, 2) := by decide +kernel
theorem dX2_init_7 : decode cX2_init 7 = .ok (.anewarray 9, 3) := by decide +kernel
theorem dX2_init_10 : decode cX2_init 10 = .ok (.putfield 11, 3) := by decide +kernel
theorem dX2_init_13 : decode cX2_init 13 = .ok (.iconst 0, 1) := by decide +kernel
theorem dX2_init_14 : decode cX2_init 14 = .ok (.istore_n 1, 1) := by decide +kernel
theorem dX2_init_15 : decode cX2_init 15 = .ok (.iload_n 1, 1) := by decide +kernel
theorem dX2_init_16 : decode cX2_init 16 = .ok (.bipush 16, 2) := by decide +kernel
theorem dX2_init_18 : decode cX2_init 18 = .ok (.if_icmp .ge 22, 3) := by decide +kernel
theorem dX2_init_21 : decode cX2_init 21 = .ok (.aload_n 0, 1) := by decide +kernel
theorem dX2_init_22 : decode cX2_init 22 = .ok (.getfield 11, 3) := by decide +kernel
theorem dX2_init_25 : decode cX2_init 25 = .ok (.iload_n 1, 1) := by decide +kernel
theorem dX2_init_26 : decode cX2_init 26 = .ok (.new 9, 3) := by decide +kernel
theorem dX2_init_29 : decode cX2_init 29 = .ok (.dup, 1) := by decide +kernel
theorem dX2_init_30 : decode cX2_init 30 = .ok (.invokespecial 17, 3) := by decide +kernel
theorem dX2_init_33 : decode cX2_init 33 = .ok (.aastore, 1) := by decide +kernel
theorem dX2_init_34 : decode cX2_init 34 = .ok (.iinc 1 1, 3) := by decide +kernel
theorem dX2_init_37 : decode cX2_init 37 = .ok (.goto (-22), 3) := by decide +kernel
theorem dX2_init_40 : decode cX2_init 40 = .ok (.aload_n 0, 1) := by decide +kernel
theorem dX2_init_41 : decode cX2_init 41 = .ok (.iconst 0, 1) := by decide +kernel
theorem dX2_init_42 : decode cX2_init 42 = .ok (.putfield 18, 3) := by decide +kernel
theorem dX2_init_45 : decode cX2_init 45 = .ok (.aload_n 0, 1) := by decide +kernel
theorem dX2_init_46 : decode cX2_init 46 = .ok (.iconst 0, 1) := by decide +kernel
theorem dX2_init_47 : decode cX2_init 47 = .ok (.putfield 22, 3) := by decide +kernel
theorem dX2_init_50 : decode cX2_init 50 = .ok (.return_, 1) := by decide +kernel
set_option maxRecDepth 20000 in
theorem ggX2_remember_X6_copyFrom : GoodIn wsX2_remember wsX6_copyFrom := goodIn_r _ [12, 13, 14, 15, 16, 17, 18, 19, 20, 21, 22, 23, 24, 25, 26, 27, 28, 29, 30, 31, 32, 36, 37, 38, 39, 40, 41, 42, 43, 44, 45] (by decide +kernel) (by decide +kernel)
set_option maxRecDepth 20000 in
theorem gX2_remember_X6_copyFrom : GoodIn wsX2_remember (wsV RX2 25 RX6 yX6_copyFrom wsX6_copyFrom) := goodIn_app (goodIn_of _ (by decide +kernel)) ggX2_remember_X6_copyFrom
theorem dX2_remember_0 : decode cX2_remember 0 = .ok (.aload_n 0, 1) := by decide +kernel
theorem dX2_remember_1 : decode cX2_remember 1 = .ok (.getfield 11, 3) := by decide +kernel
theorem dX2_remember_4 : decode cX2_remember 4 = .ok (.aload_n 0, 1) := by decide +kernel
theorem dX2_remember_5 : decode cX2_remember 5 = .ok (.getfield 18, 3) := by decide +kernel
theorem dX2_remember_8 : decode cX2_remember 8 = .ok (.aaload, 1) := by decide +kernel
theorem dX2_remember_9 : decode cX2_remember 9 = .ok (.aload_n 1, 1) := by decide +kernel
theorem dX2_remember_10 : decode cX2_remember 10 = .ok (.invokevirtual 25, 3) := by decide +kernel
theorem dX2_remember_13 : decode cX2_remember 13 = .ok (.aload_n 0, 1) := by decide +kernel
theorem dX2_remember_14 : decode cX2_remember 14 = .ok (.aload_n 0, 1) := by decide +kernel
theorem dX2_remember_15 : decode cX2_remember 15 = .ok (.getfield 18, 3) := by decide +kernel
theorem dX2_remember_18 : decode cX2_remember 18 = .ok (.iconst 1, 1) := by decide +kernel
theorem dX2_remember_19 : decode cX2_remember 19 = .ok (.iadd, 1) := by decide +kernel
theorem dX2_remember_20 : decode cX2_remember 20 = .ok (.bipush 16, 2) := by decide +kernel
theorem dX2_remember_22 : decode cX2_remember 22 = .ok (.irem, 1) := by decide +kernel
theorem dX2_remember_23 : decode cX2_remember 23 = .ok (.putfield 18, 3) := by decide +kernel
theorem dX2_remember_26 : decode cX2_remember 26 = .ok (.aload_n 0, 1) := by decide +kernel
theorem dX2_remember_27 : decode cX2_remember 27 = .ok (.aload_n 0, 1) := by decide +kernel
theorem dX2_remember_28 : decode cX2_remember 28 = .ok (.getfield 22, 3) := by decide +kernel
theorem dX2_remember_31 : decode cX2_remember 31 = .ok (.iconst 1, 1) := by decide +kernel
theorem dX2_remember_32 : decode cX2_remember 32 = .ok (.iadd, 1) := by decide +kernel
theorem dX2_remember_33 : decode cX2_remember 33 = .ok (.bipush 16, 2) := by decide +kernel
theorem dX2_remember_35 : decode cX2_remember 35 = .ok (.invokestatic 29, 3) := by decide +kernel
theorem dX2_remember_38 : decode cX2_remember 38 = .ok (.putfield 22, 3) := by decide +kernel
theorem dX2_remember_41 : decode cX2_remember 41 = .ok (.return_, 1) := by decide +kernel
set_option maxRecDepth 20000 in
theorem ggX2_takeBack_J9_floorMod_7cf53 : GoodIn wsX2_takeBack wsJ9_floorMod_7cf53 := goodIn_r _ [7] (by decide +kernel) (by decide +kernel)
set_option maxRecDepth 20000 in
theorem gX2_takeBack_J9_floorMod_7cf53 : GoodIn wsX2_takeBack (va_wsS RX2 35 yJ9_floorMod_7cf53 wsJ9_floorMod_7cf53) := goodIn_app (goodIn_of _ (by decide +kernel)) ggX2_takeBack_J9_floorMod_7cf53
set_option maxRecDepth 20000 in
theorem ggX2_takeBack_X6_copyFrom : GoodIn wsX2_takeBack wsX6_copyFrom := goodIn_r _ [12, 13, 14, 15, 16, 17, 18, 19, 20, 21, 22, 23, 24, 25, 26, 27, 28, 29, 30, 31, 32, 36, 37, 38, 39, 40, 41, 42, 43, 44, 45] (by decide +kernel) (by decide +kernel)
set_option maxRecDepth 20000 in
theorem gX2_takeBack_X6_copyFrom : GoodIn wsX2_takeBack (wsV RX2 25 RX6 yX6_copyFrom wsX6_copyFrom) := goodIn_app (goodIn_of _ (by decide +kernel)) ggX2_takeBack_X6_copyFrom
theorem dX2_takeBack_0 : decode cX2_takeBack 0 = .ok (.aload_n 0, 1) := by decide +kernel
theorem dX2_takeBack_1 : decode cX2_takeBack 1 = .ok (.aload_n 0, 1) := by decide +kernel
theorem dX2_takeBack_2 : decode cX2_takeBack 2 = .ok (.getfield 18, 3) := by decide +kernel
theorem dX2_takeBack_5 : decode cX2_takeBack 5 = .ok (.iload_n 1, 1) := by decide +kernel
theorem dX2_takeBack_6 : decode cX2_takeBack 6 = .ok (.isub, 1) := by decide +kernel
theorem dX2_takeBack_7 : decode cX2_takeBack 7 = .ok (.bipush 16, 2) := by decide +kernel
theorem dX2_takeBack_9 : decode cX2_takeBack 9 = .ok (.invokestatic 35, 3) := by decide +kernel
theorem dX2_takeBack_12 : decode cX2_takeBack 12 = .ok (.putfield 18, 3) := by decide +kernel
theorem dX2_takeBack_15 : decode cX2_takeBack 15 = .ok (.aload_n 2, 1) := by decide +kernel
theorem dX2_takeBack_16 : decode cX2_takeBack 16 = .ok (.aload_n 0, 1) := by decide +kernel
theorem dX2_takeBack_17 : decode cX2_takeBack 17 = .ok (.getfield 11, 3) := by decide +kernel
theorem dX2_takeBack_20 : decode cX2_takeBack 20 = .ok (.aload_n 0, 1) := by decide +kernel
theorem dX2_takeBack_21 : decode cX2_takeBack 21 = .ok (.getfield 18, 3) := by decide +kernel
theorem dX2_takeBack_24 : decode cX2_takeBack 24 = .ok (.aaload, 1) := by decide +kernel
theorem dX2_takeBack_25 : decode cX2_takeBack 25 = .ok (.invokevirtual 25, 3) := by decide +kernel
theorem dX2_takeBack_28 : decode cX2_takeBack 28 = .ok (.aload_n 0, 1) := by decide +kernel
theorem dX2_takeBack_29 : decode cX2_takeBack 29 = .ok (.dup, 1) := by decide +kernel
theorem dX2_takeBack_30 : decode cX2_takeBack 30 = .ok (.getfield 22, 3) := by decide +kernel
theorem dX2_takeBack_33 : decode cX2_takeBack 33 = .ok (.iload_n 1, 1) := by decide +kernel
theorem dX2_takeBack_34 : decode cX2_takeBack 34 = .ok (.isub, 1) := by decide +kernel
theorem dX2_takeBack_35 : decode cX2_takeBack 35 = .ok (.putfield 22, 3) := by decide +kernel
theorem dX2_takeBack_38 : decode cX2_takeBack 38 = .ok (.return_, 1) := by decide +kernel
set_option maxRecDepth 20000 in
theorem ggX3_init_X6_init : GoodIn wsX3_init wsX6_init := goodIn_r _ [12, 13, 2, 3, 14, 15, 16, 17, 18, 19, 20, 21, 22, 23, 24, 25, 26, 27, 28, 29, 30, 8, 31, 32, 33, 34, 35, 36, 37, 38, 39, 40, 41, 42, 43, 44, 45, 46, 47, 48, 49, 50, 51, 52, 53, 54, 55, 56, 57, 58, 59, 60, 61, 62, 63, 67, 68, 69, 70, 71, 72, 73, 74, 75, 76] (by decide +kernel) (by decide +kernel)
set_option maxRecDepth 20000 in
theorem gX3_init_X6_init : GoodIn wsX3_init (wsX6_init) := ggX3_init_X6_init
theorem dX3_init_0 : decode cX3_init 0 = .ok (.aload_n 0, 1) := by decide +kernel
theorem dX3_init_1 : decode cX3_init 1 = .ok (.invokespecial 1, 3) := by decide +kernel
theorem dX3_init_4 : decode cX3_init 4 = .ok (.aload_n 0, 1) := by decide +kernel
theorem dX3_init_5 : decode cX3_init 5 = .ok (.iconst 0, 1) := by decide +kernel
theorem dX3_init_6 : decode cX3_init 6 = .ok (.putfield 7, 3) := by decide +kernel
theorem dX3_init_9 : decode cX3_init 9 = .ok (.aload_n 0, 1) := by decide +kernel
theorem dX3_init_10 : decode cX3_init 10 = .ok (.iconst 0, 1) := by decide +kernel
theorem dX3_init_11 : decode cX3_init 11 = .ok (.putfield 13, 3) := by decide +kernel
theorem dX3_init_14 : decode cX3_init 14 = .ok (.aload_n 0, 1) := by decide +kernel
theorem dX3_init_15 : decode cX3_init 15 = .ok (.new 17, 3) := by decide +kernel
theorem dX3_init_18 : decode cX3_init 18 = .ok (.dup, 1) := by decide +kernel
theorem dX3_init_19 : decode cX3_init 19 = .ok (.invokespecial 19, 3) := by decide +kernel
theorem dX3_init_22 : decode cX3_init 22 = .ok (.putfield 20, 3) := by decide +kernel
theorem dX3_init_25 : decode cX3_init 25 = .ok (.return_, 1) := by decide +kernel
set_option maxRecDepth 20000 in
theorem ggX4_init_X5_init : GoodIn wsX4_init wsX5_init := goodIn_r _ [10, 11, 2, 3, 12, 13, 14, 15, 16] (by decide +kernel) (by decide +kernel)
set_option maxRecDepth 20000 in
theorem gX4_init_X5_init : GoodIn wsX4_init (wsX5_init) := ggX4_init_X5_init
theorem dX4_init_0 : decode cX4_init 0 = .ok (.aload_n 0, 1) := by decide +kernel
theorem dX4_init_1 : decode cX4_init 1 = .ok (.invokespecial 3, 3) := by decide +kernel
theorem dX4_init_4 : decode cX4_init 4 = .ok (.aload_n 0, 1) := by decide +kernel
theorem dX4_init_5 : decode cX4_init 5 = .ok (.new 9, 3) := by decide +kernel
theorem dX4_init_8 : decode cX4_init 8 = .ok (.dup, 1) := by decide +kernel
theorem dX4_init_9 : decode cX4_init 9 = .ok (.invokespecial 11, 3) := by decide +kernel
theorem dX4_init_12 : decode cX4_init 12 = .ok (.putfield 12, 3) := by decide +kernel
theorem dX4_init_15 : decode cX4_init 15 = .ok (.return_, 1) := by decide +kernel
set_option maxRecDepth 20000 in
theorem ggX4_refineRow_X5_cutBy : GoodIn wsX4_refineRow wsX5_cutBy := goodIn_r _ [6, 7, 8, 9, 10, 11, 5, 12, 115, 116] (by decide +kernel) (by decide +kernel)
set_option maxRecDepth 20000 in
theorem gX4_refineRow_X5_cutBy : GoodIn wsX4_refineRow (wsV RX4 24 RX5 yX5_cutBy wsX5_cutBy) := goodIn_app (goodIn_of _ (by decide +kernel)) ggX4_refineRow_X5_cutBy
set_option maxRecDepth 20000 in
theorem ggX4_refineRow_X4_settle : GoodIn wsX4_refineRow wsX4_settle := goodIn_r _ [17, 18, 19, 20, 21, 22, 5, 23, 8, 24, 25, 26, 27, 7, 28, 29, 30, 16, 31, 32, 33, 34, 35, 36, 37, 38, 39, 40, 41, 42, 43, 44, 45, 46, 47, 48, 49, 50, 51, 52, 53, 54, 55, 56, 57, 58, 59, 60, 2, 3, 4, 6, 9, 10, 11, 12, 61, 62, 63, 64, 65, 66, 67, 68, 69, 70, 71, 72, 73, 74, 75, 76, 77, 78, 79, 80, 81, 82, 83, 84, 85, 86, 87, 88, 117, 115, 116, 107, 108, 109, 110, 111, 112, 113, 114] (by decide +kernel) (by decide +kernel)
set_option maxRecDepth 20000 in
theorem gX4_refineRow_X4_settle : GoodIn wsX4_refineRow (wsV RX4 28 RX4 yX4_settle wsX4_settle) := goodIn_app (goodIn_of _ (by decide +kernel)) ggX4_refineRow_X4_settle
set_option maxRecDepth 20000 in
theorem ggX4_refineRow_X4_cutByAll : GoodIn wsX4_refineRow wsX4_cutByAll := goodIn_r _ [92, 93, 94, 95, 96, 44, 97, 76, 98, 52, 53, 54, 55, 46, 99, 100, 101, 102, 103, 104, 34, 35, 5, 36, 8, 37, 38, 39, 40, 7, 105, 42, 43, 45, 47, 48, 49, 50, 51, 56, 57, 58, 59, 60, 106, 73, 74, 75, 77, 66, 67, 68, 69, 70, 71, 2, 3, 4, 6, 9, 10, 11, 12, 107, 108, 109, 110, 111, 112, 113, 114, 115, 116] (by decide +kernel) (by decide +kernel)
set_option maxRecDepth 20000 in
theorem gX4_refineRow_X4_cutByAll : GoodIn wsX4_refineRow (wsV RX4 32 RX4 yX4_cutByAll wsX4_cutByAll) := goodIn_app (goodIn_of _ (by decide +kernel)) ggX4_refineRow_X4_cutByAll
theorem dX4_refineRow_0 : decode cX4_refineRow 0 = .ok (.iload_n 3, 1) := by decide +kernel
theorem dX4_refineRow_1 : decode cX4_refineRow 1 = .ok (.lookupswitch 55 #[(3, 27), (4, 45)], 27) := by decide +kernel
theorem dX4_refineRow_28 : decode cX4_refineRow 28 = .ok (.aload_n 2, 1) := by decide +kernel
theorem dX4_refineRow_29 : decode cX4_refineRow 29 = .ok (.aload_n 1, 1) := by decide +kernel
theorem dX4_refineRow_30 : decode cX4_refineRow 30 = .ok (.getfield 18, 3) := by decide +kernel
theorem dX4_refineRow_33 : decode cX4_refineRow 33 = .ok (.invokevirtual 24, 3) := by decide +kernel
theorem dX4_refineRow_36 : decode cX4_refineRow 36 = .ok (.aload_n 0, 1) := by decide +kernel
theorem dX4_refineRow_37 : decode cX4_refineRow 37 = .ok (.aload_n 1, 1) := by decide +kernel
theorem dX4_refineRow_38 : decode cX4_refineRow 38 = .ok (.aload_n 2, 1) := by decide +kernel
theorem dX4_refineRow_39 : decode cX4_refineRow 39 = .ok (.iconst 1, 1) := by decide +kernel
theorem dX4_refineRow_40 : decode cX4_refineRow 40 = .ok (.invokevirtual 28, 3) := by decide +kernel
theorem dX4_refineRow_43 : decode cX4_refineRow 43 = .ok (.goto 20, 3) := by decide +kernel
theorem dX4_refineRow_46 : decode cX4_refineRow 46 = .ok (.aload_n 0, 1) := by decide +kernel
theorem dX4_refineRow_47 : decode cX4_refineRow 47 = .ok (.aload_n 1, 1) := by decide +kernel
theorem dX4_refineRow_48 : decode cX4_refineRow 48 = .ok (.aload_n 2, 1) := by decide +kernel
theorem dX4_refineRow_49 : decode cX4_refineRow 49 = .ok (.iconst 0, 1) := by decide +kernel
theorem dX4_refineRow_50 : decode cX4_refineRow 50 = .ok (.invokevirtual 28, 3) := by decide +kernel
theorem dX4_refineRow_53 : decode cX4_refineRow 53 = .ok (.goto 10, 3) := by decide +kernel
theorem dX4_refineRow_56 : decode cX4_refineRow 56 = .ok (.aload_n 0, 1) := by decide +kernel
theorem dX4_refineRow_57 : decode cX4_refineRow 57 = .ok (.aload_n 1, 1) := by decide +kernel
theorem dX4_refineRow_58 : decode cX4_refineRow 58 = .ok (.aload_n 2, 1) := by decide +kernel
theorem dX4_refineRow_59 : decode cX4_refineRow 59 = .ok (.iload_n 3, 1) := by decide +kernel
theorem dX4_refineRow_60 : decode cX4_refineRow 60 = .ok (.invokevirtual 32, 3) := by decide +kernel
theorem dX4_refineRow_63 : decode cX4_refineRow 63 = .ok (.return_, 1) := by decide +kernel
set_option maxRecDepth 20000 in
theorem ggX4_cutByAll_X6_setOfKind : GoodIn wsX4_cutByAll wsX6_setOfKind := goodIn_r _ [6, 7, 8, 9, 10, 11, 5, 12, 13, 14, 15, 16, 17, 18, 19, 20, 21, 22, 23, 24, 25, 26, 27, 28, 29, 30, 31, 32, 33, 34, 35, 36, 37, 38, 39, 40, 41, 42, 43, 44, 45, 46, 47, 48, 49, 50, 51, 52, 53, 54, 63, 64, 65, 66, 67, 68, 69, 70, 71, 72] (by decide +kernel) (by decide +kernel)
set_option maxRecDepth 20000 in
theorem gX4_cutByAll_X6_setOfKind : GoodIn wsX4_cutByAll (wsV RX4 39 RX6 yX6_setOfKind wsX6_setOfKind) := goodIn_app (goodIn_of _ (by decide +kernel)) ggX4_cutByAll_X6_setOfKind
set_option maxRecDepth 20000 in
theorem ggX4_cutByAll_X5_cutBy : GoodIn wsX4_cutByAll wsX5_cutBy := goodIn_r _ [58, 29, 24, 59, 60, 61, 22, 62, 71, 72] (by decide +kernel) (by decide +kernel)
set_option maxRecDepth 20000 in
theorem gX4_cutByAll_X5_cutBy : GoodIn wsX4_cutByAll (wsV RX4 24 RX5 yX5_cutBy wsX5_cutBy) := goodIn_app (goodIn_of _ (by decide +kernel)) ggX4_cutByAll_X5_cutBy
theorem dX4_cutByAll_0 : decode cX4_cutByAll 0 = .ok (.iload_n 3, 1) := by decide +kernel
theorem dX4_cutByAll_1 : decode cX4_cutByAll 1 = .ok (.iconst 2, 1) := by decide +kernel
theorem dX4_cutByAll_2 : decode cX4_cutByAll 2 = .ok (.if_icmp .ne 8, 3) := by decide +kernel
theorem dX4_cutByAll_5 : decode cX4_cutByAll 5 = .ok (.bipush 8, 2) := by decide +kernel
theorem dX4_cutByAll_7 : decode cX4_cutByAll 7 = .ok (.goto 7, 3) := by decide +kernel
theorem dX4_cutByAll_10 : decode cX4_cutByAll 10 = .ok (.aload_n 1, 1) := by decide +kernel
theorem dX4_cutByAll_11 : decode cX4_cutByAll 11 = .ok (.getfield 36, 3) := by decide +kernel
theorem dX4_cutByAll_14 : decode cX4_cutByAll 14 = .ok (.istore 4, 2) := by decide +kernel
theorem dX4_cutByAll_16 : decode cX4_cutByAll 16 = .ok (.iconst 0, 1) := by decide +kernel
theorem dX4_cutByAll_17 : decode cX4_cutByAll 17 = .ok (.istore 5, 2) := by decide +kernel
theorem dX4_cutByAll_19 : decode cX4_cutByAll 19 = .ok (.iload 5, 2) := by decide +kernel
theorem dX4_cutByAll_21 : decode cX4_cutByAll 21 = .ok (.iload 4, 2) := by decide +kernel
theorem dX4_cutByAll_23 : decode cX4_cutByAll 23 = .ok (.if_icmp .ge 22, 3) := by decide +kernel
theorem dX4_cutByAll_26 : decode cX4_cutByAll 26 = .ok (.aload_n 2, 1) := by decide +kernel
theorem dX4_cutByAll_27 : decode cX4_cutByAll 27 = .ok (.aload_n 1, 1) := by decide +kernel
theorem dX4_cutByAll_28 : decode cX4_cutByAll 28 = .ok (.aload_n 2, 1) := by decide +kernel
theorem dX4_cutByAll_29 : decode cX4_cutByAll 29 = .ok (.iload_n 3, 1) := by decide +kernel
theorem dX4_cutByAll_30 : decode cX4_cutByAll 30 = .ok (.iload 5, 2) := by decide +kernel
theorem dX4_cutByAll_32 : decode cX4_cutByAll 32 = .ok (.iconst 0, 1) := by decide +kernel
theorem dX4_cutByAll_33 : decode cX4_cutByAll 33 = .ok (.invokevirtual 39, 3) := by decide +kernel
theorem dX4_cutByAll_36 : decode cX4_cutByAll 36 = .ok (.invokevirtual 24, 3) := by decide +kernel
theorem dX4_cutByAll_39 : decode cX4_cutByAll 39 = .ok (.iinc 5 1, 3) := by decide +kernel
theorem dX4_cutByAll_42 : decode cX4_cutByAll 42 = .ok (.goto (-23), 3) := by decide +kernel
theorem dX4_cutByAll_45 : decode cX4_cutByAll 45 = .ok (.return_, 1) := by decide +kernel
set_option maxRecDepth 20000 in
theorem ggX4_settle_X5_copyFrom : GoodIn wsX4_settle wsX5_copyFrom := goodIn_r _ [7, 8, 9, 10, 11, 12, 13, 85, 86] (by decide +kernel) (by decide +kernel)
set_option maxRecDepth 20000 in
theorem gX4_settle_X5_copyFrom : GoodIn wsX4_settle (wsV RX4 43 RX5 yX5_copyFrom wsX5_copyFrom) := goodIn_app (goodIn_of _ (by decide +kernel)) ggX4_settle_X5_copyFrom
set_option maxRecDepth 20000 in
theorem ggX4_settle_X4_cutByLetters : GoodIn wsX4_settle wsX4_cutByLetters := goodIn_r _ [18, 19, 1, 2, 20, 21, 22, 6, 23, 8, 24, 25, 26, 27, 13, 28, 29, 30, 31, 32, 33, 34, 35, 36, 37, 38, 39, 40, 41, 42, 43, 44, 45, 46, 47, 48, 49, 50, 51, 52, 53, 54, 55, 87, 88, 89, 90, 91, 92, 93, 94, 84, 85, 86] (by decide +kernel) (by decide +kernel)
set_option maxRecDepth 20000 in
theorem gX4_settle_X4_cutByLetters : GoodIn wsX4_settle (wsV RX4 47 RX4 yX4_cutByLetters wsX4_cutByLetters) := goodIn_app (goodIn_of _ (by decide +kernel)) ggX4_settle_X4_cutByLetters
set_option maxRecDepth 20000 in
theorem ggX4_settle_X4_cutByNearCounts : GoodIn wsX4_settle wsX4_cutByNearCounts := goodIn_r _ [59, 1, 2, 20, 21, 22, 6, 23, 8, 24, 25, 26, 27, 13, 60, 61, 62, 63, 64, 65, 66, 67, 68, 69, 31, 70, 33, 71, 72, 48, 49, 50, 51, 52, 53, 54, 55, 84, 85, 86, 87, 88, 89, 90, 91, 92, 93, 94] (by decide +kernel) (by decide +kernel)
set_option maxRecDepth 20000 in
theorem gX4_settle_X4_cutByNearCounts : GoodIn wsX4_settle (wsV RX4 51 RX4 yX4_cutByNearCounts wsX4_cutByNearCounts) := goodIn_app (goodIn_of _ (by decide +kernel)) ggX4_settle_X4_cutByNearCounts
set_option maxRecDepth 20000 in
theorem ggX4_settle_X5_sortByLeast : GoodIn wsX4_settle wsX5_sortByLeast := goodIn_r _ [76, 13, 8, 77, 78, 6, 79, 80, 81, 62, 82, 83, 85, 86] (by decide +kernel) (by decide +kernel)
set_option maxRecDepth 20000 in
theorem gX4_settle_X5_sortByLeast : GoodIn wsX4_settle (wsV RX4 57 RX5 yX5_sortByLeast wsX5_sortByLeast) := goodIn_app (goodIn_of _ (by decide +kernel)) ggX4_settle_X5_sortByLeast
theorem dX4_settle_0 : decode cX4_settle 0 = .ok (.iconst 0, 1) := by decide +kernel
theorem dX4_settle_1 : decode cX4_settle 1 = .ok (.istore 4, 2) := by decide +kernel
theorem dX4_settle_3 : decode cX4_settle 3 = .ok (.iload 4, 2) := by decide +kernel
theorem dX4_settle_5 : decode cX4_settle 5 = .ok (.bipush 12, 2) := by decide +kernel
theorem dX4_settle_7 : decode cX4_settle 7 = .ok (.if_icmp .ge 53, 3) := by decide +kernel
theorem dX4_settle_10 : decode cX4_settle 10 = .ok (.aload_n 0, 1) := by decide +kernel
theorem dX4_settle_11 : decode cX4_settle 11 = .ok (.getfield 12, 3) := by decide +kernel
theorem dX4_settle_14 : decode cX4_settle 14 = .ok (.aload_n 2, 1) := by decide +kernel
theorem dX4_settle_15 : decode cX4_settle 15 = .ok (.invokevirtual 43, 3) := by decide +kernel
theorem dX4_settle_18 : decode cX4_settle 18 = .ok (.iload_n 3, 1) := by decide +kernel
theorem dX4_settle_19 : decode cX4_settle 19 = .ok (.ifCond .eq 12, 3) := by decide +kernel
theorem dX4_settle_22 : decode cX4_settle 22 = .ok (.aload_n 0, 1) := by decide +kernel
theorem dX4_settle_23 : decode cX4_settle 23 = .ok (.aload_n 1, 1) := by decide +kernel
theorem dX4_settle_24 : decode cX4_settle 24 = .ok (.aload_n 2, 1) := by decide +kernel
theorem dX4_settle_25 : decode cX4_settle 25 = .ok (.invokevirtual 47, 3) := by decide +kernel
theorem dX4_settle_28 : decode cX4_settle 28 = .ok (.goto 9, 3) := by decide +kernel
theorem dX4_settle_31 : decode cX4_settle 31 = .ok (.aload_n 0, 1) := by decide +kernel
theorem dX4_settle_32 : decode cX4_settle 32 = .ok (.aload_n 1, 1) := by decide +kernel
theorem dX4_settle_33 : decode cX4_settle 33 = .ok (.aload_n 2, 1) := by decide +kernel
theorem dX4_settle_34 : decode cX4_settle 34 = .ok (.invokevirtual 51, 3) := by decide +kernel
theorem dX4_settle_37 : decode cX4_settle 37 = .ok (.aload_n 2, 1) := by decide +kernel
theorem dX4_settle_38 : decode cX4_settle 38 = .ok (.getfield 54, 3) := by decide +kernel
theorem dX4_settle_41 : decode cX4_settle 41 = .ok (.aload_n 0, 1) := by decide +kernel
theorem dX4_settle_42 : decode cX4_settle 42 = .ok (.getfield 12, 3) := by decide +kernel
theorem dX4_settle_45 : decode cX4_settle 45 = .ok (.getfield 54, 3) := by decide +kernel
theorem dX4_settle_48 : decode cX4_settle 48 = .ok (.if_icmp .ne 6, 3) := by decide +kernel
theorem dX4_settle_51 : decode cX4_settle 51 = .ok (.goto 9, 3) := by decide +kernel
theorem dX4_settle_54 : decode cX4_settle 54 = .ok (.iinc 4 1, 3) := by decide +kernel
theorem dX4_settle_57 : decode cX4_settle 57 = .ok (.goto (-54), 3) := by decide +kernel
theorem dX4_settle_60 : decode cX4_settle 60 = .ok (.aload_n 2, 1) := by decide +kernel
theorem dX4_settle_61 : decode cX4_settle 61 = .ok (.invokevirtual 57, 3) := by decide +kernel
theorem dX4_settle_64 : decode cX4_settle 64 = .ok (.return_, 1) := by decide +kernel
set_option maxRecDepth 20000 in
theorem ggX4_cutByLetters_X5_setAt : GoodIn wsX4_cutByLetters wsX5_setAt := goodIn_r _ [8, 9, 10, 11, 12, 7, 13, 14, 52, 53] (by decide +kernel) (by decide +kernel)
set_option maxRecDepth 20000 in
theorem gX4_cutByLetters_X5_setAt : GoodIn wsX4_cutByLetters (wsV RX4 63 RX5 yX5_setAt wsX5_setAt) := goodIn_app (goodIn_of _ (by decide +kernel)) ggX4_cutByLetters_X5_setAt
set_option maxRecDepth 20000 in
theorem ggX4_cutByLetters_X6_itemsThatGoInto : GoodIn wsX4_cutByLetters wsX6_itemsThatGoInto := goodIn_r _ [19, 20, 21, 22, 23, 18, 24, 25, 26, 27, 28, 29, 30, 31, 32, 33, 34, 43, 44, 45, 46, 47, 48, 49, 50] (by decide +kernel) (by decide +kernel)
set_option maxRecDepth 20000 in
theorem gX4_cutByLetters_X6_itemsThatGoInto : GoodIn wsX4_cutByLetters (wsV RX4 67 RX6 yX6_itemsThatGoInto wsX6_itemsThatGoInto) := goodIn_app (goodIn_of _ (by decide +kernel)) ggX4_cutByLetters_X6_itemsThatGoInto
set_option maxRecDepth 20000 in
theorem ggX4_cutByLetters_X5_cutBy : GoodIn wsX4_cutByLetters wsX5_cutBy := goodIn_r _ [38, 14, 9, 39, 40, 41, 7, 42, 52, 53] (by decide +kernel) (by decide +kernel)
set_option maxRecDepth 20000 in
theorem gX4_cutByLetters_X5_cutBy : GoodIn wsX4_cutByLetters (wsV RX4 24 RX5 yX5_cutBy wsX5_cutBy) := goodIn_app (goodIn_of _ (by decide +kernel)) ggX4_cutByLetters_X5_cutBy
theorem dX4_cutByLetters_0 : decode cX4_cutByLetters 0 = .ok (.iconst 0, 1) := by decide +kernel
theorem dX4_cutByLetters_1 : decode cX4_cutByLetters 1 = .ok (.istore_n 3, 1) := by decide +kernel
theorem dX4_cutByLetters_2 : decode cX4_cutByLetters 2 = .ok (.iload_n 3, 1) := by decide +kernel
theorem dX4_cutByLetters_3 : decode cX4_cutByLetters 3 = .ok (.aload_n 1, 1) := by decide +kernel
theorem dX4_cutByLetters_4 : decode cX4_cutByLetters 4 = .ok (.getfield 60, 3) := by decide +kernel
theorem dX4_cutByLetters_7 : decode cX4_cutByLetters 7 = .ok (.if_icmp .ge 48, 3) := by decide +kernel
theorem dX4_cutByLetters_10 : decode cX4_cutByLetters 10 = .ok (.iconst 0, 1) := by decide +kernel
theorem dX4_cutByLetters_11 : decode cX4_cutByLetters 11 = .ok (.istore 4, 2) := by decide +kernel
theorem dX4_cutByLetters_13 : decode cX4_cutByLetters 13 = .ok (.iload 4, 2) := by decide +kernel
theorem dX4_cutByLetters_15 : decode cX4_cutByLetters 15 = .ok (.aload_n 0, 1) := by decide +kernel
theorem dX4_cutByLetters_16 : decode cX4_cutByLetters 16 = .ok (.getfield 12, 3) := by decide +kernel
theorem dX4_cutByLetters_19 : decode cX4_cutByLetters 19 = .ok (.getfield 54, 3) := by decide +kernel
theorem dX4_cutByLetters_22 : decode cX4_cutByLetters 22 = .ok (.if_icmp .ge 27, 3) := by decide +kernel
theorem dX4_cutByLetters_25 : decode cX4_cutByLetters 25 = .ok (.aload_n 2, 1) := by decide +kernel
theorem dX4_cutByLetters_26 : decode cX4_cutByLetters 26 = .ok (.aload_n 1, 1) := by decide +kernel
theorem dX4_cutByLetters_27 : decode cX4_cutByLetters 27 = .ok (.iload_n 3, 1) := by decide +kernel
theorem dX4_cutByLetters_28 : decode cX4_cutByLetters 28 = .ok (.aload_n 0, 1) := by decide +kernel
theorem dX4_cutByLetters_29 : decode cX4_cutByLetters 29 = .ok (.getfield 12, 3) := by decide +kernel
theorem dX4_cutByLetters_32 : decode cX4_cutByLetters 32 = .ok (.iload 4, 2) := by decide +kernel
theorem dX4_cutByLetters_34 : decode cX4_cutByLetters 34 = .ok (.invokevirtual 63, 3) := by decide +kernel
theorem dX4_cutByLetters_37 : decode cX4_cutByLetters 37 = .ok (.invokevirtual 67, 3) := by decide +kernel
theorem dX4_cutByLetters_40 : decode cX4_cutByLetters 40 = .ok (.invokevirtual 24, 3) := by decide +kernel
theorem dX4_cutByLetters_43 : decode cX4_cutByLetters 43 = .ok (.iinc 4 1, 3) := by decide +kernel
theorem dX4_cutByLetters_46 : decode cX4_cutByLetters 46 = .ok (.goto (-33), 3) := by decide +kernel
theorem dX4_cutByLetters_49 : decode cX4_cutByLetters 49 = .ok (.iinc 3 1, 3) := by decide +kernel
theorem dX4_cutByLetters_52 : decode cX4_cutByLetters 52 = .ok (.goto (-50), 3) := by decide +kernel
theorem dX4_cutByLetters_55 : decode cX4_cutByLetters 55 = .ok (.return_, 1) := by decide +kernel
set_option maxRecDepth 20000 in
theorem ggX4_cutByNearCounts_X5_setAt : GoodIn wsX4_cutByNearCounts wsX5_setAt := goodIn_r _ [7, 8, 9, 10, 11, 6, 12, 13, 38, 39] (by decide +kernel) (by decide +kernel)
set_option maxRecDepth 20000 in
theorem gX4_cutByNearCounts_X5_setAt : GoodIn wsX4_cutByNearCounts (wsV RX4 63 RX5 yX5_setAt wsX5_setAt) := goodIn_app (goodIn_of _ (by decide +kernel)) ggX4_cutByNearCounts_X5_setAt
set_option maxRecDepth 20000 in
theorem ggX4_cutByNearCounts_J6_bitCount_0f7a4 : GoodIn wsX4_cutByNearCounts wsJ6_bitCount_0f7a4 := goodIn_r _ [17, 18, 19, 20] (by decide +kernel) (by decide +kernel)
set_option maxRecDepth 20000 in
theorem gX4_cutByNearCounts_J6_bitCount_0f7a4 : GoodIn wsX4_cutByNearCounts (va_wsS RX4 71 yJ6_bitCount_0f7a4 wsJ6_bitCount_0f7a4) := goodIn_app (goodIn_of _ (by decide +kernel)) ggX4_cutByNearCounts_J6_bitCount_0f7a4
set_option maxRecDepth 20000 in
theorem ggX4_cutByNearCounts_X6_itemsWithNearIn : GoodIn wsX4_cutByNearCounts wsX6_itemsWithNearIn := goodIn_r _ [25, 26, 27, 28, 15, 16, 17, 18, 19, 20, 40, 41, 42, 43, 44, 45, 46, 47] (by decide +kernel) (by decide +kernel)
set_option maxRecDepth 20000 in
theorem gX4_cutByNearCounts_X6_itemsWithNearIn : GoodIn wsX4_cutByNearCounts (wsV RX4 76 RX6 yX6_itemsWithNearIn wsX6_itemsWithNearIn) := goodIn_app (goodIn_of _ (by decide +kernel)) ggX4_cutByNearCounts_X6_itemsWithNearIn
set_option maxRecDepth 20000 in
theorem ggX4_cutByNearCounts_X5_cutBy : GoodIn wsX4_cutByNearCounts wsX5_cutBy := goodIn_r _ [32, 13, 8, 33, 34, 35, 6, 36, 38, 39] (by decide +kernel) (by decide +kernel)
set_option maxRecDepth 20000 in
theorem gX4_cutByNearCounts_X5_cutBy : GoodIn wsX4_cutByNearCounts (wsV RX4 24 RX5 yX5_cutBy wsX5_cutBy) := goodIn_app (goodIn_of _ (by decide +kernel)) ggX4_cutByNearCounts_X5_cutBy
theorem dX4_cutByNearCounts_0 : decode cX4_cutByNearCounts 0 = .ok (.iconst 0, 1) := by decide +kernel
theorem dX4_cutByNearCounts_1 : decode cX4_cutByNearCounts 1 = .ok (.istore_n 3, 1) := by decide +kernel
theorem dX4_cutByNearCounts_2 : decode cX4_cutByNearCounts 2 = .ok (.iload_n 3, 1) := by decide +kernel
theorem dX4_cutByNearCounts_3 : decode cX4_cutByNearCounts 3 = .ok (.aload_n 0, 1) := by decide +kernel
theorem dX4_cutByNearCounts_4 : decode cX4_cutByNearCounts 4 = .ok (.getfield 12, 3) := by decide +kernel
theorem dX4_cutByNearCounts_7 : decode cX4_cutByNearCounts 7 = .ok (.getfield 54, 3) := by decide +kernel
theorem dX4_cutByNearCounts_10 : decode cX4_cutByNearCounts 10 = .ok (.if_icmp .ge 54, 3) := by decide +kernel
theorem dX4_cutByNearCounts_13 : decode cX4_cutByNearCounts 13 = .ok (.aload_n 0, 1) := by decide +kernel
theorem dX4_cutByNearCounts_14 : decode cX4_cutByNearCounts 14 = .ok (.getfield 12, 3) := by decide +kernel
theorem dX4_cutByNearCounts_17 : decode cX4_cutByNearCounts 17 = .ok (.iload_n 3, 1) := by decide +kernel
theorem dX4_cutByNearCounts_18 : decode cX4_cutByNearCounts 18 = .ok (.invokevirtual 63, 3) := by decide +kernel
theorem dX4_cutByNearCounts_21 : decode cX4_cutByNearCounts 21 = .ok (.istore 4, 2) := by decide +kernel
theorem dX4_cutByNearCounts_23 : decode cX4_cutByNearCounts 23 = .ok (.iload 4, 2) := by decide +kernel
theorem dX4_cutByNearCounts_25 : decode cX4_cutByNearCounts 25 = .ok (.invokestatic 71, 3) := by decide +kernel
theorem dX4_cutByNearCounts_28 : decode cX4_cutByNearCounts 28 = .ok (.istore 5, 2) := by decide +kernel
theorem dX4_cutByNearCounts_30 : decode cX4_cutByNearCounts 30 = .ok (.iconst 1, 1) := by decide +kernel
theorem dX4_cutByNearCounts_31 : decode cX4_cutByNearCounts 31 = .ok (.istore 6, 2) := by decide +kernel
theorem dX4_cutByNearCounts_33 : decode cX4_cutByNearCounts 33 = .ok (.iload 6, 2) := by decide +kernel
theorem dX4_cutByNearCounts_35 : decode cX4_cutByNearCounts 35 = .ok (.iload 5, 2) := by decide +kernel
theorem dX4_cutByNearCounts_37 : decode cX4_cutByNearCounts 37 = .ok (.if_icmp .gt 21, 3) := by decide +kernel
theorem dX4_cutByNearCounts_40 : decode cX4_cutByNearCounts 40 = .ok (.aload_n 2, 1) := by decide +kernel
theorem dX4_cutByNearCounts_41 : decode cX4_cutByNearCounts 41 = .ok (.aload_n 1, 1) := by decide +kernel
theorem dX4_cutByNearCounts_42 : decode cX4_cutByNearCounts 42 = .ok (.iload 4, 2) := by decide +kernel
theorem dX4_cutByNearCounts_44 : decode cX4_cutByNearCounts 44 = .ok (.iload 6, 2) := by decide +kernel
theorem dX4_cutByNearCounts_46 : decode cX4_cutByNearCounts 46 = .ok (.invokevirtual 76, 3) := by decide +kernel
theorem dX4_cutByNearCounts_49 : decode cX4_cutByNearCounts 49 = .ok (.invokevirtual 24, 3) := by decide +kernel
theorem dX4_cutByNearCounts_52 : decode cX4_cutByNearCounts 52 = .ok (.iinc 6 1, 3) := by decide +kernel
theorem dX4_cutByNearCounts_55 : decode cX4_cutByNearCounts 55 = .ok (.goto (-22), 3) := by decide +kernel
theorem dX4_cutByNearCounts_58 : decode cX4_cutByNearCounts 58 = .ok (.iinc 3 1, 3) := by decide +kernel
theorem dX4_cutByNearCounts_61 : decode cX4_cutByNearCounts 61 = .ok (.goto (-59), 3) := by decide +kernel
theorem dX4_cutByNearCounts_64 : decode cX4_cutByNearCounts 64 = .ok (.return_, 1) := by decide +kernel
set_option maxRecDepth 20000 in
theorem ggX4_shortestWordApart_X6_all : GoodIn wsX4_shortestWordApart wsX6_all := goodIn_r _ [8, 9, 69, 70, 71, 72, 73, 74, 75, 76] (by decide +kernel) (by decide +kernel)
set_option maxRecDepth 20000 in
theorem gX4_shortestWordApart_X6_all : GoodIn wsX4_shortestWordApart (wsV RX4 79 RX6 yX6_all wsX6_all) := goodIn_app (goodIn_of _ (by decide +kernel)) ggX4_shortestWordApart_X6_all
set_option maxRecDepth 20000 in
theorem ggX4_shortestWordApart_X5_gather : GoodIn wsX4_shortestWordApart wsX5_gather := goodIn_r _ [14, 15, 16, 78, 79] (by decide +kernel) (by decide +kernel)
set_option maxRecDepth 20000 in
theorem gX4_shortestWordApart_X5_gather : GoodIn wsX4_shortestWordApart (wsV RX4 83 RX5 yX5_gather wsX5_gather) := goodIn_app (goodIn_of _ (by decide +kernel)) ggX4_shortestWordApart_X5_gather
set_option maxRecDepth 20000 in
theorem ggX4_shortestWordApart_X5_cutBy : GoodIn wsX4_shortestWordApart wsX5_cutBy := goodIn_r _ [20, 16, 15, 21, 22, 23, 13, 24, 78, 79] (by decide +kernel) (by decide +kernel)
set_option maxRecDepth 20000 in
theorem gX4_shortestWordApart_X5_cutBy : GoodIn wsX4_shortestWordApart (wsV RX4 24 RX5 yX5_cutBy wsX5_cutBy) := goodIn_app (goodIn_of _ (by decide +kernel)) ggX4_shortestWordApart_X5_cutBy
set_option maxRecDepth 20000 in
theorem ggX4_shortestWordApart_X5_placeOf : GoodIn wsX4_shortestWordApart wsX5_placeOf := goodIn_r _ [28, 16, 15, 78, 79] (by decide +kernel) (by decide +kernel)
set_option maxRecDepth 20000 in
theorem gX4_shortestWordApart_X5_placeOf : GoodIn wsX4_shortestWordApart (wsV RX4 86 RX5 yX5_placeOf wsX5_placeOf) := goodIn_app (goodIn_of _ (by decide +kernel)) ggX4_shortestWordApart_X5_placeOf
set_option maxRecDepth 20000 in
theorem ggX4_shortestWordApart_X5_copyFrom : GoodIn wsX4_shortestWordApart wsX5_copyFrom := goodIn_r _ [32, 15, 33, 34, 35, 36, 16, 78, 79] (by decide +kernel) (by decide +kernel)
set_option maxRecDepth 20000 in
theorem gX4_shortestWordApart_X5_copyFrom : GoodIn wsX4_shortestWordApart (wsV RX4 43 RX5 yX5_copyFrom wsX5_copyFrom) := goodIn_app (goodIn_of _ (by decide +kernel)) ggX4_shortestWordApart_X5_copyFrom
set_option maxRecDepth 20000 in
theorem ggX4_shortestWordApart_X4_cutByLetters : GoodIn wsX4_shortestWordApart wsX4_cutByLetters := goodIn_r _ [41, 42, 2, 3, 43, 44, 45, 13, 46, 15, 47, 48, 49, 50, 16, 51, 52, 53, 7, 54, 9, 55, 56, 57, 58, 59, 60, 61, 62, 63, 64, 65, 66, 67, 68, 17, 18, 19, 20, 21, 22, 23, 24, 69, 70, 71, 72, 73, 74, 75, 76, 77, 78, 79] (by decide +kernel) (by decide +kernel)
set_option maxRecDepth 20000 in
theorem gX4_shortestWordApart_X4_cutByLetters : GoodIn wsX4_shortestWordApart (wsV RX4 47 RX4 yX4_cutByLetters wsX4_cutByLetters) := goodIn_app (goodIn_of _ (by decide +kernel)) ggX4_shortestWordApart_X4_cutByLetters
theorem dX4_shortestWordApart_0 : decode cX4_shortestWordApart 0 = .ok (.aload_n 2, 1) := by decide +kernel
theorem dX4_shortestWordApart_1 : decode cX4_shortestWordApart 1 = .ok (.aload_n 1, 1) := by decide +kernel
theorem dX4_shortestWordApart_2 : decode cX4_shortestWordApart 2 = .ok (.invokevirtual 79, 3) := by decide +kernel
theorem dX4_shortestWordApart_5 : decode cX4_shortestWordApart 5 = .ok (.invokevirtual 83, 3) := by decide +kernel
theorem dX4_shortestWordApart_8 : decode cX4_shortestWordApart 8 = .ok (.aload_n 2, 1) := by decide +kernel
theorem dX4_shortestWordApart_9 : decode cX4_shortestWordApart 9 = .ok (.aload_n 1, 1) := by decide +kernel
theorem dX4_shortestWordApart_10 : decode cX4_shortestWordApart 10 = .ok (.getfield 18, 3) := by decide +kernel
theorem dX4_shortestWordApart_13 : decode cX4_shortestWordApart 13 = .ok (.invokevirtual 24, 3) := by decide +kernel
theorem dX4_shortestWordApart_16 : decode cX4_shortestWordApart 16 = .ok (.iconst 0, 1) := by decide +kernel
theorem dX4_shortestWordApart_17 : decode cX4_shortestWordApart 17 = .ok (.istore 5, 2) := by decide +kernel
theorem dX4_shortestWordApart_19 : decode cX4_shortestWordApart 19 = .ok (.iload 5, 2) := by decide +kernel
theorem dX4_shortestWordApart_21 : decode cX4_shortestWordApart 21 = .ok (.bipush 12, 2) := by decide +kernel
theorem dX4_shortestWordApart_23 : decode cX4_shortestWordApart 23 = .ok (.if_icmp .ge 57, 3) := by decide +kernel
theorem dX4_shortestWordApart_26 : decode cX4_shortestWordApart 26 = .ok (.aload_n 2, 1) := by decide +kernel
theorem dX4_shortestWordApart_27 : decode cX4_shortestWordApart 27 = .ok (.iload_n 3, 1) := by decide +kernel
theorem dX4_shortestWordApart_28 : decode cX4_shortestWordApart 28 = .ok (.invokevirtual 86, 3) := by decide +kernel
theorem dX4_shortestWordApart_31 : decode cX4_shortestWordApart 31 = .ok (.aload_n 2, 1) := by decide +kernel
theorem dX4_shortestWordApart_32 : decode cX4_shortestWordApart 32 = .ok (.iload 4, 2) := by decide +kernel
theorem dX4_shortestWordApart_34 : decode cX4_shortestWordApart 34 = .ok (.invokevirtual 86, 3) := by decide +kernel
theorem dX4_shortestWordApart_37 : decode cX4_shortestWordApart 37 = .ok (.if_icmp .eq 6, 3) := by decide +kernel
theorem dX4_shortestWordApart_40 : decode cX4_shortestWordApart 40 = .ok (.iload 5, 2) := by decide +kernel
theorem dX4_shortestWordApart_42 : decode cX4_shortestWordApart 42 = .ok (.ireturn, 1) := by decide +kernel
theorem dX4_shortestWordApart_43 : decode cX4_shortestWordApart 43 = .ok (.aload_n 0, 1) := by decide +kernel
theorem dX4_shortestWordApart_44 : decode cX4_shortestWordApart 44 = .ok (.getfield 12, 3) := by decide +kernel
theorem dX4_shortestWordApart_47 : decode cX4_shortestWordApart 47 = .ok (.aload_n 2, 1) := by decide +kernel
theorem dX4_shortestWordApart_48 : decode cX4_shortestWordApart 48 = .ok (.invokevirtual 43, 3) := by decide +kernel
theorem dX4_shortestWordApart_51 : decode cX4_shortestWordApart 51 = .ok (.aload_n 0, 1) := by decide +kernel
theorem dX4_shortestWordApart_52 : decode cX4_shortestWordApart 52 = .ok (.aload_n 1, 1) := by decide +kernel
theorem dX4_shortestWordApart_53 : decode cX4_shortestWordApart 53 = .ok (.aload_n 2, 1) := by decide +kernel
theorem dX4_shortestWordApart_54 : decode cX4_shortestWordApart 54 = .ok (.invokevirtual 47, 3) := by decide +kernel
