theorem dX6_takeLetters_29 : decode cX6_takeLetters 29 = .ok (.aload_n 0, 1) := by decide +kernel
theorem dX6_takeLetters_30 : decode cX6_takeLetters 30 = .ok (.iload 4, 2) := by decide +kernel
theorem dX6_takeLetters_32 : decode cX6_takeLetters 32 = .ok (.iload_n 3, 1) := by decide +kernel
theorem dX6_takeLetters_33 : decode cX6_takeLetters 33 = .ok (.iload 4, 2) := by decide +kernel
theorem dX6_takeLetters_35 : decode cX6_takeLetters 35 = .ok (.invokevirtual 78, 3) := by decide +kernel
theorem dX6_takeLetters_38 : decode cX6_takeLetters 38 = .ok (.iinc 4 1, 3) := by decide +kernel
theorem dX6_takeLetters_41 : decode cX6_takeLetters 41 = .ok (.goto (-21), 3) := by decide +kernel
theorem dX6_takeLetters_44 : decode cX6_takeLetters 44 = .ok (.iinc 3 1, 3) := by decide +kernel
theorem dX6_takeLetters_47 : decode cX6_takeLetters 47 = .ok (.goto (-35), 3) := by decide +kernel
theorem dX6_takeLetters_50 : decode cX6_takeLetters 50 = .ok (.return_, 1) := by decide +kernel
set_option maxRecDepth 20000 in
theorem ggX6_isEdge_X6_hasItem : GoodIn wsX6_isEdge wsX6_hasItem := goodIn_r _ [6, 7, 8, 9, 10, 11, 12, 13, 14, 15] (by decide +kernel) (by decide +kernel)
set_option maxRecDepth 20000 in
theorem gX6_isEdge_X6_hasItem : GoodIn wsX6_isEdge (wsV RX6 71 RX6 yX6_hasItem wsX6_hasItem) := goodIn_app (goodIn_of _ (by decide +kernel)) ggX6_isEdge_X6_hasItem
theorem dX6_isEdge_0 : decode cX6_isEdge 0 = .ok (.aload_n 0, 1) := by decide +kernel
theorem dX6_isEdge_1 : decode cX6_isEdge 1 = .ok (.iload_n 1, 1) := by decide +kernel
theorem dX6_isEdge_2 : decode cX6_isEdge 2 = .ok (.invokevirtual 71, 3) := by decide +kernel
theorem dX6_isEdge_5 : decode cX6_isEdge 5 = .ok (.ifCond .eq 20, 3) := by decide +kernel
theorem dX6_isEdge_8 : decode cX6_isEdge 8 = .ok (.aload_n 0, 1) := by decide +kernel
theorem dX6_isEdge_9 : decode cX6_isEdge 9 = .ok (.getfield 15, 3) := by decide +kernel
theorem dX6_isEdge_12 : decode cX6_isEdge 12 = .ok (.iload_n 1, 1) := by decide +kernel
theorem dX6_isEdge_13 : decode cX6_isEdge 13 = .ok (.iaload, 1) := by decide +kernel
theorem dX6_isEdge_14 : decode cX6_isEdge 14 = .ok (.iload_n 2, 1) := by decide +kernel
theorem dX6_isEdge_15 : decode cX6_isEdge 15 = .ok (.ishr, 1) := by decide +kernel
theorem dX6_isEdge_16 : decode cX6_isEdge 16 = .ok (.iconst 1, 1) := by decide +kernel
theorem dX6_isEdge_17 : decode cX6_isEdge 17 = .ok (.iand, 1) := by decide +kernel
theorem dX6_isEdge_18 : decode cX6_isEdge 18 = .ok (.ifCond .eq 7, 3) := by decide +kernel
theorem dX6_isEdge_21 : decode cX6_isEdge 21 = .ok (.iconst 1, 1) := by decide +kernel
theorem dX6_isEdge_22 : decode cX6_isEdge 22 = .ok (.goto 4, 3) := by decide +kernel
theorem dX6_isEdge_25 : decode cX6_isEdge 25 = .ok (.iconst 0, 1) := by decide +kernel
theorem dX6_isEdge_26 : decode cX6_isEdge 26 = .ok (.ireturn, 1) := by decide +kernel
set_option maxRecDepth 20000 in
theorem ggX6_flipEdge_X6_hasItem : GoodIn wsX6_flipEdge wsX6_hasItem := goodIn_r _ [6, 7, 8, 9, 10, 11, 12, 13, 14, 15] (by decide +kernel) (by decide +kernel)
set_option maxRecDepth 20000 in
theorem gX6_flipEdge_X6_hasItem : GoodIn wsX6_flipEdge (wsV RX6 71 RX6 yX6_hasItem wsX6_hasItem) := goodIn_app (goodIn_of _ (by decide +kernel)) ggX6_flipEdge_X6_hasItem
theorem dX6_flipEdge_0 : decode cX6_flipEdge 0 = .ok (.aload_n 0, 1) := by decide +kernel
theorem dX6_flipEdge_1 : decode cX6_flipEdge 1 = .ok (.iload_n 1, 1) := by decide +kernel
theorem dX6_flipEdge_2 : decode cX6_flipEdge 2 = .ok (.invokevirtual 71, 3) := by decide +kernel
theorem dX6_flipEdge_5 : decode cX6_flipEdge 5 = .ok (.ifCond .eq 40, 3) := by decide +kernel
theorem dX6_flipEdge_8 : decode cX6_flipEdge 8 = .ok (.aload_n 0, 1) := by decide +kernel
theorem dX6_flipEdge_9 : decode cX6_flipEdge 9 = .ok (.iload_n 2, 1) := by decide +kernel
theorem dX6_flipEdge_10 : decode cX6_flipEdge 10 = .ok (.invokevirtual 71, 3) := by decide +kernel
theorem dX6_flipEdge_13 : decode cX6_flipEdge 13 = .ok (.ifCond .eq 32, 3) := by decide +kernel
theorem dX6_flipEdge_16 : decode cX6_flipEdge 16 = .ok (.iload_n 1, 1) := by decide +kernel
theorem dX6_flipEdge_17 : decode cX6_flipEdge 17 = .ok (.iload_n 2, 1) := by decide +kernel
theorem dX6_flipEdge_18 : decode cX6_flipEdge 18 = .ok (.if_icmp .eq 27, 3) := by decide +kernel
theorem dX6_flipEdge_21 : decode cX6_flipEdge 21 = .ok (.aload_n 0, 1) := by decide +kernel
theorem dX6_flipEdge_22 : decode cX6_flipEdge 22 = .ok (.getfield 15, 3) := by decide +kernel
theorem dX6_flipEdge_25 : decode cX6_flipEdge 25 = .ok (.iload_n 1, 1) := by decide +kernel
theorem dX6_flipEdge_26 : decode cX6_flipEdge 26 = .ok (.dup2, 1) := by decide +kernel
theorem dX6_flipEdge_27 : decode cX6_flipEdge 27 = .ok (.iaload, 1) := by decide +kernel
theorem dX6_flipEdge_28 : decode cX6_flipEdge 28 = .ok (.iconst 1, 1) := by decide +kernel
theorem dX6_flipEdge_29 : decode cX6_flipEdge 29 = .ok (.iload_n 2, 1) := by decide +kernel
theorem dX6_flipEdge_30 : decode cX6_flipEdge 30 = .ok (.ishl, 1) := by decide +kernel
theorem dX6_flipEdge_31 : decode cX6_flipEdge 31 = .ok (.ixor, 1) := by decide +kernel
theorem dX6_flipEdge_32 : decode cX6_flipEdge 32 = .ok (.iastore, 1) := by decide +kernel
theorem dX6_flipEdge_33 : decode cX6_flipEdge 33 = .ok (.aload_n 0, 1) := by decide +kernel
theorem dX6_flipEdge_34 : decode cX6_flipEdge 34 = .ok (.getfield 15, 3) := by decide +kernel
theorem dX6_flipEdge_37 : decode cX6_flipEdge 37 = .ok (.iload_n 2, 1) := by decide +kernel
theorem dX6_flipEdge_38 : decode cX6_flipEdge 38 = .ok (.dup2, 1) := by decide +kernel
theorem dX6_flipEdge_39 : decode cX6_flipEdge 39 = .ok (.iaload, 1) := by decide +kernel
theorem dX6_flipEdge_40 : decode cX6_flipEdge 40 = .ok (.iconst 1, 1) := by decide +kernel
theorem dX6_flipEdge_41 : decode cX6_flipEdge 41 = .ok (.iload_n 1, 1) := by decide +kernel
theorem dX6_flipEdge_42 : decode cX6_flipEdge 42 = .ok (.ishl, 1) := by decide +kernel
theorem dX6_flipEdge_43 : decode cX6_flipEdge 43 = .ok (.ixor, 1) := by decide +kernel
theorem dX6_flipEdge_44 : decode cX6_flipEdge 44 = .ok (.iastore, 1) := by decide +kernel
theorem dX6_flipEdge_45 : decode cX6_flipEdge 45 = .ok (.return_, 1) := by decide +kernel
set_option maxRecDepth 20000 in
theorem ggX6_edgeCount_J6_bitCount_0f7a4 : GoodIn wsX6_edgeCount wsJ6_bitCount_0f7a4 := goodIn_r _ [6, 7, 8, 9] (by decide +kernel) (by decide +kernel)
set_option maxRecDepth 20000 in
theorem gX6_edgeCount_J6_bitCount_0f7a4 : GoodIn wsX6_edgeCount (va_wsS RX6 82 yJ6_bitCount_0f7a4 wsJ6_bitCount_0f7a4) := goodIn_app (goodIn_of _ (by decide +kernel)) ggX6_edgeCount_J6_bitCount_0f7a4
theorem dX6_edgeCount_0 : decode cX6_edgeCount 0 = .ok (.iconst 0, 1) := by decide +kernel
theorem dX6_edgeCount_1 : decode cX6_edgeCount 1 = .ok (.istore_n 1, 1) := by decide +kernel
theorem dX6_edgeCount_2 : decode cX6_edgeCount 2 = .ok (.iconst 0, 1) := by decide +kernel
theorem dX6_edgeCount_3 : decode cX6_edgeCount 3 = .ok (.istore_n 2, 1) := by decide +kernel
theorem dX6_edgeCount_4 : decode cX6_edgeCount 4 = .ok (.iload_n 2, 1) := by decide +kernel
theorem dX6_edgeCount_5 : decode cX6_edgeCount 5 = .ok (.aload_n 0, 1) := by decide +kernel
theorem dX6_edgeCount_6 : decode cX6_edgeCount 6 = .ok (.getfield 32, 3) := by decide +kernel
theorem dX6_edgeCount_9 : decode cX6_edgeCount 9 = .ok (.if_icmp .ge 21, 3) := by decide +kernel
theorem dX6_edgeCount_12 : decode cX6_edgeCount 12 = .ok (.iload_n 1, 1) := by decide +kernel
theorem dX6_edgeCount_13 : decode cX6_edgeCount 13 = .ok (.aload_n 0, 1) := by decide +kernel
theorem dX6_edgeCount_14 : decode cX6_edgeCount 14 = .ok (.getfield 15, 3) := by decide +kernel
theorem dX6_edgeCount_17 : decode cX6_edgeCount 17 = .ok (.iload_n 2, 1) := by decide +kernel
theorem dX6_edgeCount_18 : decode cX6_edgeCount 18 = .ok (.iaload, 1) := by decide +kernel
theorem dX6_edgeCount_19 : decode cX6_edgeCount 19 = .ok (.invokestatic 82, 3) := by decide +kernel
theorem dX6_edgeCount_22 : decode cX6_edgeCount 22 = .ok (.iadd, 1) := by decide +kernel
theorem dX6_edgeCount_23 : decode cX6_edgeCount 23 = .ok (.istore_n 1, 1) := by decide +kernel
theorem dX6_edgeCount_24 : decode cX6_edgeCount 24 = .ok (.iinc 2 1, 3) := by decide +kernel
theorem dX6_edgeCount_27 : decode cX6_edgeCount 27 = .ok (.goto (-23), 3) := by decide +kernel
theorem dX6_edgeCount_30 : decode cX6_edgeCount 30 = .ok (.iload_n 1, 1) := by decide +kernel
theorem dX6_edgeCount_31 : decode cX6_edgeCount 31 = .ok (.iconst 2, 1) := by decide +kernel
theorem dX6_edgeCount_32 : decode cX6_edgeCount 32 = .ok (.idiv, 1) := by decide +kernel
theorem dX6_edgeCount_33 : decode cX6_edgeCount 33 = .ok (.ireturn, 1) := by decide +kernel
set_option maxRecDepth 20000 in
theorem ggX6_setOfKind_X6_hasItem : GoodIn wsX6_setOfKind wsX6_hasItem := goodIn_r _ [7, 8, 50, 51, 52, 53, 54, 55, 56, 57] (by decide +kernel) (by decide +kernel)
set_option maxRecDepth 20000 in
theorem gX6_setOfKind_X6_hasItem : GoodIn wsX6_setOfKind (wsV RX6 71 RX6 yX6_hasItem wsX6_hasItem) := goodIn_app (goodIn_of _ (by decide +kernel)) ggX6_setOfKind_X6_hasItem
set_option maxRecDepth 20000 in
theorem ggX6_setOfKind_X6_itemsWithColumn : GoodIn wsX6_setOfKind wsX6_itemsWithColumn := goodIn_r _ [12, 8, 13, 50, 51, 52, 53, 54, 55, 56, 57] (by decide +kernel) (by decide +kernel)
set_option maxRecDepth 20000 in
theorem gX6_setOfKind_X6_itemsWithColumn : GoodIn wsX6_setOfKind (wsV RX6 88 RX6 yX6_itemsWithColumn wsX6_itemsWithColumn) := goodIn_app (goodIn_of _ (by decide +kernel)) ggX6_setOfKind_X6_itemsWithColumn
set_option maxRecDepth 20000 in
theorem ggX6_setOfKind_X5_setAt : GoodIn wsX6_setOfKind wsX5_setAt := goodIn_r _ [18, 19, 20, 21, 22, 17, 23, 24, 58, 59] (by decide +kernel) (by decide +kernel)
set_option maxRecDepth 20000 in
theorem gX6_setOfKind_X5_setAt : GoodIn wsX6_setOfKind (wsV RX6 91 RX5 yX5_setAt wsX5_setAt) := goodIn_app (goodIn_of _ (by decide +kernel)) ggX6_setOfKind_X5_setAt
set_option maxRecDepth 20000 in
theorem ggX6_setOfKind_X6_itemsThatGoInto : GoodIn wsX6_setOfKind wsX6_itemsThatGoInto := goodIn_r _ [28, 8, 29, 30, 31, 6, 32, 33, 3, 4, 5, 7, 34, 35, 36, 37, 38, 50, 51, 52, 53, 54, 55, 56, 57] (by decide +kernel) (by decide +kernel)
set_option maxRecDepth 20000 in
theorem gX6_setOfKind_X6_itemsThatGoInto : GoodIn wsX6_setOfKind (wsV RX6 94 RX6 yX6_itemsThatGoInto wsX6_itemsThatGoInto) := goodIn_app (goodIn_of _ (by decide +kernel)) ggX6_setOfKind_X6_itemsThatGoInto
set_option maxRecDepth 20000 in
theorem ggX6_setOfKind_X6_itemsWithNearIn : GoodIn wsX6_setOfKind wsX6_itemsWithNearIn := goodIn_r _ [42, 8, 1, 43, 44, 45, 46, 47, 48, 49, 50, 51, 52, 53, 54, 55, 56, 57] (by decide +kernel) (by decide +kernel)
set_option maxRecDepth 20000 in
theorem gX6_setOfKind_X6_itemsWithNearIn : GoodIn wsX6_setOfKind (wsV RX6 98 RX6 yX6_itemsWithNearIn wsX6_itemsWithNearIn) := goodIn_app (goodIn_of _ (by decide +kernel)) ggX6_setOfKind_X6_itemsWithNearIn
theorem dX6_setOfKind_0 : decode cX6_setOfKind 0 = .ok (.iload_n 2, 1) := by decide +kernel
theorem dX6_setOfKind_1 : decode cX6_setOfKind 1 = .ok (.tableswitch 116 0 5 #[39, 58, 81, 87, 99, 104], 39) := by decide +kernel
theorem dX6_setOfKind_40 : decode cX6_setOfKind 40 = .ok (.aload_n 0, 1) := by decide +kernel
theorem dX6_setOfKind_41 : decode cX6_setOfKind 41 = .ok (.iload_n 3, 1) := by decide +kernel
theorem dX6_setOfKind_42 : decode cX6_setOfKind 42 = .ok (.invokevirtual 71, 3) := by decide +kernel
theorem dX6_setOfKind_45 : decode cX6_setOfKind 45 = .ok (.ifCond .eq 12, 3) := by decide +kernel
theorem dX6_setOfKind_48 : decode cX6_setOfKind 48 = .ok (.aload_n 0, 1) := by decide +kernel
theorem dX6_setOfKind_49 : decode cX6_setOfKind 49 = .ok (.getfield 15, 3) := by decide +kernel
theorem dX6_setOfKind_52 : decode cX6_setOfKind 52 = .ok (.iload_n 3, 1) := by decide +kernel
theorem dX6_setOfKind_53 : decode cX6_setOfKind 53 = .ok (.iaload, 1) := by decide +kernel
theorem dX6_setOfKind_54 : decode cX6_setOfKind 54 = .ok (.goto 4, 3) := by decide +kernel
theorem dX6_setOfKind_57 : decode cX6_setOfKind 57 = .ok (.iconst 0, 1) := by decide +kernel
theorem dX6_setOfKind_58 : decode cX6_setOfKind 58 = .ok (.ireturn, 1) := by decide +kernel
theorem dX6_setOfKind_59 : decode cX6_setOfKind 59 = .ok (.aload_n 0, 1) := by decide +kernel
theorem dX6_setOfKind_60 : decode cX6_setOfKind 60 = .ok (.iload_n 3, 1) := by decide +kernel
theorem dX6_setOfKind_61 : decode cX6_setOfKind 61 = .ok (.invokevirtual 71, 3) := by decide +kernel
theorem dX6_setOfKind_64 : decode cX6_setOfKind 64 = .ok (.ifCond .eq 16, 3) := by decide +kernel
theorem dX6_setOfKind_67 : decode cX6_setOfKind 67 = .ok (.aload_n 0, 1) := by decide +kernel
theorem dX6_setOfKind_68 : decode cX6_setOfKind 68 = .ok (.getfield 15, 3) := by decide +kernel
theorem dX6_setOfKind_71 : decode cX6_setOfKind 71 = .ok (.iload_n 3, 1) := by decide +kernel
theorem dX6_setOfKind_72 : decode cX6_setOfKind 72 = .ok (.iaload, 1) := by decide +kernel
theorem dX6_setOfKind_73 : decode cX6_setOfKind 73 = .ok (.iconst 1, 1) := by decide +kernel
theorem dX6_setOfKind_74 : decode cX6_setOfKind 74 = .ok (.iload_n 3, 1) := by decide +kernel
theorem dX6_setOfKind_75 : decode cX6_setOfKind 75 = .ok (.ishl, 1) := by decide +kernel
theorem dX6_setOfKind_76 : decode cX6_setOfKind 76 = .ok (.ior, 1) := by decide +kernel
theorem dX6_setOfKind_77 : decode cX6_setOfKind 77 = .ok (.goto 4, 3) := by decide +kernel
theorem dX6_setOfKind_80 : decode cX6_setOfKind 80 = .ok (.iconst 0, 1) := by decide +kernel
theorem dX6_setOfKind_81 : decode cX6_setOfKind 81 = .ok (.ireturn, 1) := by decide +kernel
theorem dX6_setOfKind_82 : decode cX6_setOfKind 82 = .ok (.aload_n 0, 1) := by decide +kernel
theorem dX6_setOfKind_83 : decode cX6_setOfKind 83 = .ok (.iload_n 3, 1) := by decide +kernel
theorem dX6_setOfKind_84 : decode cX6_setOfKind 84 = .ok (.invokevirtual 88, 3) := by decide +kernel
theorem dX6_setOfKind_87 : decode cX6_setOfKind 87 = .ok (.ireturn, 1) := by decide +kernel
theorem dX6_setOfKind_88 : decode cX6_setOfKind 88 = .ok (.aload_n 0, 1) := by decide +kernel
theorem dX6_setOfKind_89 : decode cX6_setOfKind 89 = .ok (.iload_n 3, 1) := by decide +kernel
theorem dX6_setOfKind_90 : decode cX6_setOfKind 90 = .ok (.aload_n 1, 1) := by decide +kernel
theorem dX6_setOfKind_91 : decode cX6_setOfKind 91 = .ok (.iload 4, 2) := by decide +kernel
theorem dX6_setOfKind_93 : decode cX6_setOfKind 93 = .ok (.invokevirtual 91, 3) := by decide +kernel
theorem dX6_setOfKind_96 : decode cX6_setOfKind 96 = .ok (.invokevirtual 94, 3) := by decide +kernel
theorem dX6_setOfKind_99 : decode cX6_setOfKind 99 = .ok (.ireturn, 1) := by decide +kernel
theorem dX6_setOfKind_100 : decode cX6_setOfKind 100 = .ok (.aload_n 0, 1) := by decide +kernel
theorem dX6_setOfKind_101 : decode cX6_setOfKind 101 = .ok (.getfield 48, 3) := by decide +kernel
theorem dX6_setOfKind_104 : decode cX6_setOfKind 104 = .ok (.ireturn, 1) := by decide +kernel
theorem dX6_setOfKind_105 : decode cX6_setOfKind 105 = .ok (.aload_n 0, 1) := by decide +kernel
theorem dX6_setOfKind_106 : decode cX6_setOfKind 106 = .ok (.aload_n 1, 1) := by decide +kernel
theorem dX6_setOfKind_107 : decode cX6_setOfKind 107 = .ok (.iload_n 3, 1) := by decide +kernel
theorem dX6_setOfKind_108 : decode cX6_setOfKind 108 = .ok (.invokevirtual 91, 3) := by decide +kernel
theorem dX6_setOfKind_111 : decode cX6_setOfKind 111 = .ok (.iload 4, 2) := by decide +kernel
theorem dX6_setOfKind_113 : decode cX6_setOfKind 113 = .ok (.invokevirtual 98, 3) := by decide +kernel
theorem dX6_setOfKind_116 : decode cX6_setOfKind 116 = .ok (.ireturn, 1) := by decide +kernel
theorem dX6_setOfKind_117 : decode cX6_setOfKind 117 = .ok (.iconst 0, 1) := by decide +kernel
theorem dX6_setOfKind_118 : decode cX6_setOfKind 118 = .ok (.ireturn, 1) := by decide +kernel
theorem dX6_itemsWithColumn_0 : decode cX6_itemsWithColumn 0 = .ok (.iconst 0, 1) := by decide +kernel
theorem dX6_itemsWithColumn_1 : decode cX6_itemsWithColumn 1 = .ok (.istore_n 2, 1) := by decide +kernel
theorem dX6_itemsWithColumn_2 : decode cX6_itemsWithColumn 2 = .ok (.iconst 0, 1) := by decide +kernel
theorem dX6_itemsWithColumn_3 : decode cX6_itemsWithColumn 3 = .ok (.istore_n 3, 1) := by decide +kernel
theorem dX6_itemsWithColumn_4 : decode cX6_itemsWithColumn 4 = .ok (.iload_n 3, 1) := by decide +kernel
theorem dX6_itemsWithColumn_5 : decode cX6_itemsWithColumn 5 = .ok (.aload_n 0, 1) := by decide +kernel
theorem dX6_itemsWithColumn_6 : decode cX6_itemsWithColumn 6 = .ok (.getfield 32, 3) := by decide +kernel
theorem dX6_itemsWithColumn_9 : decode cX6_itemsWithColumn 9 = .ok (.if_icmp .ge 24, 3) := by decide +kernel
theorem dX6_itemsWithColumn_12 : decode cX6_itemsWithColumn 12 = .ok (.iload_n 2, 1) := by decide +kernel
theorem dX6_itemsWithColumn_13 : decode cX6_itemsWithColumn 13 = .ok (.aload_n 0, 1) := by decide +kernel
theorem dX6_itemsWithColumn_14 : decode cX6_itemsWithColumn 14 = .ok (.getfield 9, 3) := by decide +kernel
theorem dX6_itemsWithColumn_17 : decode cX6_itemsWithColumn 17 = .ok (.iload_n 3, 1) := by decide +kernel
theorem dX6_itemsWithColumn_18 : decode cX6_itemsWithColumn 18 = .ok (.iaload, 1) := by decide +kernel
theorem dX6_itemsWithColumn_19 : decode cX6_itemsWithColumn 19 = .ok (.iload_n 1, 1) := by decide +kernel
theorem dX6_itemsWithColumn_20 : decode cX6_itemsWithColumn 20 = .ok (.ishr, 1) := by decide +kernel
theorem dX6_itemsWithColumn_21 : decode cX6_itemsWithColumn 21 = .ok (.iconst 1, 1) := by decide +kernel
theorem dX6_itemsWithColumn_22 : decode cX6_itemsWithColumn 22 = .ok (.iand, 1) := by decide +kernel
theorem dX6_itemsWithColumn_23 : decode cX6_itemsWithColumn 23 = .ok (.iload_n 3, 1) := by decide +kernel
theorem dX6_itemsWithColumn_24 : decode cX6_itemsWithColumn 24 = .ok (.ishl, 1) := by decide +kernel
theorem dX6_itemsWithColumn_25 : decode cX6_itemsWithColumn 25 = .ok (.ior, 1) := by decide +kernel
theorem dX6_itemsWithColumn_26 : decode cX6_itemsWithColumn 26 = .ok (.istore_n 2, 1) := by decide +kernel
theorem dX6_itemsWithColumn_27 : decode cX6_itemsWithColumn 27 = .ok (.iinc 3 1, 3) := by decide +kernel
theorem dX6_itemsWithColumn_30 : decode cX6_itemsWithColumn 30 = .ok (.goto (-26), 3) := by decide +kernel
theorem dX6_itemsWithColumn_33 : decode cX6_itemsWithColumn 33 = .ok (.iload_n 2, 1) := by decide +kernel
theorem dX6_itemsWithColumn_34 : decode cX6_itemsWithColumn 34 = .ok (.ireturn, 1) := by decide +kernel
set_option maxRecDepth 20000 in
theorem ggX6_itemsThatGoInto_X6_leadsTo : GoodIn wsX6_itemsThatGoInto wsX6_leadsTo := goodIn_r _ [6, 7, 8, 9, 10, 5, 11, 1, 12, 13, 14, 15, 16, 17, 18, 19, 20, 21, 22, 23, 24] (by decide +kernel) (by decide +kernel)
set_option maxRecDepth 20000 in
theorem gX6_itemsThatGoInto_X6_leadsTo : GoodIn wsX6_itemsThatGoInto (wsV RX6 101 RX6 yX6_leadsTo wsX6_leadsTo) := goodIn_app (goodIn_of _ (by decide +kernel)) ggX6_itemsThatGoInto_X6_leadsTo
theorem dX6_itemsThatGoInto_0 : decode cX6_itemsThatGoInto 0 = .ok (.iconst 0, 1) := by decide +kernel
theorem dX6_itemsThatGoInto_1 : decode cX6_itemsThatGoInto 1 = .ok (.istore_n 3, 1) := by decide +kernel
theorem dX6_itemsThatGoInto_2 : decode cX6_itemsThatGoInto 2 = .ok (.iconst 0, 1) := by decide +kernel
theorem dX6_itemsThatGoInto_3 : decode cX6_itemsThatGoInto 3 = .ok (.istore 4, 2) := by decide +kernel
theorem dX6_itemsThatGoInto_5 : decode cX6_itemsThatGoInto 5 = .ok (.iload 4, 2) := by decide +kernel
theorem dX6_itemsThatGoInto_7 : decode cX6_itemsThatGoInto 7 = .ok (.aload_n 0, 1) := by decide +kernel
theorem dX6_itemsThatGoInto_8 : decode cX6_itemsThatGoInto 8 = .ok (.getfield 32, 3) := by decide +kernel
theorem dX6_itemsThatGoInto_11 : decode cX6_itemsThatGoInto 11 = .ok (.if_icmp .ge 26, 3) := by decide +kernel
theorem dX6_itemsThatGoInto_14 : decode cX6_itemsThatGoInto 14 = .ok (.iload_n 3, 1) := by decide +kernel
theorem dX6_itemsThatGoInto_15 : decode cX6_itemsThatGoInto 15 = .ok (.iload_n 2, 1) := by decide +kernel
theorem dX6_itemsThatGoInto_16 : decode cX6_itemsThatGoInto 16 = .ok (.aload_n 0, 1) := by decide +kernel
theorem dX6_itemsThatGoInto_17 : decode cX6_itemsThatGoInto 17 = .ok (.iload 4, 2) := by decide +kernel
theorem dX6_itemsThatGoInto_19 : decode cX6_itemsThatGoInto 19 = .ok (.iload_n 1, 1) := by decide +kernel
theorem dX6_itemsThatGoInto_20 : decode cX6_itemsThatGoInto 20 = .ok (.invokevirtual 101, 3) := by decide +kernel
theorem dX6_itemsThatGoInto_23 : decode cX6_itemsThatGoInto 23 = .ok (.ishr, 1) := by decide +kernel
theorem dX6_itemsThatGoInto_24 : decode cX6_itemsThatGoInto 24 = .ok (.iconst 1, 1) := by decide +kernel
theorem dX6_itemsThatGoInto_25 : decode cX6_itemsThatGoInto 25 = .ok (.iand, 1) := by decide +kernel
theorem dX6_itemsThatGoInto_26 : decode cX6_itemsThatGoInto 26 = .ok (.iload 4, 2) := by decide +kernel
theorem dX6_itemsThatGoInto_28 : decode cX6_itemsThatGoInto 28 = .ok (.ishl, 1) := by decide +kernel
theorem dX6_itemsThatGoInto_29 : decode cX6_itemsThatGoInto 29 = .ok (.ior, 1) := by decide +kernel
theorem dX6_itemsThatGoInto_30 : decode cX6_itemsThatGoInto 30 = .ok (.istore_n 3, 1) := by decide +kernel
theorem dX6_itemsThatGoInto_31 : decode cX6_itemsThatGoInto 31 = .ok (.iinc 4 1, 3) := by decide +kernel
theorem dX6_itemsThatGoInto_34 : decode cX6_itemsThatGoInto 34 = .ok (.goto (-29), 3) := by decide +kernel
theorem dX6_itemsThatGoInto_37 : decode cX6_itemsThatGoInto 37 = .ok (.iload_n 3, 1) := by decide +kernel
theorem dX6_itemsThatGoInto_38 : decode cX6_itemsThatGoInto 38 = .ok (.ireturn, 1) := by decide +kernel
set_option maxRecDepth 20000 in
theorem ggX6_itemsWithNearIn_J6_bitCount_0f7a4 : GoodIn wsX6_itemsWithNearIn wsJ6_bitCount_0f7a4 := goodIn_r _ [6, 7, 8, 9] (by decide +kernel) (by decide +kernel)
set_option maxRecDepth 20000 in
theorem gX6_itemsWithNearIn_J6_bitCount_0f7a4 : GoodIn wsX6_itemsWithNearIn (va_wsS RX6 82 yJ6_bitCount_0f7a4 wsJ6_bitCount_0f7a4) := goodIn_app (goodIn_of _ (by decide +kernel)) ggX6_itemsWithNearIn_J6_bitCount_0f7a4
theorem dX6_itemsWithNearIn_0 : decode cX6_itemsWithNearIn 0 = .ok (.iconst 0, 1) := by decide +kernel
theorem dX6_itemsWithNearIn_1 : decode cX6_itemsWithNearIn 1 = .ok (.istore_n 3, 1) := by decide +kernel
theorem dX6_itemsWithNearIn_2 : decode cX6_itemsWithNearIn 2 = .ok (.iconst 0, 1) := by decide +kernel
theorem dX6_itemsWithNearIn_3 : decode cX6_itemsWithNearIn 3 = .ok (.istore 4, 2) := by decide +kernel
theorem dX6_itemsWithNearIn_5 : decode cX6_itemsWithNearIn 5 = .ok (.iload 4, 2) := by decide +kernel
theorem dX6_itemsWithNearIn_7 : decode cX6_itemsWithNearIn 7 = .ok (.aload_n 0, 1) := by decide +kernel
theorem dX6_itemsWithNearIn_8 : decode cX6_itemsWithNearIn 8 = .ok (.getfield 32, 3) := by decide +kernel
theorem dX6_itemsWithNearIn_11 : decode cX6_itemsWithNearIn 11 = .ok (.if_icmp .ge 32, 3) := by decide +kernel
theorem dX6_itemsWithNearIn_14 : decode cX6_itemsWithNearIn 14 = .ok (.aload_n 0, 1) := by decide +kernel
theorem dX6_itemsWithNearIn_15 : decode cX6_itemsWithNearIn 15 = .ok (.getfield 15, 3) := by decide +kernel
theorem dX6_itemsWithNearIn_18 : decode cX6_itemsWithNearIn 18 = .ok (.iload 4, 2) := by decide +kernel
theorem dX6_itemsWithNearIn_20 : decode cX6_itemsWithNearIn 20 = .ok (.iaload, 1) := by decide +kernel
theorem dX6_itemsWithNearIn_21 : decode cX6_itemsWithNearIn 21 = .ok (.iload_n 1, 1) := by decide +kernel
theorem dX6_itemsWithNearIn_22 : decode cX6_itemsWithNearIn 22 = .ok (.iand, 1) := by decide +kernel
theorem dX6_itemsWithNearIn_23 : decode cX6_itemsWithNearIn 23 = .ok (.invokestatic 82, 3) := by decide +kernel
theorem dX6_itemsWithNearIn_26 : decode cX6_itemsWithNearIn 26 = .ok (.iload_n 2, 1) := by decide +kernel
theorem dX6_itemsWithNearIn_27 : decode cX6_itemsWithNearIn 27 = .ok (.if_icmp .lt 10, 3) := by decide +kernel
theorem dX6_itemsWithNearIn_30 : decode cX6_itemsWithNearIn 30 = .ok (.iload_n 3, 1) := by decide +kernel
theorem dX6_itemsWithNearIn_31 : decode cX6_itemsWithNearIn 31 = .ok (.iconst 1, 1) := by decide +kernel
theorem dX6_itemsWithNearIn_32 : decode cX6_itemsWithNearIn 32 = .ok (.iload 4, 2) := by decide +kernel
theorem dX6_itemsWithNearIn_34 : decode cX6_itemsWithNearIn 34 = .ok (.ishl, 1) := by decide +kernel
theorem dX6_itemsWithNearIn_35 : decode cX6_itemsWithNearIn 35 = .ok (.ior, 1) := by decide +kernel
theorem dX6_itemsWithNearIn_36 : decode cX6_itemsWithNearIn 36 = .ok (.istore_n 3, 1) := by decide +kernel
theorem dX6_itemsWithNearIn_37 : decode cX6_itemsWithNearIn 37 = .ok (.iinc 4 1, 3) := by decide +kernel
theorem dX6_itemsWithNearIn_40 : decode cX6_itemsWithNearIn 40 = .ok (.goto (-35), 3) := by decide +kernel
theorem dX6_itemsWithNearIn_43 : decode cX6_itemsWithNearIn 43 = .ok (.iload_n 3, 1) := by decide +kernel
theorem dX6_itemsWithNearIn_44 : decode cX6_itemsWithNearIn 44 = .ok (.ireturn, 1) := by decide +kernel
set_option maxRecDepth 20000 in
theorem ggX7_init_X5_init : GoodIn wsX7_init wsX5_init := goodIn_r _ [13, 14, 2, 3, 4, 15, 16, 20, 21] (by decide +kernel) (by decide +kernel)
set_option maxRecDepth 20000 in
theorem gX7_init_X5_init : GoodIn wsX7_init (wsX5_init) := ggX7_init_X5_init
theorem dX7_init_0 : decode cX7_init 0 = .ok (.aload_n 0, 1) := by decide +kernel
theorem dX7_init_1 : decode cX7_init 1 = .ok (.invokespecial 3, 3) := by decide +kernel
theorem dX7_init_4 : decode cX7_init 4 = .ok (.aload_n 0, 1) := by decide +kernel
theorem dX7_init_5 : decode cX7_init 5 = .ok (.bipush 12, 2) := by decide +kernel
theorem dX7_init_7 : decode cX7_init 7 = .ok (.newarray .int, 2) := by decide +kernel
theorem dX7_init_9 : decode cX7_init 9 = .ok (.putfield 9, 3) := by decide +kernel
theorem dX7_init_12 : decode cX7_init 12 = .ok (.aload_n 0, 1) := by decide +kernel
theorem dX7_init_13 : decode cX7_init 13 = .ok (.new 15, 3) := by decide +kernel
theorem dX7_init_16 : decode cX7_init 16 = .ok (.dup, 1) := by decide +kernel
theorem dX7_init_17 : decode cX7_init 17 = .ok (.invokespecial 17, 3) := by decide +kernel
theorem dX7_init_20 : decode cX7_init 20 = .ok (.putfield 18, 3) := by decide +kernel
theorem dX7_init_23 : decode cX7_init 23 = .ok (.aload_n 0, 1) := by decide +kernel
theorem dX7_init_24 : decode cX7_init 24 = .ok (.bipush 12, 2) := by decide +kernel
theorem dX7_init_26 : decode cX7_init 26 = .ok (.newarray .int, 2) := by decide +kernel
theorem dX7_init_28 : decode cX7_init 28 = .ok (.putfield 22, 3) := by decide +kernel
theorem dX7_init_31 : decode cX7_init 31 = .ok (.return_, 1) := by decide +kernel
set_option maxRecDepth 20000 in
theorem ggX7_walkFrom_X6_all : GoodIn wsX7_walkFrom wsX6_all := goodIn_r _ [10, 11, 50, 51, 52, 53, 54, 55, 56, 57] (by decide +kernel) (by decide +kernel)
set_option maxRecDepth 20000 in
theorem gX7_walkFrom_X6_all : GoodIn wsX7_walkFrom (wsV RX7 25 RX6 yX6_all wsX6_all) := goodIn_app (goodIn_of _ (by decide +kernel)) ggX7_walkFrom_X6_all
set_option maxRecDepth 20000 in
theorem ggX7_walkFrom_X5_gather : GoodIn wsX7_walkFrom wsX5_gather := goodIn_r _ [16, 17, 18, 58, 59] (by decide +kernel) (by decide +kernel)
set_option maxRecDepth 20000 in
theorem gX7_walkFrom_X5_gather : GoodIn wsX7_walkFrom (wsV RX7 31 RX5 yX5_gather wsX5_gather) := goodIn_app (goodIn_of _ (by decide +kernel)) ggX7_walkFrom_X5_gather
set_option maxRecDepth 20000 in
theorem ggX7_walkFrom_X5_cutBy : GoodIn wsX7_walkFrom wsX5_cutBy := goodIn_r _ [22, 18, 17, 23, 24, 25, 15, 26, 58, 59] (by decide +kernel) (by decide +kernel)
set_option maxRecDepth 20000 in
theorem gX7_walkFrom_X5_cutBy : GoodIn wsX7_walkFrom (wsV RX7 35 RX5 yX5_cutBy wsX5_cutBy) := goodIn_app (goodIn_of _ (by decide +kernel)) ggX7_walkFrom_X5_cutBy
set_option maxRecDepth 20000 in
theorem ggX7_walkFrom_X5_takeLeast : GoodIn wsX7_walkFrom wsX5_takeLeast := goodIn_r _ [30, 18, 17, 31, 32, 15, 33, 34, 35, 36, 37, 38, 39, 40, 41, 42, 58, 59] (by decide +kernel) (by decide +kernel)
set_option maxRecDepth 20000 in
theorem gX7_walkFrom_X5_takeLeast : GoodIn wsX7_walkFrom (wsV RX7 42 RX5 yX5_takeLeast wsX5_takeLeast) := goodIn_app (goodIn_of _ (by decide +kernel)) ggX7_walkFrom_X5_takeLeast
set_option maxRecDepth 20000 in
theorem ggX7_walkFrom_X6_hasItem : GoodIn wsX7_walkFrom wsX6_hasItem := goodIn_r _ [46, 11, 50, 51, 52, 53, 54, 55, 56, 57] (by decide +kernel) (by decide +kernel)
set_option maxRecDepth 20000 in
theorem gX7_walkFrom_X6_hasItem : GoodIn wsX7_walkFrom (wsV RX7 45 RX6 yX6_hasItem wsX6_hasItem) := goodIn_app (goodIn_of _ (by decide +kernel)) ggX7_walkFrom_X6_hasItem
theorem dX7_walkFrom_0 : decode cX7_walkFrom 0 = .ok (.aload_n 0, 1) := by decide +kernel
theorem dX7_walkFrom_1 : decode cX7_walkFrom 1 = .ok (.getfield 18, 3) := by decide +kernel
theorem dX7_walkFrom_4 : decode cX7_walkFrom 4 = .ok (.aload_n 1, 1) := by decide +kernel
theorem dX7_walkFrom_5 : decode cX7_walkFrom 5 = .ok (.invokevirtual 25, 3) := by decide +kernel
theorem dX7_walkFrom_8 : decode cX7_walkFrom 8 = .ok (.invokevirtual 31, 3) := by decide +kernel
theorem dX7_walkFrom_11 : decode cX7_walkFrom 11 = .ok (.aload_n 0, 1) := by decide +kernel
theorem dX7_walkFrom_12 : decode cX7_walkFrom 12 = .ok (.getfield 18, 3) := by decide +kernel
theorem dX7_walkFrom_15 : decode cX7_walkFrom 15 = .ok (.iconst 1, 1) := by decide +kernel
theorem dX7_walkFrom_16 : decode cX7_walkFrom 16 = .ok (.iload_n 2, 1) := by decide +kernel
theorem dX7_walkFrom_17 : decode cX7_walkFrom 17 = .ok (.ishl, 1) := by decide +kernel
theorem dX7_walkFrom_18 : decode cX7_walkFrom 18 = .ok (.invokevirtual 35, 3) := by decide +kernel
theorem dX7_walkFrom_21 : decode cX7_walkFrom 21 = .ok (.iconst 0, 1) := by decide +kernel
theorem dX7_walkFrom_22 : decode cX7_walkFrom 22 = .ok (.istore_n 3, 1) := by decide +kernel
theorem dX7_walkFrom_23 : decode cX7_walkFrom 23 = .ok (.iconst 0, 1) := by decide +kernel
theorem dX7_walkFrom_24 : decode cX7_walkFrom 24 = .ok (.istore 4, 2) := by decide +kernel
theorem dX7_walkFrom_26 : decode cX7_walkFrom 26 = .ok (.iload 4, 2) := by decide +kernel
theorem dX7_walkFrom_28 : decode cX7_walkFrom 28 = .ok (.aload_n 1, 1) := by decide +kernel
theorem dX7_walkFrom_29 : decode cX7_walkFrom 29 = .ok (.getfield 38, 3) := by decide +kernel
theorem dX7_walkFrom_32 : decode cX7_walkFrom 32 = .ok (.if_icmp .ge 68, 3) := by decide +kernel
theorem dX7_walkFrom_35 : decode cX7_walkFrom 35 = .ok (.aload_n 0, 1) := by decide +kernel
theorem dX7_walkFrom_36 : decode cX7_walkFrom 36 = .ok (.getfield 18, 3) := by decide +kernel
theorem dX7_walkFrom_39 : decode cX7_walkFrom 39 = .ok (.invokevirtual 42, 3) := by decide +kernel
theorem dX7_walkFrom_42 : decode cX7_walkFrom 42 = .ok (.istore 5, 2) := by decide +kernel
theorem dX7_walkFrom_44 : decode cX7_walkFrom 44 = .ok (.aload_n 1, 1) := by decide +kernel
theorem dX7_walkFrom_45 : decode cX7_walkFrom 45 = .ok (.iload 5, 2) := by decide +kernel
theorem dX7_walkFrom_47 : decode cX7_walkFrom 47 = .ok (.invokevirtual 45, 3) := by decide +kernel
theorem dX7_walkFrom_50 : decode cX7_walkFrom 50 = .ok (.ifCond .ne 6, 3) := by decide +kernel
theorem dX7_walkFrom_53 : decode cX7_walkFrom 53 = .ok (.goto 47, 3) := by decide +kernel
theorem dX7_walkFrom_56 : decode cX7_walkFrom 56 = .ok (.aload_n 0, 1) := by decide +kernel
theorem dX7_walkFrom_57 : decode cX7_walkFrom 57 = .ok (.getfield 9, 3) := by decide +kernel
theorem dX7_walkFrom_60 : decode cX7_walkFrom 60 = .ok (.iload 4, 2) := by decide +kernel
theorem dX7_walkFrom_62 : decode cX7_walkFrom 62 = .ok (.iload 5, 2) := by decide +kernel
theorem dX7_walkFrom_64 : decode cX7_walkFrom 64 = .ok (.iastore, 1) := by decide +kernel
theorem dX7_walkFrom_65 : decode cX7_walkFrom 65 = .ok (.aload_n 0, 1) := by decide +kernel
theorem dX7_walkFrom_66 : decode cX7_walkFrom 66 = .ok (.getfield 22, 3) := by decide +kernel
theorem dX7_walkFrom_69 : decode cX7_walkFrom 69 = .ok (.iload 4, 2) := by decide +kernel
theorem dX7_walkFrom_71 : decode cX7_walkFrom 71 = .ok (.iload_n 3, 1) := by decide +kernel
theorem dX7_walkFrom_72 : decode cX7_walkFrom 72 = .ok (.iastore, 1) := by decide +kernel
theorem dX7_walkFrom_73 : decode cX7_walkFrom 73 = .ok (.iload_n 3, 1) := by decide +kernel
theorem dX7_walkFrom_74 : decode cX7_walkFrom 74 = .ok (.iconst 1, 1) := by decide +kernel
theorem dX7_walkFrom_75 : decode cX7_walkFrom 75 = .ok (.iload 5, 2) := by decide +kernel
theorem dX7_walkFrom_77 : decode cX7_walkFrom 77 = .ok (.ishl, 1) := by decide +kernel
theorem dX7_walkFrom_78 : decode cX7_walkFrom 78 = .ok (.ior, 1) := by decide +kernel
theorem dX7_walkFrom_79 : decode cX7_walkFrom 79 = .ok (.istore_n 3, 1) := by decide +kernel
theorem dX7_walkFrom_80 : decode cX7_walkFrom 80 = .ok (.aload_n 0, 1) := by decide +kernel
theorem dX7_walkFrom_81 : decode cX7_walkFrom 81 = .ok (.getfield 18, 3) := by decide +kernel
theorem dX7_walkFrom_84 : decode cX7_walkFrom 84 = .ok (.aload_n 1, 1) := by decide +kernel
theorem dX7_walkFrom_85 : decode cX7_walkFrom 85 = .ok (.getfield 49, 3) := by decide +kernel
theorem dX7_walkFrom_88 : decode cX7_walkFrom 88 = .ok (.iload 5, 2) := by decide +kernel
theorem dX7_walkFrom_90 : decode cX7_walkFrom 90 = .ok (.iaload, 1) := by decide +kernel
theorem dX7_walkFrom_91 : decode cX7_walkFrom 91 = .ok (.invokevirtual 35, 3) := by decide +kernel
theorem dX7_walkFrom_94 : decode cX7_walkFrom 94 = .ok (.iinc 4 1, 3) := by decide +kernel
theorem dX7_walkFrom_97 : decode cX7_walkFrom 97 = .ok (.goto (-71), 3) := by decide +kernel
theorem dX7_walkFrom_100 : decode cX7_walkFrom 100 = .ok (.return_, 1) := by decide +kernel
theorem dX7_nearAhead_0 : decode cX7_nearAhead 0 = .ok (.aload_n 1, 1) := by decide +kernel
theorem dX7_nearAhead_1 : decode cX7_nearAhead 1 = .ok (.getfield 49, 3) := by decide +kernel
theorem dX7_nearAhead_4 : decode cX7_nearAhead 4 = .ok (.aload_n 0, 1) := by decide +kernel
theorem dX7_nearAhead_5 : decode cX7_nearAhead 5 = .ok (.getfield 9, 3) := by decide +kernel
theorem dX7_nearAhead_8 : decode cX7_nearAhead 8 = .ok (.iload_n 2, 1) := by decide +kernel
theorem dX7_nearAhead_9 : decode cX7_nearAhead 9 = .ok (.iaload, 1) := by decide +kernel
theorem dX7_nearAhead_10 : decode cX7_nearAhead 10 = .ok (.iaload, 1) := by decide +kernel
theorem dX7_nearAhead_11 : decode cX7_nearAhead 11 = .ok (.aload_n 0, 1) := by decide +kernel
theorem dX7_nearAhead_12 : decode cX7_nearAhead 12 = .ok (.getfield 22, 3) := by decide +kernel
theorem dX7_nearAhead_15 : decode cX7_nearAhead 15 = .ok (.iload_n 2, 1) := by decide +kernel
theorem dX7_nearAhead_16 : decode cX7_nearAhead 16 = .ok (.iaload, 1) := by decide +kernel
theorem dX7_nearAhead_17 : decode cX7_nearAhead 17 = .ok (.iand, 1) := by decide +kernel
theorem dX7_nearAhead_18 : decode cX7_nearAhead 18 = .ok (.ireturn, 1) := by decide +kernel
set_option maxRecDepth 20000 in
theorem ggX7_fault_X7_nearAhead : GoodIn wsX7_fault wsX7_nearAhead := goodIn_r _ [8, 2, 3, 9, 14, 15, 16, 17, 18, 19, 20, 21, 22, 23, 24] (by decide +kernel) (by decide +kernel)
set_option maxRecDepth 20000 in
theorem gX7_fault_X7_nearAhead : GoodIn wsX7_fault (wsV RX7 52 RX7 yX7_nearAhead wsX7_nearAhead) := goodIn_app (goodIn_of _ (by decide +kernel)) ggX7_fault_X7_nearAhead
set_option maxRecDepth 20000 in
theorem ggX7_fault_X7_lastOf : GoodIn wsX7_fault wsX7_lastOf := goodIn_r _ [13, 3, 22, 23, 24] (by decide +kernel) (by decide +kernel)
set_option maxRecDepth 20000 in
theorem gX7_fault_X7_lastOf : GoodIn wsX7_fault (wsV RX7 56 RX7 yX7_lastOf wsX7_lastOf) := goodIn_app (goodIn_of _ (by decide +kernel)) ggX7_fault_X7_lastOf
theorem dX7_fault_0 : decode cX7_fault 0 = .ok (.iconst 0, 1) := by decide +kernel
theorem dX7_fault_1 : decode cX7_fault 1 = .ok (.istore_n 2, 1) := by decide +kernel
theorem dX7_fault_2 : decode cX7_fault 2 = .ok (.iload_n 2, 1) := by decide +kernel
theorem dX7_fault_3 : decode cX7_fault 3 = .ok (.aload_n 1, 1) := by decide +kernel
theorem dX7_fault_4 : decode cX7_fault 4 = .ok (.getfield 38, 3) := by decide +kernel
theorem dX7_fault_7 : decode cX7_fault 7 = .ok (.if_icmp .ge 58, 3) := by decide +kernel
theorem dX7_fault_10 : decode cX7_fault 10 = .ok (.aload_n 0, 1) := by decide +kernel
theorem dX7_fault_11 : decode cX7_fault 11 = .ok (.aload_n 1, 1) := by decide +kernel
theorem dX7_fault_12 : decode cX7_fault 12 = .ok (.iload_n 2, 1) := by decide +kernel
theorem dX7_fault_13 : decode cX7_fault 13 = .ok (.invokevirtual 52, 3) := by decide +kernel
theorem dX7_fault_16 : decode cX7_fault 16 = .ok (.istore_n 3, 1) := by decide +kernel
theorem dX7_fault_17 : decode cX7_fault 17 = .ok (.aload_n 0, 1) := by decide +kernel
theorem dX7_fault_18 : decode cX7_fault 18 = .ok (.iload_n 3, 1) := by decide +kernel
theorem dX7_fault_19 : decode cX7_fault 19 = .ok (.iload_n 2, 1) := by decide +kernel
theorem dX7_fault_20 : decode cX7_fault 20 = .ok (.invokevirtual 56, 3) := by decide +kernel
theorem dX7_fault_23 : decode cX7_fault 23 = .ok (.istore 4, 2) := by decide +kernel
theorem dX7_fault_25 : decode cX7_fault 25 = .ok (.iload 4, 2) := by decide +kernel
theorem dX7_fault_27 : decode cX7_fault 27 = .ok (.iconst (-1), 1) := by decide +kernel
theorem dX7_fault_28 : decode cX7_fault 28 = .ok (.if_icmp .eq 31, 3) := by decide +kernel
theorem dX7_fault_31 : decode cX7_fault 31 = .ok (.iload_n 3, 1) := by decide +kernel
theorem dX7_fault_32 : decode cX7_fault 32 = .ok (.iconst 1, 1) := by decide +kernel
theorem dX7_fault_33 : decode cX7_fault 33 = .ok (.iload 4, 2) := by decide +kernel
theorem dX7_fault_35 : decode cX7_fault 35 = .ok (.ishl, 1) := by decide +kernel
theorem dX7_fault_36 : decode cX7_fault 36 = .ok (.iconst (-1), 1) := by decide +kernel
theorem dX7_fault_37 : decode cX7_fault 37 = .ok (.ixor, 1) := by decide +kernel
theorem dX7_fault_38 : decode cX7_fault 38 = .ok (.iand, 1) := by decide +kernel
theorem dX7_fault_39 : decode cX7_fault 39 = .ok (.aload_n 1, 1) := by decide +kernel
theorem dX7_fault_40 : decode cX7_fault 40 = .ok (.getfield 49, 3) := by decide +kernel
theorem dX7_fault_43 : decode cX7_fault 43 = .ok (.iload 4, 2) := by decide +kernel
theorem dX7_fault_45 : decode cX7_fault 45 = .ok (.iaload, 1) := by decide +kernel
theorem dX7_fault_46 : decode cX7_fault 46 = .ok (.iconst (-1), 1) := by decide +kernel
theorem dX7_fault_47 : decode cX7_fault 47 = .ok (.ixor, 1) := by decide +kernel
theorem dX7_fault_48 : decode cX7_fault 48 = .ok (.iand, 1) := by decide +kernel
theorem dX7_fault_49 : decode cX7_fault 49 = .ok (.ifCond .eq 10, 3) := by decide +kernel
theorem dX7_fault_52 : decode cX7_fault 52 = .ok (.aload_n 0, 1) := by decide +kernel
theorem dX7_fault_53 : decode cX7_fault 53 = .ok (.getfield 9, 3) := by decide +kernel
theorem dX7_fault_56 : decode cX7_fault 56 = .ok (.iload_n 2, 1) := by decide +kernel
theorem dX7_fault_57 : decode cX7_fault 57 = .ok (.iaload, 1) := by decide +kernel
theorem dX7_fault_58 : decode cX7_fault 58 = .ok (.ireturn, 1) := by decide +kernel
theorem dX7_fault_59 : decode cX7_fault 59 = .ok (.iinc 2 1, 3) := by decide +kernel
theorem dX7_fault_62 : decode cX7_fault 62 = .ok (.goto (-60), 3) := by decide +kernel
theorem dX7_fault_65 : decode cX7_fault 65 = .ok (.iconst (-1), 1) := by decide +kernel
theorem dX7_fault_66 : decode cX7_fault 66 = .ok (.ireturn, 1) := by decide +kernel
theorem dX7_lastOf_0 : decode cX7_lastOf 0 = .ok (.iload_n 2, 1) := by decide +kernel
theorem dX7_lastOf_1 : decode cX7_lastOf 1 = .ok (.iconst 1, 1) := by decide +kernel
theorem dX7_lastOf_2 : decode cX7_lastOf 2 = .ok (.isub, 1) := by decide +kernel
theorem dX7_lastOf_3 : decode cX7_lastOf 3 = .ok (.istore_n 3, 1) := by decide +kernel
theorem dX7_lastOf_4 : decode cX7_lastOf 4 = .ok (.iload_n 3, 1) := by decide +kernel
theorem dX7_lastOf_5 : decode cX7_lastOf 5 = .ok (.ifCond .lt 29, 3) := by decide +kernel
theorem dX7_lastOf_8 : decode cX7_lastOf 8 = .ok (.iload_n 1, 1) := by decide +kernel
theorem dX7_lastOf_9 : decode cX7_lastOf 9 = .ok (.aload_n 0, 1) := by decide +kernel
theorem dX7_lastOf_10 : decode cX7_lastOf 10 = .ok (.getfield 9, 3) := by decide +kernel
theorem dX7_lastOf_13 : decode cX7_lastOf 13 = .ok (.iload_n 3, 1) := by decide +kernel
theorem dX7_lastOf_14 : decode cX7_lastOf 14 = .ok (.iaload, 1) := by decide +kernel
theorem dX7_lastOf_15 : decode cX7_lastOf 15 = .ok (.ishr, 1) := by decide +kernel
theorem dX7_lastOf_16 : decode cX7_lastOf 16 = .ok (.iconst 1, 1) := by decide +kernel
theorem dX7_lastOf_17 : decode cX7_lastOf 17 = .ok (.iand, 1) := by decide +kernel
theorem dX7_lastOf_18 : decode cX7_lastOf 18 = .ok (.ifCond .eq 10, 3) := by decide +kernel
theorem dX7_lastOf_21 : decode cX7_lastOf 21 = .ok (.aload_n 0, 1) := by decide +kernel
theorem dX7_lastOf_22 : decode cX7_lastOf 22 = .ok (.getfield 9, 3) := by decide +kernel
theorem dX7_lastOf_25 : decode cX7_lastOf 25 = .ok (.iload_n 3, 1) := by decide +kernel
theorem dX7_lastOf_26 : decode cX7_lastOf 26 = .ok (.iaload, 1) := by decide +kernel
theorem dX7_lastOf_27 : decode cX7_lastOf 27 = .ok (.ireturn, 1) := by decide +kernel
theorem dX7_lastOf_28 : decode cX7_lastOf 28 = .ok (.iinc 3 (-1), 3) := by decide +kernel
theorem dX7_lastOf_31 : decode cX7_lastOf 31 = .ok (.goto (-27), 3) := by decide +kernel
theorem dX7_lastOf_34 : decode cX7_lastOf 34 = .ok (.iconst (-1), 1) := by decide +kernel
theorem dX7_lastOf_35 : decode cX7_lastOf 35 = .ok (.ireturn, 1) := by decide +kernel
set_option maxRecDepth 20000 in
theorem ggX7_clique_X7_nearAhead : GoodIn wsX7_clique wsX7_nearAhead := goodIn_r _ [10, 11, 12, 13, 21, 22, 23, 24, 25, 26, 27, 28, 29, 30, 31] (by decide +kernel) (by decide +kernel)
set_option maxRecDepth 20000 in
theorem gX7_clique_X7_nearAhead : GoodIn wsX7_clique (wsV RX7 52 RX7 yX7_nearAhead wsX7_nearAhead) := goodIn_app (goodIn_of _ (by decide +kernel)) ggX7_clique_X7_nearAhead
set_option maxRecDepth 20000 in
theorem ggX7_clique_J6_bitCount_0f7a4 : GoodIn wsX7_clique wsJ6_bitCount_0f7a4 := goodIn_r _ [17, 18, 19, 20] (by decide +kernel) (by decide +kernel)
set_option maxRecDepth 20000 in
theorem gX7_clique_J6_bitCount_0f7a4 : GoodIn wsX7_clique (va_wsS RX7 60 yJ6_bitCount_0f7a4 wsJ6_bitCount_0f7a4) := goodIn_app (goodIn_of _ (by decide +kernel)) ggX7_clique_J6_bitCount_0f7a4
theorem dX7_clique_0 : decode cX7_clique 0 = .ok (.iconst 0, 1) := by decide +kernel
theorem dX7_clique_1 : decode cX7_clique 1 = .ok (.istore_n 2, 1) := by decide +kernel
theorem dX7_clique_2 : decode cX7_clique 2 = .ok (.iconst 0, 1) := by decide +kernel
theorem dX7_clique_3 : decode cX7_clique 3 = .ok (.istore_n 3, 1) := by decide +kernel
theorem dX7_clique_4 : decode cX7_clique 4 = .ok (.iload_n 3, 1) := by decide +kernel
theorem dX7_clique_5 : decode cX7_clique 5 = .ok (.aload_n 1, 1) := by decide +kernel
theorem dX7_clique_6 : decode cX7_clique 6 = .ok (.getfield 38, 3) := by decide +kernel
theorem dX7_clique_9 : decode cX7_clique 9 = .ok (.if_icmp .ge 25, 3) := by decide +kernel
theorem dX7_clique_12 : decode cX7_clique 12 = .ok (.iload_n 2, 1) := by decide +kernel
theorem dX7_clique_13 : decode cX7_clique 13 = .ok (.iconst 1, 1) := by decide +kernel
theorem dX7_clique_14 : decode cX7_clique 14 = .ok (.aload_n 0, 1) := by decide +kernel
theorem dX7_clique_15 : decode cX7_clique 15 = .ok (.aload_n 1, 1) := by decide +kernel
theorem dX7_clique_16 : decode cX7_clique 16 = .ok (.iload_n 3, 1) := by decide +kernel
theorem dX7_clique_17 : decode cX7_clique 17 = .ok (.invokevirtual 52, 3) := by decide +kernel
theorem dX7_clique_20 : decode cX7_clique 20 = .ok (.invokestatic 60, 3) := by decide +kernel
theorem dX7_clique_23 : decode cX7_clique 23 = .ok (.iadd, 1) := by decide +kernel
theorem dX7_clique_24 : decode cX7_clique 24 = .ok (.invokestatic 66, 3) := by decide +kernel
theorem dX7_clique_27 : decode cX7_clique 27 = .ok (.istore_n 2, 1) := by decide +kernel
theorem dX7_clique_28 : decode cX7_clique 28 = .ok (.iinc 3 1, 3) := by decide +kernel
theorem dX7_clique_31 : decode cX7_clique 31 = .ok (.goto (-27), 3) := by decide +kernel
theorem dX7_clique_34 : decode cX7_clique 34 = .ok (.iload_n 2, 1) := by decide +kernel
theorem dX7_clique_35 : decode cX7_clique 35 = .ok (.ireturn, 1) := by decide +kernel
set_option maxRecDepth 20000 in
theorem ggX8_init_X6_init : GoodIn wsX8_init wsX6_init := goodIn_r _ [38, 39, 2, 3, 40, 41, 42, 43, 44, 29, 30, 45, 46, 47, 48, 49, 50, 51, 52, 53, 54, 6, 55, 56, 57, 58, 59, 60, 61, 62, 63, 64, 65, 66, 67, 68, 69, 70, 71, 72, 73, 74, 75, 76, 77, 78, 79, 80, 81, 82, 83, 84, 85, 86, 87, 135, 136, 137, 138, 139, 140, 141, 142, 164, 165] (by decide +kernel) (by decide +kernel)
set_option maxRecDepth 20000 in
theorem gX8_init_X6_init : GoodIn wsX8_init (wsX6_init) := ggX8_init_X6_init
set_option maxRecDepth 20000 in
theorem ggX8_init_X2_init : GoodIn wsX8_init wsX2_init := goodIn_r _ [90, 91, 2, 3, 92, 93, 5, 6, 94, 95, 96, 37, 38, 39, 40, 41, 42, 43, 44, 29, 30, 45, 46, 47, 48, 49, 50, 51, 52, 53, 54, 55, 56, 57, 58, 59, 60, 61, 62, 63, 64, 65, 66, 67, 68, 69, 70, 71, 72, 73, 74, 75, 76, 77, 78, 79, 80, 81, 82, 83, 84, 85, 86, 87, 151, 152, 153, 135, 136, 137, 138, 139, 140, 141, 142, 164, 165] (by decide +kernel) (by decide +kernel)
set_option maxRecDepth 20000 in
theorem gX8_init_X2_init : GoodIn wsX8_init (wsX2_init) := ggX8_init_X2_init
set_option maxRecDepth 20000 in
theorem ggX8_init_X0_init : GoodIn wsX8_init wsX0_init := goodIn_r _ [99, 100, 2, 3, 40, 101, 102, 103, 154, 155, 156] (by decide +kernel) (by decide +kernel)
set_option maxRecDepth 20000 in
theorem gX8_init_X0_init : GoodIn wsX8_init (wsX0_init) := ggX8_init_X0_init
set_option maxRecDepth 20000 in
theorem ggX8_init_X3_init : GoodIn wsX8_init wsX3_init := goodIn_r _ [106, 107, 2, 3, 108, 109, 110, 5, 6, 111, 112, 37, 38, 39, 40, 41, 42, 43, 44, 29, 30, 45, 46, 47, 48, 49, 50, 51, 52, 53, 54, 55, 56, 57, 58, 59, 60, 61, 62, 63, 64, 65, 66, 67, 68, 69, 70, 71, 72, 73, 74, 75, 76, 77, 78, 79, 80, 81, 82, 83, 84, 85, 86, 87, 157, 158, 159, 135, 136, 137, 138, 139, 140, 141, 142, 164, 165] (by decide +kernel) (by decide +kernel)
set_option maxRecDepth 20000 in
theorem gX8_init_X3_init : GoodIn wsX8_init (wsX3_init) := ggX8_init_X3_init
set_option maxRecDepth 20000 in
theorem ggX8_init_X4_init : GoodIn wsX8_init wsX4_init := goodIn_r _ [115, 116, 2, 3, 117, 29, 30, 118, 119, 47, 48, 49, 40, 50, 51, 164, 165, 160] (by decide +kernel) (by decide +kernel)
set_option maxRecDepth 20000 in
theorem gX8_init_X4_init : GoodIn wsX8_init (wsX4_init) := ggX8_init_X4_init
set_option maxRecDepth 20000 in
theorem ggX8_init_X7_init : GoodIn wsX8_init wsX7_init := goodIn_r _ [122, 123, 2, 3, 40, 124, 125, 29, 30, 126, 127, 128, 47, 48, 49, 50, 51, 161, 162, 163, 164, 165] (by decide +kernel) (by decide +kernel)
set_option maxRecDepth 20000 in
theorem gX8_init_X7_init : GoodIn wsX8_init (wsX7_init) := ggX8_init_X7_init
set_option maxRecDepth 20000 in
theorem ggX8_init_X5_init : GoodIn wsX8_init wsX5_init := goodIn_r _ [48, 49, 2, 3, 40, 50, 51, 164, 165] (by decide +kernel) (by decide +kernel)
set_option maxRecDepth 20000 in
theorem gX8_init_X5_init : GoodIn wsX8_init (wsX5_init) := ggX8_init_X5_init
set_option maxRecDepth 20000 in
theorem ggX8_init_X1_init : GoodIn wsX8_init wsX1_init := goodIn_r _ [132, 133, 2, 3, 134, 166] (by decide +kernel) (by decide +kernel)
set_option maxRecDepth 20000 in
theorem gX8_init_X1_init : GoodIn wsX8_init (wsX1_init) := ggX8_init_X1_init
theorem dX8_init_0 : decode cX8_init 0 = .ok (.aload_n 0, 1) := by decide +kernel
theorem dX8_init_1 : decode cX8_init 1 = .ok (.invokespecial 1, 3) := by decide +kernel
theorem dX8_init_4 : decode cX8_init 4 = .ok (.aload_n 0, 1) := by decide +kernel
theorem dX8_init_5 : decode cX8_init 5 = .ok (.new 7, 3) := by decide +kernel
theorem dX8_init_8 : decode cX8_init 8 = .ok (.dup, 1) := by decide +kernel
theorem dX8_init_9 : decode cX8_init 9 = .ok (.invokespecial 9, 3) := by decide +kernel
theorem dX8_init_12 : decode cX8_init 12 = .ok (.putfield 10, 3) := by decide +kernel
theorem dX8_init_15 : decode cX8_init 15 = .ok (.aload_n 0, 1) := by decide +kernel
theorem dX8_init_16 : decode cX8_init 16 = .ok (.new 16, 3) := by decide +kernel
theorem dX8_init_19 : decode cX8_init 19 = .ok (.dup, 1) := by decide +kernel
theorem dX8_init_20 : decode cX8_init 20 = .ok (.invokespecial 18, 3) := by decide +kernel
theorem dX8_init_23 : decode cX8_init 23 = .ok (.putfield 19, 3) := by decide +kernel
theorem dX8_init_26 : decode cX8_init 26 = .ok (.aload_n 0, 1) := by decide +kernel
theorem dX8_init_27 : decode cX8_init 27 = .ok (.new 23, 3) := by decide +kernel
theorem dX8_init_30 : decode cX8_init 30 = .ok (.dup, 1) := by decide +kernel
theorem dX8_init_31 : decode cX8_init 31 = .ok (.invokespecial 25, 3) := by decide +kernel
theorem dX8_init_34 : decode cX8_init 34 = .ok (.putfield 26, 3) := by decide +kernel
theorem dX8_init_37 : decode cX8_init 37 = .ok (.aload_n 0, 1) := by decide +kernel
theorem dX8_init_38 : decode cX8_init 38 = .ok (.iconst 2, 1) := by decide +kernel
theorem dX8_init_39 : decode cX8_init 39 = .ok (.anewarray 30, 3) := by decide +kernel
theorem dX8_init_42 : decode cX8_init 42 = .ok (.putfield 32, 3) := by decide +kernel
theorem dX8_init_45 : decode cX8_init 45 = .ok (.iconst 0, 1) := by decide +kernel
theorem dX8_init_46 : decode cX8_init 46 = .ok (.istore_n 1, 1) := by decide +kernel
theorem dX8_init_47 : decode cX8_init 47 = .ok (.iload_n 1, 1) := by decide +kernel
theorem dX8_init_48 : decode cX8_init 48 = .ok (.iconst 2, 1) := by decide +kernel
theorem dX8_init_49 : decode cX8_init 49 = .ok (.if_icmp .ge 22, 3) := by decide +kernel
theorem dX8_init_52 : decode cX8_init 52 = .ok (.aload_n 0, 1) := by decide +kernel
theorem dX8_init_53 : decode cX8_init 53 = .ok (.getfield 32, 3) := by decide +kernel
theorem dX8_init_56 : decode cX8_init 56 = .ok (.iload_n 1, 1) := by decide +kernel
theorem dX8_init_57 : decode cX8_init 57 = .ok (.new 30, 3) := by decide +kernel
theorem dX8_init_60 : decode cX8_init 60 = .ok (.dup, 1) := by decide +kernel
theorem dX8_init_61 : decode cX8_init 61 = .ok (.invokespecial 36, 3) := by decide +kernel
theorem dX8_init_64 : decode cX8_init 64 = .ok (.aastore, 1) := by decide +kernel
theorem dX8_init_65 : decode cX8_init 65 = .ok (.iinc 1 1, 3) := by decide +kernel
theorem dX8_init_68 : decode cX8_init 68 = .ok (.goto (-21), 3) := by decide +kernel
theorem dX8_init_71 : decode cX8_init 71 = .ok (.aload_n 0, 1) := by decide +kernel
theorem dX8_init_72 : decode cX8_init 72 = .ok (.new 37, 3) := by decide +kernel
theorem dX8_init_75 : decode cX8_init 75 = .ok (.dup, 1) := by decide +kernel
theorem dX8_init_76 : decode cX8_init 76 = .ok (.invokespecial 39, 3) := by decide +kernel
theorem dX8_init_79 : decode cX8_init 79 = .ok (.putfield 40, 3) := by decide +kernel
theorem dX8_init_82 : decode cX8_init 82 = .ok (.aload_n 0, 1) := by decide +kernel
theorem dX8_init_83 : decode cX8_init 83 = .ok (.new 44, 3) := by decide +kernel
theorem dX8_init_86 : decode cX8_init 86 = .ok (.dup, 1) := by decide +kernel
theorem dX8_init_87 : decode cX8_init 87 = .ok (.invokespecial 46, 3) := by decide +kernel
theorem dX8_init_90 : decode cX8_init 90 = .ok (.putfield 47, 3) := by decide +kernel
theorem dX8_init_93 : decode cX8_init 93 = .ok (.aload_n 0, 1) := by decide +kernel
theorem dX8_init_94 : decode cX8_init 94 = .ok (.new 51, 3) := by decide +kernel
theorem dX8_init_97 : decode cX8_init 97 = .ok (.dup, 1) := by decide +kernel
theorem dX8_init_98 : decode cX8_init 98 = .ok (.invokespecial 53, 3) := by decide +kernel
theorem dX8_init_101 : decode cX8_init 101 = .ok (.putfield 54, 3) := by decide +kernel
theorem dX8_init_104 : decode cX8_init 104 = .ok (.aload_n 0, 1) := by decide +kernel
theorem dX8_init_105 : decode cX8_init 105 = .ok (.new 58, 3) := by decide +kernel
theorem dX8_init_108 : decode cX8_init 108 = .ok (.dup, 1) := by decide +kernel
theorem dX8_init_109 : decode cX8_init 109 = .ok (.invokespecial 60, 3) := by decide +kernel
theorem dX8_init_112 : decode cX8_init 112 = .ok (.putfield 61, 3) := by decide +kernel
theorem dX8_init_115 : decode cX8_init 115 = .ok (.return_, 1) := by decide +kernel
set_option maxRecDepth 20000 in
theorem ggX8_told_X6_edgeCount : GoodIn wsX8_told wsX6_edgeCount := goodIn_r _ [21, 22, 23, 24, 25, 26, 27, 28, 29, 30, 210, 211, 212, 213, 214, 215, 216, 217] (by decide +kernel) (by decide +kernel)
set_option maxRecDepth 20000 in
theorem gX8_told_X6_edgeCount : GoodIn wsX8_told (wsV RX8 78 RX6 yX6_edgeCount wsX6_edgeCount) := goodIn_app (goodIn_of _ (by decide +kernel)) ggX8_told_X6_edgeCount
set_option maxRecDepth 20000 in
theorem ggX8_told_X8_refineAside : GoodIn wsX8_told wsX8_refineAside := goodIn_r _ [35, 8, 1, 36, 37, 38, 39, 20, 40, 22, 41, 42, 43, 44, 45, 46, 47, 48, 49, 50, 51, 52, 53, 54, 55, 56, 57, 58, 59, 60, 61, 62, 63, 64, 65, 66, 67, 68, 69, 70, 71, 72, 73, 74, 75, 76, 77, 78, 79, 80, 81, 82, 83, 84, 85, 86, 87, 88, 89, 90, 91, 92, 93, 94, 95, 96, 97, 98, 99, 100, 101, 102, 103, 104, 105, 106, 107, 108, 109, 110, 111, 25, 26, 27, 28, 29, 30, 112, 113, 114, 115, 23, 24, 116, 117, 118, 119, 120, 121, 122, 123, 124, 125, 126, 127, 128, 129, 130, 131, 132, 133, 134, 135, 136, 137, 138, 139, 140, 141, 142, 143, 144, 202, 203, 204, 205, 206, 207, 208, 209, 210, 211, 212, 213, 214, 215, 216, 217, 218, 219, 227] (by decide +kernel) (by decide +kernel)
set_option maxRecDepth 20000 in
theorem gX8_told_X8_refineAside : GoodIn wsX8_told (wsV RX8 88 RX8 yX8_refineAside wsX8_refineAside) := goodIn_app (goodIn_of _ (by decide +kernel)) ggX8_told_X8_refineAside
set_option maxRecDepth 20000 in
theorem ggX8_told_X7_walkFrom : GoodIn wsX8_told wsX7_walkFrom := goodIn_r _ [149, 150, 151, 152, 153, 154, 155, 38, 39, 20, 40, 22, 156, 42, 43, 44, 45, 46, 47, 157, 55, 56, 57, 58, 59, 60, 61, 158, 159, 160, 161, 120, 121, 122, 123, 124, 26, 125, 126, 162, 163, 164, 165, 166, 99, 100, 101, 228, 229, 230, 210, 211, 212, 213, 214, 215, 216, 217, 218, 219] (by decide +kernel) (by decide +kernel)
set_option maxRecDepth 20000 in
theorem gX8_told_X7_walkFrom : GoodIn wsX8_told (wsV RX8 92 RX7 yX7_walkFrom wsX7_walkFrom) := goodIn_app (goodIn_of _ (by decide +kernel)) ggX8_told_X7_walkFrom
set_option maxRecDepth 20000 in
theorem ggX8_told_X7_fault : GoodIn wsX8_told wsX7_fault := goodIn_r _ [170, 151, 154, 152, 171, 172, 173, 148, 174, 153, 175, 176, 177, 178, 210, 211, 212, 213, 214, 215, 216, 217, 228, 229, 230] (by decide +kernel) (by decide +kernel)
set_option maxRecDepth 20000 in
theorem gX8_told_X7_fault : GoodIn wsX8_told (wsV RX8 96 RX7 yX7_fault wsX7_fault) := goodIn_app (goodIn_of _ (by decide +kernel)) ggX8_told_X7_fault
set_option maxRecDepth 20000 in
theorem ggX8_told_X7_clique : GoodIn wsX8_told wsX7_clique := goodIn_r _ [182, 151, 183, 184, 185, 186, 171, 172, 173, 148, 174, 154, 152, 153, 187, 25, 26, 27, 28, 29, 30, 210, 211, 212, 213, 214, 215, 216, 217, 228, 229, 230] (by decide +kernel) (by decide +kernel)
set_option maxRecDepth 20000 in
theorem gX8_told_X7_clique : GoodIn wsX8_told (wsV RX8 100 RX7 yX7_clique wsX7_clique) := goodIn_app (goodIn_of _ (by decide +kernel)) ggX8_told_X7_clique
set_option maxRecDepth 20000 in
theorem ggX8_told_X0_firstWrong : GoodIn wsX8_told wsX0_firstWrong := goodIn_r _ [192, 193, 194, 195, 196, 197, 99, 100, 20, 101, 22, 198, 199, 200, 44, 201, 47, 46, 220, 221, 222, 210, 211, 212, 213, 214, 215, 216, 217, 218, 219] (by decide +kernel) (by decide +kernel)
set_option maxRecDepth 20000 in
theorem gX8_told_X0_firstWrong : GoodIn wsX8_told (wsV RX8 106 RX0 yX0_firstWrong wsX0_firstWrong) := goodIn_app (goodIn_of _ (by decide +kernel)) ggX8_told_X0_firstWrong
theorem dX8_told_0 : decode cX8_told 0 = .ok (.iload_n 1, 1) := by decide +kernel
theorem dX8_told_1 : decode cX8_told 1 = .ok (.tableswitch 253 0 16 #[83, 91, 102, 110, 118, 126, 134, 134, 134, 134, 134, 150, 174, 217, 225, 237, 245], 83) := by decide +kernel
theorem dX8_told_84 : decode cX8_told 84 = .ok (.aload_n 0, 1) := by decide +kernel
theorem dX8_told_85 : decode cX8_told 85 = .ok (.getfield 10, 3) := by decide +kernel
theorem dX8_told_88 : decode cX8_told 88 = .ok (.getfield 65, 3) := by decide +kernel
theorem dX8_told_91 : decode cX8_told 91 = .ok (.ireturn, 1) := by decide +kernel
theorem dX8_told_92 : decode cX8_told 92 = .ok (.aload_n 0, 1) := by decide +kernel
theorem dX8_told_93 : decode cX8_told 93 = .ok (.getfield 10, 3) := by decide +kernel
theorem dX8_told_96 : decode cX8_told 96 = .ok (.getfield 69, 3) := by decide +kernel
theorem dX8_told_99 : decode cX8_told 99 = .ok (.getfield 72, 3) := by decide +kernel
theorem dX8_told_102 : decode cX8_told 102 = .ok (.ireturn, 1) := by decide +kernel
theorem dX8_told_103 : decode cX8_told 103 = .ok (.aload_n 0, 1) := by decide +kernel
theorem dX8_told_104 : decode cX8_told 104 = .ok (.getfield 10, 3) := by decide +kernel
theorem dX8_told_107 : decode cX8_told 107 = .ok (.getfield 75, 3) := by decide +kernel
theorem dX8_told_110 : decode cX8_told 110 = .ok (.ireturn, 1) := by decide +kernel
theorem dX8_told_111 : decode cX8_told 111 = .ok (.aload_n 0, 1) := by decide +kernel
theorem dX8_told_112 : decode cX8_told 112 = .ok (.getfield 10, 3) := by decide +kernel
theorem dX8_told_115 : decode cX8_told 115 = .ok (.invokevirtual 78, 3) := by decide +kernel
theorem dX8_told_118 : decode cX8_told 118 = .ok (.ireturn, 1) := by decide +kernel
theorem dX8_told_119 : decode cX8_told 119 = .ok (.aload_n 0, 1) := by decide +kernel
theorem dX8_told_120 : decode cX8_told 120 = .ok (.getfield 10, 3) := by decide +kernel
theorem dX8_told_123 : decode cX8_told 123 = .ok (.getfield 82, 3) := by decide +kernel
theorem dX8_told_126 : decode cX8_told 126 = .ok (.ireturn, 1) := by decide +kernel
theorem dX8_told_127 : decode cX8_told 127 = .ok (.aload_n 0, 1) := by decide +kernel
theorem dX8_told_128 : decode cX8_told 128 = .ok (.getfield 10, 3) := by decide +kernel
theorem dX8_told_131 : decode cX8_told 131 = .ok (.getfield 85, 3) := by decide +kernel
theorem dX8_told_134 : decode cX8_told 134 = .ok (.ireturn, 1) := by decide +kernel
