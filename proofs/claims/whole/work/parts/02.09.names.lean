theorem dX9_item_116 : decode cX9_item 116 = .ok (.iaload, 1) := by decide +kernel
theorem dX9_item_117 : decode cX9_item 117 = .ok (.if_icmp .ge 21, 3) := by decide +kernel
theorem dX9_item_120 : decode cX9_item 120 = .ok (.aload_n 0, 1) := by decide +kernel
theorem dX9_item_121 : decode cX9_item 121 = .ok (.getfield 7, 3) := by decide +kernel
theorem dX9_item_124 : decode cX9_item 124 = .ok (.bipush 28, 2) := by decide +kernel
theorem dX9_item_126 : decode cX9_item 126 = .ok (.iconst 3, 1) := by decide +kernel
theorem dX9_item_127 : decode cX9_item 127 = .ok (.iload_n 1, 1) := by decide +kernel
theorem dX9_item_128 : decode cX9_item 128 = .ok (.imul, 1) := by decide +kernel
theorem dX9_item_129 : decode cX9_item 129 = .ok (.iadd, 1) := by decide +kernel
theorem dX9_item_130 : decode cX9_item 130 = .ok (.iload_n 2, 1) := by decide +kernel
theorem dX9_item_131 : decode cX9_item 131 = .ok (.iadd, 1) := by decide +kernel
theorem dX9_item_132 : decode cX9_item 132 = .ok (.iconst 4, 1) := by decide +kernel
theorem dX9_item_133 : decode cX9_item 133 = .ok (.isub, 1) := by decide +kernel
theorem dX9_item_134 : decode cX9_item 134 = .ok (.iaload, 1) := by decide +kernel
theorem dX9_item_135 : decode cX9_item 135 = .ok (.goto 4, 3) := by decide +kernel
theorem dX9_item_138 : decode cX9_item 138 = .ok (.iconst (-1), 1) := by decide +kernel
theorem dX9_item_139 : decode cX9_item 139 = .ok (.ireturn, 1) := by decide +kernel
theorem dX9_item_140 : decode cX9_item 140 = .ok (.ldc 94, 2) := by decide +kernel
theorem dX9_item_142 : decode cX9_item 142 = .ok (.ireturn, 1) := by decide +kernel
set_option maxRecDepth 20000 in
theorem ggX9_classAt_X9_classes : GoodIn wsX9_classAt wsX9_classes := goodIn_r _ [7, 1, 15, 16, 17, 18, 19, 20, 21, 22, 23, 24, 25, 26, 27, 28, 29, 30, 31] (by decide +kernel) (by decide +kernel)
set_option maxRecDepth 20000 in
theorem gX9_classAt_X9_classes : GoodIn wsX9_classAt (wsV RX9 73 RX9 yX9_classes wsX9_classes) := goodIn_app (goodIn_of _ (by decide +kernel)) ggX9_classAt_X9_classes
set_option maxRecDepth 20000 in
theorem ggX9_classAt_X9_in : GoodIn wsX9_classAt wsX9_in := goodIn_r _ [10] (by decide +kernel) (by decide +kernel)
set_option maxRecDepth 20000 in
theorem gX9_classAt_X9_in : GoodIn wsX9_classAt (va_wsS RX9 57 yX9_in wsX9_in) := goodIn_app (goodIn_of _ (by decide +kernel)) ggX9_classAt_X9_in
set_option maxRecDepth 20000 in
theorem ggX9_classAt_X9_membersOf : GoodIn wsX9_classAt wsX9_membersOf := goodIn_r _ [14, 1, 15, 16, 17, 18, 19, 20, 21, 22, 23, 24, 25, 26, 27, 28, 29, 30, 31] (by decide +kernel) (by decide +kernel)
set_option maxRecDepth 20000 in
theorem gX9_classAt_X9_membersOf : GoodIn wsX9_classAt (wsV RX9 77 RX9 yX9_membersOf wsX9_membersOf) := goodIn_app (goodIn_of _ (by decide +kernel)) ggX9_classAt_X9_membersOf
theorem dX9_classAt_0 : decode cX9_classAt 0 = .ok (.iload_n 1, 1) := by decide +kernel
theorem dX9_classAt_1 : decode cX9_classAt 1 = .ok (.iconst 0, 1) := by decide +kernel
theorem dX9_classAt_2 : decode cX9_classAt 2 = .ok (.aload_n 0, 1) := by decide +kernel
theorem dX9_classAt_3 : decode cX9_classAt 3 = .ok (.aload_n 0, 1) := by decide +kernel
theorem dX9_classAt_4 : decode cX9_classAt 4 = .ok (.getfield 7, 3) := by decide +kernel
theorem dX9_classAt_7 : decode cX9_classAt 7 = .ok (.bipush 64, 2) := by decide +kernel
theorem dX9_classAt_9 : decode cX9_classAt 9 = .ok (.invokevirtual 73, 3) := by decide +kernel
theorem dX9_classAt_12 : decode cX9_classAt 12 = .ok (.iconst 1, 1) := by decide +kernel
theorem dX9_classAt_13 : decode cX9_classAt 13 = .ok (.isub, 1) := by decide +kernel
theorem dX9_classAt_14 : decode cX9_classAt 14 = .ok (.invokestatic 57, 3) := by decide +kernel
theorem dX9_classAt_17 : decode cX9_classAt 17 = .ok (.ifCond .eq 17, 3) := by decide +kernel
theorem dX9_classAt_20 : decode cX9_classAt 20 = .ok (.aload_n 0, 1) := by decide +kernel
theorem dX9_classAt_21 : decode cX9_classAt 21 = .ok (.aload_n 0, 1) := by decide +kernel
theorem dX9_classAt_22 : decode cX9_classAt 22 = .ok (.getfield 7, 3) := by decide +kernel
theorem dX9_classAt_25 : decode cX9_classAt 25 = .ok (.bipush 64, 2) := by decide +kernel
theorem dX9_classAt_27 : decode cX9_classAt 27 = .ok (.iload_n 1, 1) := by decide +kernel
theorem dX9_classAt_28 : decode cX9_classAt 28 = .ok (.invokevirtual 77, 3) := by decide +kernel
theorem dX9_classAt_31 : decode cX9_classAt 31 = .ok (.goto 5, 3) := by decide +kernel
theorem dX9_classAt_34 : decode cX9_classAt 34 = .ok (.ldc 93, 2) := by decide +kernel
theorem dX9_classAt_36 : decode cX9_classAt 36 = .ok (.ireturn, 1) := by decide +kernel
set_option maxRecDepth 20000 in
theorem ggX9_items_X9_in : GoodIn wsX9_items wsX9_in := goodIn_r _ [6] (by decide +kernel) (by decide +kernel)
set_option maxRecDepth 20000 in
theorem gX9_items_X9_in : GoodIn wsX9_items (va_wsS RX9 57 yX9_in wsX9_in) := goodIn_app (goodIn_of _ (by decide +kernel)) ggX9_items_X9_in
set_option maxRecDepth 20000 in
theorem ggX9_items_X9_notes : GoodIn wsX9_items wsX9_notes := goodIn_r _ [10, 11, 12, 2, 13, 14, 5, 15, 20, 21, 22, 23, 24, 25, 26, 27, 28, 29, 30, 31, 32, 33, 34, 35, 36] (by decide +kernel) (by decide +kernel)
set_option maxRecDepth 20000 in
theorem gX9_items_X9_notes : GoodIn wsX9_items (wsV RX9 161 RX9 yX9_notes wsX9_notes) := goodIn_app (goodIn_of _ (by decide +kernel)) ggX9_items_X9_notes
set_option maxRecDepth 20000 in
theorem ggX9_items_X9_lays : GoodIn wsX9_items wsX9_lays := goodIn_r _ [19, 2, 20, 21, 22, 23, 24, 25, 26, 27, 28, 29, 30, 31, 32, 33, 34, 35, 36] (by decide +kernel) (by decide +kernel)
set_option maxRecDepth 20000 in
theorem gX9_items_X9_lays : GoodIn wsX9_items (wsV RX9 53 RX9 yX9_lays wsX9_lays) := goodIn_app (goodIn_of _ (by decide +kernel)) ggX9_items_X9_lays
theorem dX9_items_0 : decode cX9_items 0 = .ok (.iload_n 1, 1) := by decide +kernel
theorem dX9_items_1 : decode cX9_items 1 = .ok (.iconst 1, 1) := by decide +kernel
theorem dX9_items_2 : decode cX9_items 2 = .ok (.bipush 12, 2) := by decide +kernel
theorem dX9_items_4 : decode cX9_items 4 = .ok (.invokestatic 57, 3) := by decide +kernel
theorem dX9_items_7 : decode cX9_items 7 = .ok (.ifCond .ne 6, 3) := by decide +kernel
theorem dX9_items_10 : decode cX9_items 10 = .ok (.ldc 94, 2) := by decide +kernel
theorem dX9_items_12 : decode cX9_items 12 = .ok (.ireturn, 1) := by decide +kernel
theorem dX9_items_13 : decode cX9_items 13 = .ok (.aload_n 0, 1) := by decide +kernel
theorem dX9_items_14 : decode cX9_items 14 = .ok (.invokevirtual 161, 3) := by decide +kernel
theorem dX9_items_17 : decode cX9_items 17 = .ok (.aload_n 0, 1) := by decide +kernel
theorem dX9_items_18 : decode cX9_items 18 = .ok (.getfield 7, 3) := by decide +kernel
theorem dX9_items_21 : decode cX9_items 21 = .ok (.iconst 0, 1) := by decide +kernel
theorem dX9_items_22 : decode cX9_items 22 = .ok (.iaload, 1) := by decide +kernel
theorem dX9_items_23 : decode cX9_items 23 = .ok (.istore_n 2, 1) := by decide +kernel
theorem dX9_items_24 : decode cX9_items 24 = .ok (.aload_n 0, 1) := by decide +kernel
theorem dX9_items_25 : decode cX9_items 25 = .ok (.iload_n 1, 1) := by decide +kernel
theorem dX9_items_26 : decode cX9_items 26 = .ok (.invokevirtual 53, 3) := by decide +kernel
theorem dX9_items_29 : decode cX9_items 29 = .ok (.iload_n 2, 1) := by decide +kernel
theorem dX9_items_30 : decode cX9_items 30 = .ok (.ireturn, 1) := by decide +kernel
theorem dX9_turnsEdge_0 : decode cX9_turnsEdge 0 = .ok (.aload_n 0, 1) := by decide +kernel
theorem dX9_turnsEdge_1 : decode cX9_turnsEdge 1 = .ok (.getfield 7, 3) := by decide +kernel
theorem dX9_turnsEdge_4 : decode cX9_turnsEdge 4 = .ok (.bipush 16, 2) := by decide +kernel
theorem dX9_turnsEdge_6 : decode cX9_turnsEdge 6 = .ok (.iload_n 1, 1) := by decide +kernel
theorem dX9_turnsEdge_7 : decode cX9_turnsEdge 7 = .ok (.iadd, 1) := by decide +kernel
theorem dX9_turnsEdge_8 : decode cX9_turnsEdge 8 = .ok (.dup2, 1) := by decide +kernel
theorem dX9_turnsEdge_9 : decode cX9_turnsEdge 9 = .ok (.iaload, 1) := by decide +kernel
theorem dX9_turnsEdge_10 : decode cX9_turnsEdge 10 = .ok (.iconst 1, 1) := by decide +kernel
theorem dX9_turnsEdge_11 : decode cX9_turnsEdge 11 = .ok (.iload_n 2, 1) := by decide +kernel
theorem dX9_turnsEdge_12 : decode cX9_turnsEdge 12 = .ok (.ishl, 1) := by decide +kernel
theorem dX9_turnsEdge_13 : decode cX9_turnsEdge 13 = .ok (.ixor, 1) := by decide +kernel
theorem dX9_turnsEdge_14 : decode cX9_turnsEdge 14 = .ok (.iastore, 1) := by decide +kernel
theorem dX9_turnsEdge_15 : decode cX9_turnsEdge 15 = .ok (.aload_n 0, 1) := by decide +kernel
theorem dX9_turnsEdge_16 : decode cX9_turnsEdge 16 = .ok (.getfield 7, 3) := by decide +kernel
theorem dX9_turnsEdge_19 : decode cX9_turnsEdge 19 = .ok (.bipush 16, 2) := by decide +kernel
theorem dX9_turnsEdge_21 : decode cX9_turnsEdge 21 = .ok (.iload_n 2, 1) := by decide +kernel
theorem dX9_turnsEdge_22 : decode cX9_turnsEdge 22 = .ok (.iadd, 1) := by decide +kernel
theorem dX9_turnsEdge_23 : decode cX9_turnsEdge 23 = .ok (.dup2, 1) := by decide +kernel
theorem dX9_turnsEdge_24 : decode cX9_turnsEdge 24 = .ok (.iaload, 1) := by decide +kernel
theorem dX9_turnsEdge_25 : decode cX9_turnsEdge 25 = .ok (.iconst 1, 1) := by decide +kernel
theorem dX9_turnsEdge_26 : decode cX9_turnsEdge 26 = .ok (.iload_n 1, 1) := by decide +kernel
theorem dX9_turnsEdge_27 : decode cX9_turnsEdge 27 = .ok (.ishl, 1) := by decide +kernel
theorem dX9_turnsEdge_28 : decode cX9_turnsEdge 28 = .ok (.ixor, 1) := by decide +kernel
theorem dX9_turnsEdge_29 : decode cX9_turnsEdge 29 = .ok (.iastore, 1) := by decide +kernel
theorem dX9_turnsEdge_30 : decode cX9_turnsEdge 30 = .ok (.return_, 1) := by decide +kernel
set_option maxRecDepth 20000 in
theorem ggX9_edge_X9_isItem : GoodIn wsX9_edge wsX9_isItem := goodIn_r _ [8, 3, 9, 10, 7, 11, 35, 36, 37, 38, 39, 40, 41, 42, 43, 44, 45, 46, 47, 48, 49, 50, 51] (by decide +kernel) (by decide +kernel)
set_option maxRecDepth 20000 in
theorem gX9_edge_X9_isItem : GoodIn wsX9_edge (wsV RX9 89 RX9 yX9_isItem wsX9_isItem) := goodIn_app (goodIn_of _ (by decide +kernel)) ggX9_edge_X9_isItem
set_option maxRecDepth 20000 in
theorem ggX9_edge_X9_in : GoodIn wsX9_edge wsX9_in := goodIn_r _ [11] (by decide +kernel) (by decide +kernel)
set_option maxRecDepth 20000 in
theorem gX9_edge_X9_in : GoodIn wsX9_edge (va_wsS RX9 57 yX9_in wsX9_in) := goodIn_app (goodIn_of _ (by decide +kernel)) ggX9_edge_X9_in
set_option maxRecDepth 20000 in
theorem ggX9_edge_X9_notes : GoodIn wsX9_edge wsX9_notes := goodIn_r _ [15, 16, 17, 3, 18, 19, 7, 20, 35, 36, 37, 38, 39, 40, 41, 42, 43, 44, 45, 46, 47, 48, 49, 50, 51] (by decide +kernel) (by decide +kernel)
set_option maxRecDepth 20000 in
theorem gX9_edge_X9_notes : GoodIn wsX9_edge (wsV RX9 161 RX9 yX9_notes wsX9_notes) := goodIn_app (goodIn_of _ (by decide +kernel)) ggX9_edge_X9_notes
set_option maxRecDepth 20000 in
theorem ggX9_edge_X9_has : GoodIn wsX9_edge wsX9_has := goodIn_r _ [23] (by decide +kernel) (by decide +kernel)
set_option maxRecDepth 20000 in
theorem gX9_edge_X9_has : GoodIn wsX9_edge (va_wsS RX9 69 yX9_has wsX9_has) := goodIn_app (goodIn_of _ (by decide +kernel)) ggX9_edge_X9_has
set_option maxRecDepth 20000 in
theorem ggX9_edge_X9_turnsEdge : GoodIn wsX9_edge wsX9_turnsEdge := goodIn_r _ [27, 3, 35, 36, 37, 38, 39, 40, 41, 42, 43, 44, 45, 46, 47, 48, 49, 50, 51] (by decide +kernel) (by decide +kernel)
set_option maxRecDepth 20000 in
theorem gX9_edge_X9_turnsEdge : GoodIn wsX9_edge (wsV RX9 164 RX9 yX9_turnsEdge wsX9_turnsEdge) := goodIn_app (goodIn_of _ (by decide +kernel)) ggX9_edge_X9_turnsEdge
set_option maxRecDepth 20000 in
theorem ggX9_edge_X9_edgesNow : GoodIn wsX9_edge wsX9_edgesNow := goodIn_r _ [31, 3, 32, 33, 7, 34, 35, 36, 37, 38, 39, 40, 41, 42, 43, 44, 45, 46, 47, 48, 49, 50, 51] (by decide +kernel) (by decide +kernel)
set_option maxRecDepth 20000 in
theorem gX9_edge_X9_edgesNow : GoodIn wsX9_edge (wsV RX9 146 RX9 yX9_edgesNow wsX9_edgesNow) := goodIn_app (goodIn_of _ (by decide +kernel)) ggX9_edge_X9_edgesNow
theorem dX9_edge_0 : decode cX9_edge 0 = .ok (.aload_n 0, 1) := by decide +kernel
theorem dX9_edge_1 : decode cX9_edge 1 = .ok (.iload_n 1, 1) := by decide +kernel
theorem dX9_edge_2 : decode cX9_edge 2 = .ok (.invokevirtual 89, 3) := by decide +kernel
theorem dX9_edge_5 : decode cX9_edge 5 = .ok (.ifCond .eq 16, 3) := by decide +kernel
theorem dX9_edge_8 : decode cX9_edge 8 = .ok (.aload_n 0, 1) := by decide +kernel
theorem dX9_edge_9 : decode cX9_edge 9 = .ok (.iload_n 2, 1) := by decide +kernel
theorem dX9_edge_10 : decode cX9_edge 10 = .ok (.invokevirtual 89, 3) := by decide +kernel
theorem dX9_edge_13 : decode cX9_edge 13 = .ok (.ifCond .eq 8, 3) := by decide +kernel
theorem dX9_edge_16 : decode cX9_edge 16 = .ok (.iload_n 1, 1) := by decide +kernel
theorem dX9_edge_17 : decode cX9_edge 17 = .ok (.iload_n 2, 1) := by decide +kernel
theorem dX9_edge_18 : decode cX9_edge 18 = .ok (.if_icmp .ne 6, 3) := by decide +kernel
theorem dX9_edge_21 : decode cX9_edge 21 = .ok (.ldc 93, 2) := by decide +kernel
theorem dX9_edge_23 : decode cX9_edge 23 = .ok (.ireturn, 1) := by decide +kernel
theorem dX9_edge_24 : decode cX9_edge 24 = .ok (.iload_n 3, 1) := by decide +kernel
theorem dX9_edge_25 : decode cX9_edge 25 = .ok (.iconst 0, 1) := by decide +kernel
theorem dX9_edge_26 : decode cX9_edge 26 = .ok (.iconst 1, 1) := by decide +kernel
theorem dX9_edge_27 : decode cX9_edge 27 = .ok (.invokestatic 57, 3) := by decide +kernel
theorem dX9_edge_30 : decode cX9_edge 30 = .ok (.ifCond .ne 6, 3) := by decide +kernel
theorem dX9_edge_33 : decode cX9_edge 33 = .ok (.ldc 94, 2) := by decide +kernel
theorem dX9_edge_35 : decode cX9_edge 35 = .ok (.ireturn, 1) := by decide +kernel
theorem dX9_edge_36 : decode cX9_edge 36 = .ok (.aload_n 0, 1) := by decide +kernel
theorem dX9_edge_37 : decode cX9_edge 37 = .ok (.invokevirtual 161, 3) := by decide +kernel
theorem dX9_edge_40 : decode cX9_edge 40 = .ok (.aload_n 0, 1) := by decide +kernel
theorem dX9_edge_41 : decode cX9_edge 41 = .ok (.getfield 7, 3) := by decide +kernel
theorem dX9_edge_44 : decode cX9_edge 44 = .ok (.bipush 16, 2) := by decide +kernel
theorem dX9_edge_46 : decode cX9_edge 46 = .ok (.iload_n 1, 1) := by decide +kernel
theorem dX9_edge_47 : decode cX9_edge 47 = .ok (.iadd, 1) := by decide +kernel
theorem dX9_edge_48 : decode cX9_edge 48 = .ok (.iaload, 1) := by decide +kernel
theorem dX9_edge_49 : decode cX9_edge 49 = .ok (.iload_n 2, 1) := by decide +kernel
theorem dX9_edge_50 : decode cX9_edge 50 = .ok (.invokestatic 69, 3) := by decide +kernel
theorem dX9_edge_53 : decode cX9_edge 53 = .ok (.iload_n 3, 1) := by decide +kernel
theorem dX9_edge_54 : decode cX9_edge 54 = .ok (.iconst 1, 1) := by decide +kernel
theorem dX9_edge_55 : decode cX9_edge 55 = .ok (.if_icmp .ne 7, 3) := by decide +kernel
theorem dX9_edge_58 : decode cX9_edge 58 = .ok (.iconst 1, 1) := by decide +kernel
theorem dX9_edge_59 : decode cX9_edge 59 = .ok (.goto 4, 3) := by decide +kernel
theorem dX9_edge_62 : decode cX9_edge 62 = .ok (.iconst 0, 1) := by decide +kernel
theorem dX9_edge_63 : decode cX9_edge 63 = .ok (.if_icmp .eq 9, 3) := by decide +kernel
theorem dX9_edge_66 : decode cX9_edge 66 = .ok (.aload_n 0, 1) := by decide +kernel
theorem dX9_edge_67 : decode cX9_edge 67 = .ok (.iload_n 1, 1) := by decide +kernel
theorem dX9_edge_68 : decode cX9_edge 68 = .ok (.iload_n 2, 1) := by decide +kernel
theorem dX9_edge_69 : decode cX9_edge 69 = .ok (.invokevirtual 164, 3) := by decide +kernel
theorem dX9_edge_72 : decode cX9_edge 72 = .ok (.aload_n 0, 1) := by decide +kernel
theorem dX9_edge_73 : decode cX9_edge 73 = .ok (.invokevirtual 146, 3) := by decide +kernel
theorem dX9_edge_76 : decode cX9_edge 76 = .ok (.ireturn, 1) := by decide +kernel
set_option maxRecDepth 20000 in
theorem ggX9_columns_X9_isItem : GoodIn wsX9_columns wsX9_isItem := goodIn_r _ [8, 3, 9, 10, 7, 11, 21, 22, 23, 24, 25, 26, 27, 28, 29, 30, 31, 32, 33, 34, 35, 36, 37] (by decide +kernel) (by decide +kernel)
set_option maxRecDepth 20000 in
theorem gX9_columns_X9_isItem : GoodIn wsX9_columns (wsV RX9 89 RX9 yX9_isItem wsX9_isItem) := goodIn_app (goodIn_of _ (by decide +kernel)) ggX9_columns_X9_isItem
set_option maxRecDepth 20000 in
theorem ggX9_columns_X9_in : GoodIn wsX9_columns wsX9_in := goodIn_r _ [11] (by decide +kernel) (by decide +kernel)
set_option maxRecDepth 20000 in
theorem gX9_columns_X9_in : GoodIn wsX9_columns (va_wsS RX9 57 yX9_in wsX9_in) := goodIn_app (goodIn_of _ (by decide +kernel)) ggX9_columns_X9_in
set_option maxRecDepth 20000 in
theorem ggX9_columns_X9_notes : GoodIn wsX9_columns wsX9_notes := goodIn_r _ [15, 16, 17, 3, 18, 19, 7, 20, 21, 22, 23, 24, 25, 26, 27, 28, 29, 30, 31, 32, 33, 34, 35, 36, 37] (by decide +kernel) (by decide +kernel)
set_option maxRecDepth 20000 in
theorem gX9_columns_X9_notes : GoodIn wsX9_columns (wsV RX9 161 RX9 yX9_notes wsX9_notes) := goodIn_app (goodIn_of _ (by decide +kernel)) ggX9_columns_X9_notes
theorem dX9_columns_0 : decode cX9_columns 0 = .ok (.aload_n 0, 1) := by decide +kernel
theorem dX9_columns_1 : decode cX9_columns 1 = .ok (.iload_n 1, 1) := by decide +kernel
theorem dX9_columns_2 : decode cX9_columns 2 = .ok (.invokevirtual 89, 3) := by decide +kernel
theorem dX9_columns_5 : decode cX9_columns 5 = .ok (.ifCond .ne 6, 3) := by decide +kernel
theorem dX9_columns_8 : decode cX9_columns 8 = .ok (.ldc 93, 2) := by decide +kernel
theorem dX9_columns_10 : decode cX9_columns 10 = .ok (.ireturn, 1) := by decide +kernel
theorem dX9_columns_11 : decode cX9_columns 11 = .ok (.iload_n 2, 1) := by decide +kernel
theorem dX9_columns_12 : decode cX9_columns 12 = .ok (.iconst 0, 1) := by decide +kernel
theorem dX9_columns_13 : decode cX9_columns 13 = .ok (.sipush 255, 3) := by decide +kernel
theorem dX9_columns_16 : decode cX9_columns 16 = .ok (.invokestatic 57, 3) := by decide +kernel
theorem dX9_columns_19 : decode cX9_columns 19 = .ok (.ifCond .ne 6, 3) := by decide +kernel
theorem dX9_columns_22 : decode cX9_columns 22 = .ok (.ldc 94, 2) := by decide +kernel
theorem dX9_columns_24 : decode cX9_columns 24 = .ok (.ireturn, 1) := by decide +kernel
theorem dX9_columns_25 : decode cX9_columns 25 = .ok (.aload_n 0, 1) := by decide +kernel
theorem dX9_columns_26 : decode cX9_columns 26 = .ok (.invokevirtual 161, 3) := by decide +kernel
theorem dX9_columns_29 : decode cX9_columns 29 = .ok (.aload_n 0, 1) := by decide +kernel
theorem dX9_columns_30 : decode cX9_columns 30 = .ok (.getfield 7, 3) := by decide +kernel
theorem dX9_columns_33 : decode cX9_columns 33 = .ok (.iconst 4, 1) := by decide +kernel
theorem dX9_columns_34 : decode cX9_columns 34 = .ok (.iload_n 1, 1) := by decide +kernel
theorem dX9_columns_35 : decode cX9_columns 35 = .ok (.iadd, 1) := by decide +kernel
theorem dX9_columns_36 : decode cX9_columns 36 = .ok (.iaload, 1) := by decide +kernel
theorem dX9_columns_37 : decode cX9_columns 37 = .ok (.istore_n 3, 1) := by decide +kernel
theorem dX9_columns_38 : decode cX9_columns 38 = .ok (.aload_n 0, 1) := by decide +kernel
theorem dX9_columns_39 : decode cX9_columns 39 = .ok (.getfield 7, 3) := by decide +kernel
theorem dX9_columns_42 : decode cX9_columns 42 = .ok (.iconst 4, 1) := by decide +kernel
theorem dX9_columns_43 : decode cX9_columns 43 = .ok (.iload_n 1, 1) := by decide +kernel
theorem dX9_columns_44 : decode cX9_columns 44 = .ok (.iadd, 1) := by decide +kernel
theorem dX9_columns_45 : decode cX9_columns 45 = .ok (.iload_n 2, 1) := by decide +kernel
theorem dX9_columns_46 : decode cX9_columns 46 = .ok (.iastore, 1) := by decide +kernel
theorem dX9_columns_47 : decode cX9_columns 47 = .ok (.iload_n 3, 1) := by decide +kernel
theorem dX9_columns_48 : decode cX9_columns 48 = .ok (.ireturn, 1) := by decide +kernel
set_option maxRecDepth 20000 in
theorem ggX9_letters_X9_in : GoodIn wsX9_letters wsX9_in := goodIn_r _ [6] (by decide +kernel) (by decide +kernel)
set_option maxRecDepth 20000 in
theorem gX9_letters_X9_in : GoodIn wsX9_letters (va_wsS RX9 57 yX9_in wsX9_in) := goodIn_app (goodIn_of _ (by decide +kernel)) ggX9_letters_X9_in
set_option maxRecDepth 20000 in
theorem ggX9_letters_X9_notes : GoodIn wsX9_letters wsX9_notes := goodIn_r _ [10, 11, 12, 2, 13, 14, 5, 15, 16, 17, 18, 19, 20, 21, 22, 23, 24, 25, 26, 27, 28, 29, 30, 31, 32] (by decide +kernel) (by decide +kernel)
set_option maxRecDepth 20000 in
theorem gX9_letters_X9_notes : GoodIn wsX9_letters (wsV RX9 161 RX9 yX9_notes wsX9_notes) := goodIn_app (goodIn_of _ (by decide +kernel)) ggX9_letters_X9_notes
theorem dX9_letters_0 : decode cX9_letters 0 = .ok (.iload_n 1, 1) := by decide +kernel
theorem dX9_letters_1 : decode cX9_letters 1 = .ok (.iconst 1, 1) := by decide +kernel
theorem dX9_letters_2 : decode cX9_letters 2 = .ok (.iconst 3, 1) := by decide +kernel
theorem dX9_letters_3 : decode cX9_letters 3 = .ok (.invokestatic 57, 3) := by decide +kernel
theorem dX9_letters_6 : decode cX9_letters 6 = .ok (.ifCond .ne 6, 3) := by decide +kernel
theorem dX9_letters_9 : decode cX9_letters 9 = .ok (.ldc 94, 2) := by decide +kernel
theorem dX9_letters_11 : decode cX9_letters 11 = .ok (.ireturn, 1) := by decide +kernel
theorem dX9_letters_12 : decode cX9_letters 12 = .ok (.aload_n 0, 1) := by decide +kernel
theorem dX9_letters_13 : decode cX9_letters 13 = .ok (.invokevirtual 161, 3) := by decide +kernel
theorem dX9_letters_16 : decode cX9_letters 16 = .ok (.aload_n 0, 1) := by decide +kernel
theorem dX9_letters_17 : decode cX9_letters 17 = .ok (.getfield 7, 3) := by decide +kernel
theorem dX9_letters_20 : decode cX9_letters 20 = .ok (.iconst 1, 1) := by decide +kernel
theorem dX9_letters_21 : decode cX9_letters 21 = .ok (.iaload, 1) := by decide +kernel
theorem dX9_letters_22 : decode cX9_letters 22 = .ok (.istore_n 2, 1) := by decide +kernel
theorem dX9_letters_23 : decode cX9_letters 23 = .ok (.iconst 0, 1) := by decide +kernel
theorem dX9_letters_24 : decode cX9_letters 24 = .ok (.istore_n 3, 1) := by decide +kernel
theorem dX9_letters_25 : decode cX9_letters 25 = .ok (.iload_n 3, 1) := by decide +kernel
theorem dX9_letters_26 : decode cX9_letters 26 = .ok (.bipush 12, 2) := by decide +kernel
theorem dX9_letters_28 : decode cX9_letters 28 = .ok (.if_icmp .ge 39, 3) := by decide +kernel
theorem dX9_letters_31 : decode cX9_letters 31 = .ok (.iload_n 2, 1) := by decide +kernel
theorem dX9_letters_32 : decode cX9_letters 32 = .ok (.istore 4, 2) := by decide +kernel
theorem dX9_letters_34 : decode cX9_letters 34 = .ok (.iload 4, 2) := by decide +kernel
theorem dX9_letters_36 : decode cX9_letters 36 = .ok (.iload_n 1, 1) := by decide +kernel
theorem dX9_letters_37 : decode cX9_letters 37 = .ok (.if_icmp .ge 24, 3) := by decide +kernel
theorem dX9_letters_40 : decode cX9_letters 40 = .ok (.aload_n 0, 1) := by decide +kernel
theorem dX9_letters_41 : decode cX9_letters 41 = .ok (.getfield 7, 3) := by decide +kernel
theorem dX9_letters_44 : decode cX9_letters 44 = .ok (.bipush 28, 2) := by decide +kernel
theorem dX9_letters_46 : decode cX9_letters 46 = .ok (.iconst 3, 1) := by decide +kernel
theorem dX9_letters_47 : decode cX9_letters 47 = .ok (.iload_n 3, 1) := by decide +kernel
theorem dX9_letters_48 : decode cX9_letters 48 = .ok (.imul, 1) := by decide +kernel
theorem dX9_letters_49 : decode cX9_letters 49 = .ok (.iadd, 1) := by decide +kernel
theorem dX9_letters_50 : decode cX9_letters 50 = .ok (.iload 4, 2) := by decide +kernel
theorem dX9_letters_52 : decode cX9_letters 52 = .ok (.iadd, 1) := by decide +kernel
theorem dX9_letters_53 : decode cX9_letters 53 = .ok (.iload_n 3, 1) := by decide +kernel
theorem dX9_letters_54 : decode cX9_letters 54 = .ok (.iastore, 1) := by decide +kernel
theorem dX9_letters_55 : decode cX9_letters 55 = .ok (.iinc 4 1, 3) := by decide +kernel
theorem dX9_letters_58 : decode cX9_letters 58 = .ok (.goto (-24), 3) := by decide +kernel
theorem dX9_letters_61 : decode cX9_letters 61 = .ok (.iinc 3 1, 3) := by decide +kernel
theorem dX9_letters_64 : decode cX9_letters 64 = .ok (.goto (-39), 3) := by decide +kernel
theorem dX9_letters_67 : decode cX9_letters 67 = .ok (.aload_n 0, 1) := by decide +kernel
theorem dX9_letters_68 : decode cX9_letters 68 = .ok (.getfield 7, 3) := by decide +kernel
theorem dX9_letters_71 : decode cX9_letters 71 = .ok (.iconst 1, 1) := by decide +kernel
theorem dX9_letters_72 : decode cX9_letters 72 = .ok (.iload_n 1, 1) := by decide +kernel
theorem dX9_letters_73 : decode cX9_letters 73 = .ok (.iastore, 1) := by decide +kernel
theorem dX9_letters_74 : decode cX9_letters 74 = .ok (.iload_n 2, 1) := by decide +kernel
theorem dX9_letters_75 : decode cX9_letters 75 = .ok (.ireturn, 1) := by decide +kernel
set_option maxRecDepth 20000 in
theorem ggX9_goes_X9_isItem : GoodIn wsX9_goes wsX9_isItem := goodIn_r _ [7, 1, 8, 9, 6, 10, 20, 21, 22, 23, 24, 25, 26, 27, 28, 29, 30, 31, 32, 33, 34, 35, 36] (by decide +kernel) (by decide +kernel)
set_option maxRecDepth 20000 in
theorem gX9_goes_X9_isItem : GoodIn wsX9_goes (wsV RX9 89 RX9 yX9_isItem wsX9_isItem) := goodIn_app (goodIn_of _ (by decide +kernel)) ggX9_goes_X9_isItem
set_option maxRecDepth 20000 in
theorem ggX9_goes_X9_in : GoodIn wsX9_goes wsX9_in := goodIn_r _ [10] (by decide +kernel) (by decide +kernel)
set_option maxRecDepth 20000 in
theorem gX9_goes_X9_in : GoodIn wsX9_goes (va_wsS RX9 57 yX9_in wsX9_in) := goodIn_app (goodIn_of _ (by decide +kernel)) ggX9_goes_X9_in
set_option maxRecDepth 20000 in
theorem ggX9_goes_X9_notes : GoodIn wsX9_goes wsX9_notes := goodIn_r _ [14, 15, 16, 1, 17, 18, 6, 19, 20, 21, 22, 23, 24, 25, 26, 27, 28, 29, 30, 31, 32, 33, 34, 35, 36] (by decide +kernel) (by decide +kernel)
set_option maxRecDepth 20000 in
theorem gX9_goes_X9_notes : GoodIn wsX9_goes (wsV RX9 161 RX9 yX9_notes wsX9_notes) := goodIn_app (goodIn_of _ (by decide +kernel)) ggX9_goes_X9_notes
theorem dX9_goes_0 : decode cX9_goes 0 = .ok (.aload_n 0, 1) := by decide +kernel
theorem dX9_goes_1 : decode cX9_goes 1 = .ok (.iload_n 1, 1) := by decide +kernel
theorem dX9_goes_2 : decode cX9_goes 2 = .ok (.invokevirtual 89, 3) := by decide +kernel
theorem dX9_goes_5 : decode cX9_goes 5 = .ok (.ifCond .eq 27, 3) := by decide +kernel
theorem dX9_goes_8 : decode cX9_goes 8 = .ok (.iload_n 2, 1) := by decide +kernel
theorem dX9_goes_9 : decode cX9_goes 9 = .ok (.iconst 0, 1) := by decide +kernel
theorem dX9_goes_10 : decode cX9_goes 10 = .ok (.aload_n 0, 1) := by decide +kernel
theorem dX9_goes_11 : decode cX9_goes 11 = .ok (.getfield 7, 3) := by decide +kernel
theorem dX9_goes_14 : decode cX9_goes 14 = .ok (.iconst 1, 1) := by decide +kernel
theorem dX9_goes_15 : decode cX9_goes 15 = .ok (.iaload, 1) := by decide +kernel
theorem dX9_goes_16 : decode cX9_goes 16 = .ok (.iconst 1, 1) := by decide +kernel
theorem dX9_goes_17 : decode cX9_goes 17 = .ok (.isub, 1) := by decide +kernel
theorem dX9_goes_18 : decode cX9_goes 18 = .ok (.invokestatic 57, 3) := by decide +kernel
theorem dX9_goes_21 : decode cX9_goes 21 = .ok (.ifCond .eq 11, 3) := by decide +kernel
theorem dX9_goes_24 : decode cX9_goes 24 = .ok (.aload_n 0, 1) := by decide +kernel
theorem dX9_goes_25 : decode cX9_goes 25 = .ok (.iload_n 3, 1) := by decide +kernel
theorem dX9_goes_26 : decode cX9_goes 26 = .ok (.invokevirtual 89, 3) := by decide +kernel
theorem dX9_goes_29 : decode cX9_goes 29 = .ok (.ifCond .ne 6, 3) := by decide +kernel
theorem dX9_goes_32 : decode cX9_goes 32 = .ok (.ldc 93, 2) := by decide +kernel
theorem dX9_goes_34 : decode cX9_goes 34 = .ok (.ireturn, 1) := by decide +kernel
theorem dX9_goes_35 : decode cX9_goes 35 = .ok (.aload_n 0, 1) := by decide +kernel
theorem dX9_goes_36 : decode cX9_goes 36 = .ok (.invokevirtual 161, 3) := by decide +kernel
theorem dX9_goes_39 : decode cX9_goes 39 = .ok (.aload_n 0, 1) := by decide +kernel
theorem dX9_goes_40 : decode cX9_goes 40 = .ok (.getfield 7, 3) := by decide +kernel
theorem dX9_goes_43 : decode cX9_goes 43 = .ok (.bipush 28, 2) := by decide +kernel
theorem dX9_goes_45 : decode cX9_goes 45 = .ok (.iconst 3, 1) := by decide +kernel
theorem dX9_goes_46 : decode cX9_goes 46 = .ok (.iload_n 1, 1) := by decide +kernel
theorem dX9_goes_47 : decode cX9_goes 47 = .ok (.imul, 1) := by decide +kernel
theorem dX9_goes_48 : decode cX9_goes 48 = .ok (.iadd, 1) := by decide +kernel
theorem dX9_goes_49 : decode cX9_goes 49 = .ok (.iload_n 2, 1) := by decide +kernel
theorem dX9_goes_50 : decode cX9_goes 50 = .ok (.iadd, 1) := by decide +kernel
theorem dX9_goes_51 : decode cX9_goes 51 = .ok (.iaload, 1) := by decide +kernel
theorem dX9_goes_52 : decode cX9_goes 52 = .ok (.istore 4, 2) := by decide +kernel
theorem dX9_goes_54 : decode cX9_goes 54 = .ok (.aload_n 0, 1) := by decide +kernel
theorem dX9_goes_55 : decode cX9_goes 55 = .ok (.getfield 7, 3) := by decide +kernel
theorem dX9_goes_58 : decode cX9_goes 58 = .ok (.bipush 28, 2) := by decide +kernel
theorem dX9_goes_60 : decode cX9_goes 60 = .ok (.iconst 3, 1) := by decide +kernel
theorem dX9_goes_61 : decode cX9_goes 61 = .ok (.iload_n 1, 1) := by decide +kernel
theorem dX9_goes_62 : decode cX9_goes 62 = .ok (.imul, 1) := by decide +kernel
theorem dX9_goes_63 : decode cX9_goes 63 = .ok (.iadd, 1) := by decide +kernel
theorem dX9_goes_64 : decode cX9_goes 64 = .ok (.iload_n 2, 1) := by decide +kernel
theorem dX9_goes_65 : decode cX9_goes 65 = .ok (.iadd, 1) := by decide +kernel
theorem dX9_goes_66 : decode cX9_goes 66 = .ok (.iload_n 3, 1) := by decide +kernel
theorem dX9_goes_67 : decode cX9_goes 67 = .ok (.iastore, 1) := by decide +kernel
theorem dX9_goes_68 : decode cX9_goes 68 = .ok (.iload 4, 2) := by decide +kernel
theorem dX9_goes_70 : decode cX9_goes 70 = .ok (.ireturn, 1) := by decide +kernel
set_option maxRecDepth 20000 in
theorem ggX9_finals_X9_isSet : GoodIn wsX9_finals wsX9_isSet := goodIn_r _ [7, 2, 8, 9, 6, 10, 20, 21, 22, 23, 24, 25, 26, 27, 28, 29, 30, 31, 32, 33, 34, 35, 36] (by decide +kernel) (by decide +kernel)
set_option maxRecDepth 20000 in
theorem gX9_finals_X9_isSet : GoodIn wsX9_finals (wsV RX9 168 RX9 yX9_isSet wsX9_isSet) := goodIn_app (goodIn_of _ (by decide +kernel)) ggX9_finals_X9_isSet
set_option maxRecDepth 20000 in
theorem ggX9_finals_X9_notes : GoodIn wsX9_finals wsX9_notes := goodIn_r _ [14, 15, 16, 2, 17, 18, 6, 19, 20, 21, 22, 23, 24, 25, 26, 27, 28, 29, 30, 31, 32, 33, 34, 35, 36] (by decide +kernel) (by decide +kernel)
set_option maxRecDepth 20000 in
theorem gX9_finals_X9_notes : GoodIn wsX9_finals (wsV RX9 161 RX9 yX9_notes wsX9_notes) := goodIn_app (goodIn_of _ (by decide +kernel)) ggX9_finals_X9_notes
theorem dX9_finals_0 : decode cX9_finals 0 = .ok (.aload_n 0, 1) := by decide +kernel
theorem dX9_finals_1 : decode cX9_finals 1 = .ok (.iload_n 1, 1) := by decide +kernel
theorem dX9_finals_2 : decode cX9_finals 2 = .ok (.invokevirtual 168, 3) := by decide +kernel
theorem dX9_finals_5 : decode cX9_finals 5 = .ok (.ifCond .ne 6, 3) := by decide +kernel
theorem dX9_finals_8 : decode cX9_finals 8 = .ok (.ldc 93, 2) := by decide +kernel
theorem dX9_finals_10 : decode cX9_finals 10 = .ok (.ireturn, 1) := by decide +kernel
theorem dX9_finals_11 : decode cX9_finals 11 = .ok (.aload_n 0, 1) := by decide +kernel
theorem dX9_finals_12 : decode cX9_finals 12 = .ok (.invokevirtual 161, 3) := by decide +kernel
theorem dX9_finals_15 : decode cX9_finals 15 = .ok (.aload_n 0, 1) := by decide +kernel
theorem dX9_finals_16 : decode cX9_finals 16 = .ok (.getfield 7, 3) := by decide +kernel
theorem dX9_finals_19 : decode cX9_finals 19 = .ok (.iconst 2, 1) := by decide +kernel
theorem dX9_finals_20 : decode cX9_finals 20 = .ok (.iaload, 1) := by decide +kernel
theorem dX9_finals_21 : decode cX9_finals 21 = .ok (.istore_n 2, 1) := by decide +kernel
theorem dX9_finals_22 : decode cX9_finals 22 = .ok (.aload_n 0, 1) := by decide +kernel
theorem dX9_finals_23 : decode cX9_finals 23 = .ok (.getfield 7, 3) := by decide +kernel
theorem dX9_finals_26 : decode cX9_finals 26 = .ok (.iconst 2, 1) := by decide +kernel
theorem dX9_finals_27 : decode cX9_finals 27 = .ok (.iload_n 1, 1) := by decide +kernel
theorem dX9_finals_28 : decode cX9_finals 28 = .ok (.iastore, 1) := by decide +kernel
theorem dX9_finals_29 : decode cX9_finals 29 = .ok (.iload_n 2, 1) := by decide +kernel
theorem dX9_finals_30 : decode cX9_finals 30 = .ok (.ireturn, 1) := by decide +kernel
set_option maxRecDepth 20000 in
theorem ggX9_begin_X9_notes : GoodIn wsX9_begin wsX9_notes := goodIn_r _ [6, 7, 8, 1, 9, 10, 5, 11, 16, 17, 18, 19, 20, 21, 22, 23, 24, 25, 26, 27, 28, 29, 30, 31, 32] (by decide +kernel) (by decide +kernel)
set_option maxRecDepth 20000 in
theorem gX9_begin_X9_notes : GoodIn wsX9_begin (wsV RX9 161 RX9 yX9_notes wsX9_notes) := goodIn_app (goodIn_of _ (by decide +kernel)) ggX9_begin_X9_notes
set_option maxRecDepth 20000 in
theorem ggX9_begin_X9_classes : GoodIn wsX9_begin wsX9_classes := goodIn_r _ [15, 1, 16, 17, 18, 19, 20, 21, 22, 23, 24, 25, 26, 27, 28, 29, 30, 31, 32] (by decide +kernel) (by decide +kernel)
set_option maxRecDepth 20000 in
theorem gX9_begin_X9_classes : GoodIn wsX9_begin (wsV RX9 73 RX9 yX9_classes wsX9_classes) := goodIn_app (goodIn_of _ (by decide +kernel)) ggX9_begin_X9_classes
theorem dX9_begin_0 : decode cX9_begin 0 = .ok (.aload_n 0, 1) := by decide +kernel
theorem dX9_begin_1 : decode cX9_begin 1 = .ok (.invokevirtual 161, 3) := by decide +kernel
theorem dX9_begin_4 : decode cX9_begin 4 = .ok (.aload_n 0, 1) := by decide +kernel
theorem dX9_begin_5 : decode cX9_begin 5 = .ok (.aload_n 0, 1) := by decide +kernel
theorem dX9_begin_6 : decode cX9_begin 6 = .ok (.getfield 7, 3) := by decide +kernel
theorem dX9_begin_9 : decode cX9_begin 9 = .ok (.bipush 64, 2) := by decide +kernel
theorem dX9_begin_11 : decode cX9_begin 11 = .ok (.invokevirtual 73, 3) := by decide +kernel
theorem dX9_begin_14 : decode cX9_begin 14 = .ok (.istore_n 1, 1) := by decide +kernel
theorem dX9_begin_15 : decode cX9_begin 15 = .ok (.iconst 0, 1) := by decide +kernel
theorem dX9_begin_16 : decode cX9_begin 16 = .ok (.istore_n 2, 1) := by decide +kernel
theorem dX9_begin_17 : decode cX9_begin 17 = .ok (.iload_n 2, 1) := by decide +kernel
theorem dX9_begin_18 : decode cX9_begin 18 = .ok (.bipush 12, 2) := by decide +kernel
theorem dX9_begin_20 : decode cX9_begin 20 = .ok (.if_icmp .ge 19, 3) := by decide +kernel
theorem dX9_begin_23 : decode cX9_begin 23 = .ok (.aload_n 0, 1) := by decide +kernel
theorem dX9_begin_24 : decode cX9_begin 24 = .ok (.getfield 7, 3) := by decide +kernel
theorem dX9_begin_27 : decode cX9_begin 27 = .ok (.bipush 64, 2) := by decide +kernel
theorem dX9_begin_29 : decode cX9_begin 29 = .ok (.iload_n 2, 1) := by decide +kernel
theorem dX9_begin_30 : decode cX9_begin 30 = .ok (.iadd, 1) := by decide +kernel
theorem dX9_begin_31 : decode cX9_begin 31 = .ok (.iconst 0, 1) := by decide +kernel
theorem dX9_begin_32 : decode cX9_begin 32 = .ok (.iastore, 1) := by decide +kernel
theorem dX9_begin_33 : decode cX9_begin 33 = .ok (.iinc 2 1, 3) := by decide +kernel
theorem dX9_begin_36 : decode cX9_begin 36 = .ok (.goto (-19), 3) := by decide +kernel
theorem dX9_begin_39 : decode cX9_begin 39 = .ok (.aload_n 0, 1) := by decide +kernel
theorem dX9_begin_40 : decode cX9_begin 40 = .ok (.getfield 7, 3) := by decide +kernel
theorem dX9_begin_43 : decode cX9_begin 43 = .ok (.iconst 3, 1) := by decide +kernel
theorem dX9_begin_44 : decode cX9_begin 44 = .ok (.iconst 0, 1) := by decide +kernel
theorem dX9_begin_45 : decode cX9_begin 45 = .ok (.iastore, 1) := by decide +kernel
theorem dX9_begin_46 : decode cX9_begin 46 = .ok (.iload_n 1, 1) := by decide +kernel
theorem dX9_begin_47 : decode cX9_begin 47 = .ok (.ireturn, 1) := by decide +kernel
set_option maxRecDepth 20000 in
theorem ggX9_splitsNow_X9_notes : GoodIn wsX9_splitsNow wsX9_notes := goodIn_r _ [6, 7, 8, 1, 9, 10, 5, 11, 35, 36, 37, 38, 39, 40, 41, 42, 43, 44, 45, 46, 47, 48, 49, 50, 51] (by decide +kernel) (by decide +kernel)
set_option maxRecDepth 20000 in
theorem gX9_splitsNow_X9_notes : GoodIn wsX9_splitsNow (wsV RX9 161 RX9 yX9_notes wsX9_notes) := goodIn_app (goodIn_of _ (by decide +kernel)) ggX9_splitsNow_X9_notes
set_option maxRecDepth 20000 in
theorem ggX9_splitsNow_X9_sizeOf : GoodIn wsX9_splitsNow wsX9_sizeOf := goodIn_r _ [14] (by decide +kernel) (by decide +kernel)
set_option maxRecDepth 20000 in
theorem gX9_splitsNow_X9_sizeOf : GoodIn wsX9_splitsNow (va_wsS RX9 85 yX9_sizeOf wsX9_sizeOf) := goodIn_app (goodIn_of _ (by decide +kernel)) ggX9_splitsNow_X9_sizeOf
set_option maxRecDepth 20000 in
theorem ggX9_splitsNow_X9_splits : GoodIn wsX9_splitsNow wsX9_splits := goodIn_r _ [18, 19, 20, 21, 22, 5, 23, 1, 9, 10, 11, 24, 25, 26, 27, 28, 29, 30, 31, 32, 33, 34, 35, 36, 37, 38, 39, 40, 41, 42, 43, 44, 45, 46, 47, 48, 49, 50, 51] (by decide +kernel) (by decide +kernel)
set_option maxRecDepth 20000 in
theorem gX9_splitsNow_X9_splits : GoodIn wsX9_splitsNow (wsV RX9 124 RX9 yX9_splits wsX9_splits) := goodIn_app (goodIn_of _ (by decide +kernel)) ggX9_splitsNow_X9_splits
set_option maxRecDepth 20000 in
theorem ggX9_splitsNow_X9_classes : GoodIn wsX9_splitsNow wsX9_classes := goodIn_r _ [23, 1, 35, 36, 37, 38, 39, 40, 41, 42, 43, 44, 45, 46, 47, 48, 49, 50, 51] (by decide +kernel) (by decide +kernel)
set_option maxRecDepth 20000 in
theorem gX9_splitsNow_X9_classes : GoodIn wsX9_splitsNow (wsV RX9 73 RX9 yX9_classes wsX9_classes) := goodIn_app (goodIn_of _ (by decide +kernel)) ggX9_splitsNow_X9_classes
theorem dX9_splitsNow_0 : decode cX9_splitsNow 0 = .ok (.aload_n 0, 1) := by decide +kernel
theorem dX9_splitsNow_1 : decode cX9_splitsNow 1 = .ok (.invokevirtual 161, 3) := by decide +kernel
theorem dX9_splitsNow_4 : decode cX9_splitsNow 4 = .ok (.aload_n 0, 1) := by decide +kernel
theorem dX9_splitsNow_5 : decode cX9_splitsNow 5 = .ok (.getfield 7, 3) := by decide +kernel
theorem dX9_splitsNow_8 : decode cX9_splitsNow 8 = .ok (.iconst 3, 1) := by decide +kernel
theorem dX9_splitsNow_9 : decode cX9_splitsNow 9 = .ok (.dup2, 1) := by decide +kernel
theorem dX9_splitsNow_10 : decode cX9_splitsNow 10 = .ok (.iaload, 1) := by decide +kernel
theorem dX9_splitsNow_11 : decode cX9_splitsNow 11 = .ok (.iload_n 1, 1) := by decide +kernel
theorem dX9_splitsNow_12 : decode cX9_splitsNow 12 = .ok (.invokestatic 85, 3) := by decide +kernel
theorem dX9_splitsNow_15 : decode cX9_splitsNow 15 = .ok (.iadd, 1) := by decide +kernel
theorem dX9_splitsNow_16 : decode cX9_splitsNow 16 = .ok (.iastore, 1) := by decide +kernel
theorem dX9_splitsNow_17 : decode cX9_splitsNow 17 = .ok (.aload_n 0, 1) := by decide +kernel
theorem dX9_splitsNow_18 : decode cX9_splitsNow 18 = .ok (.aload_n 0, 1) := by decide +kernel
theorem dX9_splitsNow_19 : decode cX9_splitsNow 19 = .ok (.getfield 7, 3) := by decide +kernel
theorem dX9_splitsNow_22 : decode cX9_splitsNow 22 = .ok (.bipush 64, 2) := by decide +kernel
theorem dX9_splitsNow_24 : decode cX9_splitsNow 24 = .ok (.iload_n 1, 1) := by decide +kernel
theorem dX9_splitsNow_25 : decode cX9_splitsNow 25 = .ok (.invokevirtual 124, 3) := by decide +kernel
theorem dX9_splitsNow_28 : decode cX9_splitsNow 28 = .ok (.aload_n 0, 1) := by decide +kernel
theorem dX9_splitsNow_29 : decode cX9_splitsNow 29 = .ok (.aload_n 0, 1) := by decide +kernel
theorem dX9_splitsNow_30 : decode cX9_splitsNow 30 = .ok (.getfield 7, 3) := by decide +kernel
theorem dX9_splitsNow_33 : decode cX9_splitsNow 33 = .ok (.bipush 64, 2) := by decide +kernel
theorem dX9_splitsNow_35 : decode cX9_splitsNow 35 = .ok (.invokevirtual 73, 3) := by decide +kernel
theorem dX9_splitsNow_38 : decode cX9_splitsNow 38 = .ok (.ireturn, 1) := by decide +kernel
set_option maxRecDepth 20000 in
theorem ggX9_split_X9_isSet : GoodIn wsX9_split wsX9_isSet := goodIn_r _ [6, 7, 8, 9, 5, 10, 47, 48, 49, 50, 51, 52, 53, 54, 55, 56, 57, 58, 59, 60, 61, 62, 63] (by decide +kernel) (by decide +kernel)
set_option maxRecDepth 20000 in
theorem gX9_split_X9_isSet : GoodIn wsX9_split (wsV RX9 168 RX9 yX9_isSet wsX9_isSet) := goodIn_app (goodIn_of _ (by decide +kernel)) ggX9_split_X9_isSet
set_option maxRecDepth 20000 in
theorem ggX9_split_X9_splitsNow : GoodIn wsX9_split wsX9_splitsNow := goodIn_r _ [14, 7, 15, 16, 17, 5, 18, 19, 20, 21, 22, 23, 24, 25, 26, 27, 28, 29, 30, 31, 32, 33, 34, 35, 36, 37, 38, 39, 40, 41, 42, 43, 44, 45, 46, 47, 48, 49, 50, 51, 52, 53, 54, 55, 56, 57, 58, 59, 60, 61, 62, 63] (by decide +kernel) (by decide +kernel)
set_option maxRecDepth 20000 in
theorem gX9_split_X9_splitsNow : GoodIn wsX9_split (wsV RX9 171 RX9 yX9_splitsNow wsX9_splitsNow) := goodIn_app (goodIn_of _ (by decide +kernel)) ggX9_split_X9_splitsNow
theorem dX9_split_0 : decode cX9_split 0 = .ok (.aload_n 0, 1) := by decide +kernel
theorem dX9_split_1 : decode cX9_split 1 = .ok (.iload_n 1, 1) := by decide +kernel
theorem dX9_split_2 : decode cX9_split 2 = .ok (.invokevirtual 168, 3) := by decide +kernel
theorem dX9_split_5 : decode cX9_split 5 = .ok (.ifCond .eq 11, 3) := by decide +kernel
theorem dX9_split_8 : decode cX9_split 8 = .ok (.aload_n 0, 1) := by decide +kernel
theorem dX9_split_9 : decode cX9_split 9 = .ok (.iload_n 1, 1) := by decide +kernel
theorem dX9_split_10 : decode cX9_split 10 = .ok (.invokevirtual 171, 3) := by decide +kernel
theorem dX9_split_13 : decode cX9_split 13 = .ok (.goto 5, 3) := by decide +kernel
theorem dX9_split_16 : decode cX9_split 16 = .ok (.ldc 93, 2) := by decide +kernel
theorem dX9_split_18 : decode cX9_split 18 = .ok (.ireturn, 1) := by decide +kernel
set_option maxRecDepth 20000 in
theorem ggX9_by_X9_askedBy : GoodIn wsX9_by wsX9_askedBy := goodIn_r _ [5, 6, 7, 8, 9, 10, 11, 4, 12, 13, 14, 15, 16, 17, 18, 19, 68, 69, 70, 71, 72, 73, 74, 75, 76, 77, 78, 79, 80, 81, 82, 83, 84] (by decide +kernel) (by decide +kernel)
set_option maxRecDepth 20000 in
theorem gX9_by_X9_askedBy : GoodIn wsX9_by (wsV RX9 105 RX9 yX9_askedBy wsX9_askedBy) := goodIn_app (goodIn_of _ (by decide +kernel)) ggX9_by_X9_askedBy
set_option maxRecDepth 20000 in
theorem ggX9_by_X9_setOf : GoodIn wsX9_by wsX9_setOf := goodIn_r _ [23, 6, 24, 25, 26, 4, 27, 28, 29, 30, 31, 32, 33, 34, 35, 36, 37, 38, 39, 40, 41, 42, 43, 44, 45, 68, 69, 70, 71, 72, 73, 74, 75, 76, 77, 78, 79, 80, 81, 82, 83, 84] (by decide +kernel) (by decide +kernel)
set_option maxRecDepth 20000 in
theorem gX9_by_X9_setOf : GoodIn wsX9_by (wsV RX9 109 RX9 yX9_setOf wsX9_setOf) := goodIn_app (goodIn_of _ (by decide +kernel)) ggX9_by_X9_setOf
set_option maxRecDepth 20000 in
theorem ggX9_by_X9_splitsNow : GoodIn wsX9_by wsX9_splitsNow := goodIn_r _ [49, 6, 50, 51, 52, 4, 53, 54, 55, 56, 57, 58, 43, 44, 45, 59, 60, 61, 62, 63, 9, 10, 11, 12, 39, 40, 41, 42, 64, 65, 66, 67, 28, 29, 30, 68, 69, 70, 71, 72, 73, 74, 75, 76, 77, 78, 79, 80, 81, 82, 83, 84] (by decide +kernel) (by decide +kernel)
set_option maxRecDepth 20000 in
theorem gX9_by_X9_splitsNow : GoodIn wsX9_by (wsV RX9 171 RX9 yX9_splitsNow wsX9_splitsNow) := goodIn_app (goodIn_of _ (by decide +kernel)) ggX9_by_X9_splitsNow
theorem dX9_by_0 : decode cX9_by 0 = .ok (.aload_n 0, 1) := by decide +kernel
theorem dX9_by_1 : decode cX9_by 1 = .ok (.iload_n 1, 1) := by decide +kernel
theorem dX9_by_2 : decode cX9_by 2 = .ok (.iload_n 2, 1) := by decide +kernel
theorem dX9_by_3 : decode cX9_by 3 = .ok (.iload_n 3, 1) := by decide +kernel
theorem dX9_by_4 : decode cX9_by 4 = .ok (.invokevirtual 105, 3) := by decide +kernel
theorem dX9_by_7 : decode cX9_by 7 = .ok (.istore 4, 2) := by decide +kernel
theorem dX9_by_9 : decode cX9_by 9 = .ok (.iload 4, 2) := by decide +kernel
theorem dX9_by_11 : decode cX9_by 11 = .ok (.ifCond .eq 8, 3) := by decide +kernel
theorem dX9_by_14 : decode cX9_by 14 = .ok (.iload 4, 2) := by decide +kernel
theorem dX9_by_16 : decode cX9_by 16 = .ok (.goto 14, 3) := by decide +kernel
theorem dX9_by_19 : decode cX9_by 19 = .ok (.aload_n 0, 1) := by decide +kernel
theorem dX9_by_20 : decode cX9_by 20 = .ok (.aload_n 0, 1) := by decide +kernel
theorem dX9_by_21 : decode cX9_by 21 = .ok (.iload_n 1, 1) := by decide +kernel
theorem dX9_by_22 : decode cX9_by 22 = .ok (.iload_n 2, 1) := by decide +kernel
theorem dX9_by_23 : decode cX9_by 23 = .ok (.iload_n 3, 1) := by decide +kernel
theorem dX9_by_24 : decode cX9_by 24 = .ok (.invokevirtual 109, 3) := by decide +kernel
theorem dX9_by_27 : decode cX9_by 27 = .ok (.invokevirtual 171, 3) := by decide +kernel
theorem dX9_by_30 : decode cX9_by 30 = .ok (.ireturn, 1) := by decide +kernel
set_option maxRecDepth 20000 in
theorem ggX9_refine_X9_in : GoodIn wsX9_refine wsX9_in := goodIn_r _ [6] (by decide +kernel) (by decide +kernel)
set_option maxRecDepth 20000 in
theorem gX9_refine_X9_in : GoodIn wsX9_refine (va_wsS RX9 57 yX9_in wsX9_in) := goodIn_app (goodIn_of _ (by decide +kernel)) ggX9_refine_X9_in
set_option maxRecDepth 20000 in
theorem ggX9_refine_X9_notes : GoodIn wsX9_refine wsX9_notes := goodIn_r _ [10, 11, 12, 2, 13, 14, 5, 15, 73, 74, 75, 76, 77, 78, 79, 80, 81, 82, 83, 84, 85, 86, 87, 88, 89] (by decide +kernel) (by decide +kernel)
set_option maxRecDepth 20000 in
theorem gX9_refine_X9_notes : GoodIn wsX9_refine (wsV RX9 161 RX9 yX9_notes wsX9_notes) := goodIn_app (goodIn_of _ (by decide +kernel)) ggX9_refine_X9_notes
set_option maxRecDepth 20000 in
theorem ggX9_refine_X9_refines : GoodIn wsX9_refine wsX9_refines := goodIn_r _ [19, 2, 20, 21, 22, 5, 23, 24, 25, 26, 27, 28, 29, 30, 31, 32, 33, 34, 35, 36, 13, 14, 15, 37, 38, 39, 40, 41, 42, 43, 44, 45, 46, 47, 48, 49, 50, 51, 52, 53, 54, 55, 56, 57, 58, 59, 60, 61, 62, 63, 64, 65, 66, 67, 68, 69, 70, 71, 72, 73, 74, 75, 76, 77, 78, 79, 80, 81, 82, 83, 84, 85, 86, 87, 88, 89] (by decide +kernel) (by decide +kernel)
set_option maxRecDepth 20000 in
theorem gX9_refine_X9_refines : GoodIn wsX9_refine (wsV RX9 127 RX9 yX9_refines wsX9_refines) := goodIn_app (goodIn_of _ (by decide +kernel)) ggX9_refine_X9_refines
set_option maxRecDepth 20000 in
theorem ggX9_refine_X9_classes : GoodIn wsX9_refine wsX9_classes := goodIn_r _ [72, 2, 73, 74, 75, 76, 77, 78, 79, 80, 81, 82, 83, 84, 85, 86, 87, 88, 89] (by decide +kernel) (by decide +kernel)
set_option maxRecDepth 20000 in
theorem gX9_refine_X9_classes : GoodIn wsX9_refine (wsV RX9 73 RX9 yX9_classes wsX9_classes) := goodIn_app (goodIn_of _ (by decide +kernel)) ggX9_refine_X9_classes
theorem dX9_refine_0 : decode cX9_refine 0 = .ok (.iload_n 1, 1) := by decide +kernel
theorem dX9_refine_1 : decode cX9_refine 1 = .ok (.iconst 0, 1) := by decide +kernel
theorem dX9_refine_2 : decode cX9_refine 2 = .ok (.iconst 4, 1) := by decide +kernel
theorem dX9_refine_3 : decode cX9_refine 3 = .ok (.invokestatic 57, 3) := by decide +kernel
theorem dX9_refine_6 : decode cX9_refine 6 = .ok (.ifCond .ne 6, 3) := by decide +kernel
theorem dX9_refine_9 : decode cX9_refine 9 = .ok (.ldc 94, 2) := by decide +kernel
theorem dX9_refine_11 : decode cX9_refine 11 = .ok (.ireturn, 1) := by decide +kernel
theorem dX9_refine_12 : decode cX9_refine 12 = .ok (.aload_n 0, 1) := by decide +kernel
theorem dX9_refine_13 : decode cX9_refine 13 = .ok (.invokevirtual 161, 3) := by decide +kernel
theorem dX9_refine_16 : decode cX9_refine 16 = .ok (.aload_n 0, 1) := by decide +kernel
theorem dX9_refine_17 : decode cX9_refine 17 = .ok (.aload_n 0, 1) := by decide +kernel
theorem dX9_refine_18 : decode cX9_refine 18 = .ok (.getfield 7, 3) := by decide +kernel
theorem dX9_refine_21 : decode cX9_refine 21 = .ok (.bipush 64, 2) := by decide +kernel
theorem dX9_refine_23 : decode cX9_refine 23 = .ok (.iload_n 1, 1) := by decide +kernel
theorem dX9_refine_24 : decode cX9_refine 24 = .ok (.invokevirtual 127, 3) := by decide +kernel
theorem dX9_refine_27 : decode cX9_refine 27 = .ok (.aload_n 0, 1) := by decide +kernel
theorem dX9_refine_28 : decode cX9_refine 28 = .ok (.aload_n 0, 1) := by decide +kernel
theorem dX9_refine_29 : decode cX9_refine 29 = .ok (.getfield 7, 3) := by decide +kernel
theorem dX9_refine_32 : decode cX9_refine 32 = .ok (.bipush 64, 2) := by decide +kernel
theorem dX9_refine_34 : decode cX9_refine 34 = .ok (.invokevirtual 73, 3) := by decide +kernel
theorem dX9_refine_37 : decode cX9_refine 37 = .ok (.ireturn, 1) := by decide +kernel
set_option maxRecDepth 20000 in
theorem ggX9_join_X9_classes : GoodIn wsX9_join wsX9_classes := goodIn_r _ [7, 1, 20, 21, 22, 23, 24, 25, 26, 27, 28, 29, 30, 31, 32, 33, 34, 35, 36] (by decide +kernel) (by decide +kernel)
set_option maxRecDepth 20000 in
theorem gX9_join_X9_classes : GoodIn wsX9_join (wsV RX9 73 RX9 yX9_classes wsX9_classes) := goodIn_app (goodIn_of _ (by decide +kernel)) ggX9_join_X9_classes
set_option maxRecDepth 20000 in
theorem ggX9_join_X9_in : GoodIn wsX9_join wsX9_in := goodIn_r _ [10] (by decide +kernel) (by decide +kernel)
set_option maxRecDepth 20000 in
theorem gX9_join_X9_in : GoodIn wsX9_join (va_wsS RX9 57 yX9_in wsX9_in) := goodIn_app (goodIn_of _ (by decide +kernel)) ggX9_join_X9_in
set_option maxRecDepth 20000 in
theorem ggX9_join_X9_notes : GoodIn wsX9_join wsX9_notes := goodIn_r _ [14, 15, 16, 1, 17, 18, 6, 19, 20, 21, 22, 23, 24, 25, 26, 27, 28, 29, 30, 31, 32, 33, 34, 35, 36] (by decide +kernel) (by decide +kernel)
set_option maxRecDepth 20000 in
theorem gX9_join_X9_notes : GoodIn wsX9_join (wsV RX9 161 RX9 yX9_notes wsX9_notes) := goodIn_app (goodIn_of _ (by decide +kernel)) ggX9_join_X9_notes
theorem dX9_join_0 : decode cX9_join 0 = .ok (.iload_n 1, 1) := by decide +kernel
theorem dX9_join_1 : decode cX9_join 1 = .ok (.iconst 0, 1) := by decide +kernel
theorem dX9_join_2 : decode cX9_join 2 = .ok (.aload_n 0, 1) := by decide +kernel
theorem dX9_join_3 : decode cX9_join 3 = .ok (.aload_n 0, 1) := by decide +kernel
theorem dX9_join_4 : decode cX9_join 4 = .ok (.getfield 7, 3) := by decide +kernel
theorem dX9_join_7 : decode cX9_join 7 = .ok (.bipush 64, 2) := by decide +kernel
theorem dX9_join_9 : decode cX9_join 9 = .ok (.invokevirtual 73, 3) := by decide +kernel
theorem dX9_join_12 : decode cX9_join 12 = .ok (.iconst 2, 1) := by decide +kernel
theorem dX9_join_13 : decode cX9_join 13 = .ok (.isub, 1) := by decide +kernel
theorem dX9_join_14 : decode cX9_join 14 = .ok (.invokestatic 57, 3) := by decide +kernel
theorem dX9_join_17 : decode cX9_join 17 = .ok (.ifCond .ne 6, 3) := by decide +kernel
theorem dX9_join_20 : decode cX9_join 20 = .ok (.ldc 93, 2) := by decide +kernel
theorem dX9_join_22 : decode cX9_join 22 = .ok (.ireturn, 1) := by decide +kernel
theorem dX9_join_23 : decode cX9_join 23 = .ok (.aload_n 0, 1) := by decide +kernel
theorem dX9_join_24 : decode cX9_join 24 = .ok (.invokevirtual 161, 3) := by decide +kernel
theorem dX9_join_27 : decode cX9_join 27 = .ok (.iconst 0, 1) := by decide +kernel
theorem dX9_join_28 : decode cX9_join 28 = .ok (.istore_n 2, 1) := by decide +kernel
theorem dX9_join_29 : decode cX9_join 29 = .ok (.iload_n 2, 1) := by decide +kernel
theorem dX9_join_30 : decode cX9_join 30 = .ok (.aload_n 0, 1) := by decide +kernel
theorem dX9_join_31 : decode cX9_join 31 = .ok (.getfield 7, 3) := by decide +kernel
theorem dX9_join_34 : decode cX9_join 34 = .ok (.iconst 0, 1) := by decide +kernel
theorem dX9_join_35 : decode cX9_join 35 = .ok (.iaload, 1) := by decide +kernel
theorem dX9_join_36 : decode cX9_join 36 = .ok (.if_icmp .ge 39, 3) := by decide +kernel
theorem dX9_join_39 : decode cX9_join 39 = .ok (.aload_n 0, 1) := by decide +kernel
theorem dX9_join_40 : decode cX9_join 40 = .ok (.getfield 7, 3) := by decide +kernel
theorem dX9_join_43 : decode cX9_join 43 = .ok (.bipush 64, 2) := by decide +kernel
theorem dX9_join_45 : decode cX9_join 45 = .ok (.iload_n 2, 1) := by decide +kernel
theorem dX9_join_46 : decode cX9_join 46 = .ok (.iadd, 1) := by decide +kernel
theorem dX9_join_47 : decode cX9_join 47 = .ok (.dup2, 1) := by decide +kernel
theorem dX9_join_48 : decode cX9_join 48 = .ok (.iaload, 1) := by decide +kernel
theorem dX9_join_49 : decode cX9_join 49 = .ok (.aload_n 0, 1) := by decide +kernel
theorem dX9_join_50 : decode cX9_join 50 = .ok (.getfield 7, 3) := by decide +kernel
theorem dX9_join_53 : decode cX9_join 53 = .ok (.bipush 64, 2) := by decide +kernel
theorem dX9_join_55 : decode cX9_join 55 = .ok (.iload_n 2, 1) := by decide +kernel
theorem dX9_join_56 : decode cX9_join 56 = .ok (.iadd, 1) := by decide +kernel
theorem dX9_join_57 : decode cX9_join 57 = .ok (.iaload, 1) := by decide +kernel
theorem dX9_join_58 : decode cX9_join 58 = .ok (.iload_n 1, 1) := by decide +kernel
theorem dX9_join_59 : decode cX9_join 59 = .ok (.if_icmp .le 7, 3) := by decide +kernel
theorem dX9_join_62 : decode cX9_join 62 = .ok (.iconst 1, 1) := by decide +kernel
theorem dX9_join_63 : decode cX9_join 63 = .ok (.goto 4, 3) := by decide +kernel
theorem dX9_join_66 : decode cX9_join 66 = .ok (.iconst 0, 1) := by decide +kernel
theorem dX9_join_67 : decode cX9_join 67 = .ok (.isub, 1) := by decide +kernel
theorem dX9_join_68 : decode cX9_join 68 = .ok (.iastore, 1) := by decide +kernel
theorem dX9_join_69 : decode cX9_join 69 = .ok (.iinc 2 1, 3) := by decide +kernel
theorem dX9_join_72 : decode cX9_join 72 = .ok (.goto (-43), 3) := by decide +kernel
theorem dX9_join_75 : decode cX9_join 75 = .ok (.aload_n 0, 1) := by decide +kernel
theorem dX9_join_76 : decode cX9_join 76 = .ok (.aload_n 0, 1) := by decide +kernel
theorem dX9_join_77 : decode cX9_join 77 = .ok (.getfield 7, 3) := by decide +kernel
theorem dX9_join_80 : decode cX9_join 80 = .ok (.bipush 64, 2) := by decide +kernel
theorem dX9_join_82 : decode cX9_join 82 = .ok (.invokevirtual 73, 3) := by decide +kernel
theorem dX9_join_85 : decode cX9_join 85 = .ok (.ireturn, 1) := by decide +kernel
set_option maxRecDepth 20000 in
theorem ggX9_arrange_X9_notes : GoodIn wsX9_arrange wsX9_notes := goodIn_r _ [7, 8, 9, 1, 10, 11, 6, 12, 37, 38, 39, 40, 41, 42, 43, 44, 45, 46, 47, 48, 49, 50, 51, 52, 53] (by decide +kernel) (by decide +kernel)
set_option maxRecDepth 20000 in
theorem gX9_arrange_X9_notes : GoodIn wsX9_arrange (wsV RX9 161 RX9 yX9_notes wsX9_notes) := goodIn_app (goodIn_of _ (by decide +kernel)) ggX9_arrange_X9_notes
set_option maxRecDepth 20000 in
theorem ggX9_arrange_X9_bring : GoodIn wsX9_arrange wsX9_bring := goodIn_r _ [12] (by decide +kernel) (by decide +kernel)
set_option maxRecDepth 20000 in
theorem gX9_arrange_X9_bring : GoodIn wsX9_arrange (va_wsS RX9 65 yX9_bring wsX9_bring) := goodIn_app (goodIn_of _ (by decide +kernel)) ggX9_arrange_X9_bring
set_option maxRecDepth 20000 in
theorem ggX9_arrange_X9_arranges : GoodIn wsX9_arrange wsX9_arranges := goodIn_r _ [16, 17, 1, 10, 11, 6, 12, 18, 19, 20, 21, 22, 23, 24, 25, 26, 27, 28, 37, 38, 39, 40, 41, 42, 43, 44, 45, 46, 47, 48, 49, 50, 51, 52, 53] (by decide +kernel) (by decide +kernel)
set_option maxRecDepth 20000 in
theorem gX9_arrange_X9_arranges : GoodIn wsX9_arrange (wsV RX9 116 RX9 yX9_arranges wsX9_arranges) := goodIn_app (goodIn_of _ (by decide +kernel)) ggX9_arrange_X9_arranges
set_option maxRecDepth 20000 in
theorem ggX9_arrange_X9_classes : GoodIn wsX9_arrange wsX9_classes := goodIn_r _ [32, 1, 37, 38, 39, 40, 41, 42, 43, 44, 45, 46, 47, 48, 49, 50, 51, 52, 53] (by decide +kernel) (by decide +kernel)
set_option maxRecDepth 20000 in
theorem gX9_arrange_X9_classes : GoodIn wsX9_arrange (wsV RX9 73 RX9 yX9_classes wsX9_classes) := goodIn_app (goodIn_of _ (by decide +kernel)) ggX9_arrange_X9_classes
set_option maxRecDepth 20000 in
theorem ggX9_arrange_X9_membersOf : GoodIn wsX9_arrange wsX9_membersOf := goodIn_r _ [21, 1, 37, 38, 39, 40, 41, 42, 43, 44, 45, 46, 47, 48, 49, 50, 51, 52, 53] (by decide +kernel) (by decide +kernel)
