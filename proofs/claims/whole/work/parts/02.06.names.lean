theorem dX9_sizeOf_13 : decode cX9_sizeOf 13 = .ok (.ishr, 1) := by decide +kernel
theorem dX9_sizeOf_14 : decode cX9_sizeOf 14 = .ok (.iconst 1, 1) := by decide +kernel
theorem dX9_sizeOf_15 : decode cX9_sizeOf 15 = .ok (.iand, 1) := by decide +kernel
theorem dX9_sizeOf_16 : decode cX9_sizeOf 16 = .ok (.iadd, 1) := by decide +kernel
theorem dX9_sizeOf_17 : decode cX9_sizeOf 17 = .ok (.istore_n 1, 1) := by decide +kernel
theorem dX9_sizeOf_18 : decode cX9_sizeOf 18 = .ok (.iinc 2 1, 3) := by decide +kernel
theorem dX9_sizeOf_21 : decode cX9_sizeOf 21 = .ok (.goto (-17), 3) := by decide +kernel
theorem dX9_sizeOf_24 : decode cX9_sizeOf 24 = .ok (.iload_n 1, 1) := by decide +kernel
theorem dX9_sizeOf_25 : decode cX9_sizeOf 25 = .ok (.ireturn, 1) := by decide +kernel
theorem dX9_bring_0 : decode cX9_bring 0 = .ok (.iconst 0, 1) := by decide +kernel
theorem dX9_bring_1 : decode cX9_bring 1 = .ok (.istore 5, 2) := by decide +kernel
theorem dX9_bring_3 : decode cX9_bring 3 = .ok (.iload 5, 2) := by decide +kernel
theorem dX9_bring_5 : decode cX9_bring 5 = .ok (.iload 4, 2) := by decide +kernel
theorem dX9_bring_7 : decode cX9_bring 7 = .ok (.if_icmp .ge 21, 3) := by decide +kernel
theorem dX9_bring_10 : decode cX9_bring 10 = .ok (.aload_n 2, 1) := by decide +kernel
theorem dX9_bring_11 : decode cX9_bring 11 = .ok (.iload_n 3, 1) := by decide +kernel
theorem dX9_bring_12 : decode cX9_bring 12 = .ok (.iload 5, 2) := by decide +kernel
theorem dX9_bring_14 : decode cX9_bring 14 = .ok (.iadd, 1) := by decide +kernel
theorem dX9_bring_15 : decode cX9_bring 15 = .ok (.aload_n 0, 1) := by decide +kernel
theorem dX9_bring_16 : decode cX9_bring 16 = .ok (.iload_n 1, 1) := by decide +kernel
theorem dX9_bring_17 : decode cX9_bring 17 = .ok (.iload 5, 2) := by decide +kernel
theorem dX9_bring_19 : decode cX9_bring 19 = .ok (.iadd, 1) := by decide +kernel
theorem dX9_bring_20 : decode cX9_bring 20 = .ok (.iaload, 1) := by decide +kernel
theorem dX9_bring_21 : decode cX9_bring 21 = .ok (.iastore, 1) := by decide +kernel
theorem dX9_bring_22 : decode cX9_bring 22 = .ok (.iinc 5 1, 3) := by decide +kernel
theorem dX9_bring_25 : decode cX9_bring 25 = .ok (.goto (-22), 3) := by decide +kernel
theorem dX9_bring_28 : decode cX9_bring 28 = .ok (.return_, 1) := by decide +kernel
theorem dX9_lays_0 : decode cX9_lays 0 = .ok (.iconst 0, 1) := by decide +kernel
theorem dX9_lays_1 : decode cX9_lays 1 = .ok (.istore_n 2, 1) := by decide +kernel
theorem dX9_lays_2 : decode cX9_lays 2 = .ok (.iload_n 2, 1) := by decide +kernel
theorem dX9_lays_3 : decode cX9_lays 3 = .ok (.bipush 76, 2) := by decide +kernel
theorem dX9_lays_5 : decode cX9_lays 5 = .ok (.if_icmp .ge 16, 3) := by decide +kernel
theorem dX9_lays_8 : decode cX9_lays 8 = .ok (.aload_n 0, 1) := by decide +kernel
theorem dX9_lays_9 : decode cX9_lays 9 = .ok (.getfield 7, 3) := by decide +kernel
theorem dX9_lays_12 : decode cX9_lays 12 = .ok (.iload_n 2, 1) := by decide +kernel
theorem dX9_lays_13 : decode cX9_lays 13 = .ok (.iconst 0, 1) := by decide +kernel
theorem dX9_lays_14 : decode cX9_lays 14 = .ok (.iastore, 1) := by decide +kernel
theorem dX9_lays_15 : decode cX9_lays 15 = .ok (.iinc 2 1, 3) := by decide +kernel
theorem dX9_lays_18 : decode cX9_lays 18 = .ok (.goto (-16), 3) := by decide +kernel
theorem dX9_lays_21 : decode cX9_lays 21 = .ok (.aload_n 0, 1) := by decide +kernel
theorem dX9_lays_22 : decode cX9_lays 22 = .ok (.getfield 7, 3) := by decide +kernel
theorem dX9_lays_25 : decode cX9_lays 25 = .ok (.iconst 0, 1) := by decide +kernel
theorem dX9_lays_26 : decode cX9_lays 26 = .ok (.iload_n 1, 1) := by decide +kernel
theorem dX9_lays_27 : decode cX9_lays 27 = .ok (.iastore, 1) := by decide +kernel
theorem dX9_lays_28 : decode cX9_lays 28 = .ok (.aload_n 0, 1) := by decide +kernel
theorem dX9_lays_29 : decode cX9_lays 29 = .ok (.getfield 7, 3) := by decide +kernel
theorem dX9_lays_32 : decode cX9_lays 32 = .ok (.iconst 1, 1) := by decide +kernel
theorem dX9_lays_33 : decode cX9_lays 33 = .ok (.iconst 1, 1) := by decide +kernel
theorem dX9_lays_34 : decode cX9_lays 34 = .ok (.iastore, 1) := by decide +kernel
theorem dX9_lays_35 : decode cX9_lays 35 = .ok (.iconst 0, 1) := by decide +kernel
theorem dX9_lays_36 : decode cX9_lays 36 = .ok (.istore_n 2, 1) := by decide +kernel
theorem dX9_lays_37 : decode cX9_lays 37 = .ok (.iload_n 2, 1) := by decide +kernel
theorem dX9_lays_38 : decode cX9_lays 38 = .ok (.bipush 12, 2) := by decide +kernel
theorem dX9_lays_40 : decode cX9_lays 40 = .ok (.if_icmp .ge 36, 3) := by decide +kernel
theorem dX9_lays_43 : decode cX9_lays 43 = .ok (.iconst 0, 1) := by decide +kernel
theorem dX9_lays_44 : decode cX9_lays 44 = .ok (.istore_n 3, 1) := by decide +kernel
theorem dX9_lays_45 : decode cX9_lays 45 = .ok (.iload_n 3, 1) := by decide +kernel
theorem dX9_lays_46 : decode cX9_lays 46 = .ok (.iconst 3, 1) := by decide +kernel
theorem dX9_lays_47 : decode cX9_lays 47 = .ok (.if_icmp .ge 23, 3) := by decide +kernel
theorem dX9_lays_50 : decode cX9_lays 50 = .ok (.aload_n 0, 1) := by decide +kernel
theorem dX9_lays_51 : decode cX9_lays 51 = .ok (.getfield 7, 3) := by decide +kernel
theorem dX9_lays_54 : decode cX9_lays 54 = .ok (.bipush 28, 2) := by decide +kernel
theorem dX9_lays_56 : decode cX9_lays 56 = .ok (.iconst 3, 1) := by decide +kernel
theorem dX9_lays_57 : decode cX9_lays 57 = .ok (.iload_n 2, 1) := by decide +kernel
theorem dX9_lays_58 : decode cX9_lays 58 = .ok (.imul, 1) := by decide +kernel
theorem dX9_lays_59 : decode cX9_lays 59 = .ok (.iadd, 1) := by decide +kernel
theorem dX9_lays_60 : decode cX9_lays 60 = .ok (.iload_n 3, 1) := by decide +kernel
theorem dX9_lays_61 : decode cX9_lays 61 = .ok (.iadd, 1) := by decide +kernel
theorem dX9_lays_62 : decode cX9_lays 62 = .ok (.iload_n 2, 1) := by decide +kernel
theorem dX9_lays_63 : decode cX9_lays 63 = .ok (.iastore, 1) := by decide +kernel
theorem dX9_lays_64 : decode cX9_lays 64 = .ok (.iinc 3 1, 3) := by decide +kernel
theorem dX9_lays_67 : decode cX9_lays 67 = .ok (.goto (-22), 3) := by decide +kernel
theorem dX9_lays_70 : decode cX9_lays 70 = .ok (.iinc 2 1, 3) := by decide +kernel
theorem dX9_lays_73 : decode cX9_lays 73 = .ok (.goto (-36), 3) := by decide +kernel
theorem dX9_lays_76 : decode cX9_lays 76 = .ok (.return_, 1) := by decide +kernel
set_option maxRecDepth 20000 in
theorem ggX9_isItem_X9_in : GoodIn wsX9_isItem wsX9_in := goodIn_r _ [5] (by decide +kernel) (by decide +kernel)
set_option maxRecDepth 20000 in
theorem gX9_isItem_X9_in : GoodIn wsX9_isItem (va_wsS RX9 57 yX9_in wsX9_in) := goodIn_app (goodIn_of _ (by decide +kernel)) ggX9_isItem_X9_in
theorem dX9_isItem_0 : decode cX9_isItem 0 = .ok (.iload_n 1, 1) := by decide +kernel
theorem dX9_isItem_1 : decode cX9_isItem 1 = .ok (.iconst 0, 1) := by decide +kernel
theorem dX9_isItem_2 : decode cX9_isItem 2 = .ok (.aload_n 0, 1) := by decide +kernel
theorem dX9_isItem_3 : decode cX9_isItem 3 = .ok (.getfield 7, 3) := by decide +kernel
theorem dX9_isItem_6 : decode cX9_isItem 6 = .ok (.iconst 0, 1) := by decide +kernel
theorem dX9_isItem_7 : decode cX9_isItem 7 = .ok (.iaload, 1) := by decide +kernel
theorem dX9_isItem_8 : decode cX9_isItem 8 = .ok (.iconst 1, 1) := by decide +kernel
theorem dX9_isItem_9 : decode cX9_isItem 9 = .ok (.isub, 1) := by decide +kernel
theorem dX9_isItem_10 : decode cX9_isItem 10 = .ok (.invokestatic 57, 3) := by decide +kernel
theorem dX9_isItem_13 : decode cX9_isItem 13 = .ok (.ireturn, 1) := by decide +kernel
set_option maxRecDepth 20000 in
theorem ggX9_isSet_X9_in : GoodIn wsX9_isSet wsX9_in := goodIn_r _ [5] (by decide +kernel) (by decide +kernel)
set_option maxRecDepth 20000 in
theorem gX9_isSet_X9_in : GoodIn wsX9_isSet (va_wsS RX9 57 yX9_in wsX9_in) := goodIn_app (goodIn_of _ (by decide +kernel)) ggX9_isSet_X9_in
theorem dX9_isSet_0 : decode cX9_isSet 0 = .ok (.iload_n 1, 1) := by decide +kernel
theorem dX9_isSet_1 : decode cX9_isSet 1 = .ok (.iconst 0, 1) := by decide +kernel
theorem dX9_isSet_2 : decode cX9_isSet 2 = .ok (.iconst 1, 1) := by decide +kernel
theorem dX9_isSet_3 : decode cX9_isSet 3 = .ok (.aload_n 0, 1) := by decide +kernel
theorem dX9_isSet_4 : decode cX9_isSet 4 = .ok (.getfield 7, 3) := by decide +kernel
theorem dX9_isSet_7 : decode cX9_isSet 7 = .ok (.iconst 0, 1) := by decide +kernel
theorem dX9_isSet_8 : decode cX9_isSet 8 = .ok (.iaload, 1) := by decide +kernel
theorem dX9_isSet_9 : decode cX9_isSet 9 = .ok (.ishl, 1) := by decide +kernel
theorem dX9_isSet_10 : decode cX9_isSet 10 = .ok (.iconst 1, 1) := by decide +kernel
theorem dX9_isSet_11 : decode cX9_isSet 11 = .ok (.isub, 1) := by decide +kernel
theorem dX9_isSet_12 : decode cX9_isSet 12 = .ok (.invokestatic 57, 3) := by decide +kernel
theorem dX9_isSet_15 : decode cX9_isSet 15 = .ok (.ireturn, 1) := by decide +kernel
set_option maxRecDepth 20000 in
theorem ggX9_notes_X9_bring : GoodIn wsX9_notes wsX9_bring := goodIn_r _ [7] (by decide +kernel) (by decide +kernel)
set_option maxRecDepth 20000 in
theorem gX9_notes_X9_bring : GoodIn wsX9_notes (va_wsS RX9 65 yX9_bring wsX9_bring) := goodIn_app (goodIn_of _ (by decide +kernel)) ggX9_notes_X9_bring
theorem dX9_notes_0 : decode cX9_notes 0 = .ok (.aload_n 0, 1) := by decide +kernel
theorem dX9_notes_1 : decode cX9_notes 1 = .ok (.getfield 61, 3) := by decide +kernel
theorem dX9_notes_4 : decode cX9_notes 4 = .ok (.bipush 16, 2) := by decide +kernel
theorem dX9_notes_6 : decode cX9_notes 6 = .ok (.if_icmp .ne 30, 3) := by decide +kernel
theorem dX9_notes_9 : decode cX9_notes 9 = .ok (.aload_n 0, 1) := by decide +kernel
theorem dX9_notes_10 : decode cX9_notes 10 = .ok (.getfield 13, 3) := by decide +kernel
theorem dX9_notes_13 : decode cX9_notes 13 = .ok (.bipush 76, 2) := by decide +kernel
theorem dX9_notes_15 : decode cX9_notes 15 = .ok (.aload_n 0, 1) := by decide +kernel
theorem dX9_notes_16 : decode cX9_notes 16 = .ok (.getfield 13, 3) := by decide +kernel
theorem dX9_notes_19 : decode cX9_notes 19 = .ok (.iconst 0, 1) := by decide +kernel
theorem dX9_notes_20 : decode cX9_notes 20 = .ok (.sipush 1140, 3) := by decide +kernel
theorem dX9_notes_23 : decode cX9_notes 23 = .ok (.invokestatic 65, 3) := by decide +kernel
theorem dX9_notes_26 : decode cX9_notes 26 = .ok (.aload_n 0, 1) := by decide +kernel
theorem dX9_notes_27 : decode cX9_notes 27 = .ok (.dup, 1) := by decide +kernel
theorem dX9_notes_28 : decode cX9_notes 28 = .ok (.getfield 61, 3) := by decide +kernel
theorem dX9_notes_31 : decode cX9_notes 31 = .ok (.iconst 1, 1) := by decide +kernel
theorem dX9_notes_32 : decode cX9_notes 32 = .ok (.isub, 1) := by decide +kernel
theorem dX9_notes_33 : decode cX9_notes 33 = .ok (.putfield 61, 3) := by decide +kernel
theorem dX9_notes_36 : decode cX9_notes 36 = .ok (.aload_n 0, 1) := by decide +kernel
theorem dX9_notes_37 : decode cX9_notes 37 = .ok (.getfield 7, 3) := by decide +kernel
theorem dX9_notes_40 : decode cX9_notes 40 = .ok (.iconst 0, 1) := by decide +kernel
theorem dX9_notes_41 : decode cX9_notes 41 = .ok (.aload_n 0, 1) := by decide +kernel
theorem dX9_notes_42 : decode cX9_notes 42 = .ok (.getfield 13, 3) := by decide +kernel
theorem dX9_notes_45 : decode cX9_notes 45 = .ok (.bipush 76, 2) := by decide +kernel
theorem dX9_notes_47 : decode cX9_notes 47 = .ok (.aload_n 0, 1) := by decide +kernel
theorem dX9_notes_48 : decode cX9_notes 48 = .ok (.getfield 61, 3) := by decide +kernel
theorem dX9_notes_51 : decode cX9_notes 51 = .ok (.imul, 1) := by decide +kernel
theorem dX9_notes_52 : decode cX9_notes 52 = .ok (.bipush 76, 2) := by decide +kernel
theorem dX9_notes_54 : decode cX9_notes 54 = .ok (.invokestatic 65, 3) := by decide +kernel
theorem dX9_notes_57 : decode cX9_notes 57 = .ok (.aload_n 0, 1) := by decide +kernel
theorem dX9_notes_58 : decode cX9_notes 58 = .ok (.dup, 1) := by decide +kernel
theorem dX9_notes_59 : decode cX9_notes 59 = .ok (.getfield 61, 3) := by decide +kernel
theorem dX9_notes_62 : decode cX9_notes 62 = .ok (.iconst 1, 1) := by decide +kernel
theorem dX9_notes_63 : decode cX9_notes 63 = .ok (.iadd, 1) := by decide +kernel
theorem dX9_notes_64 : decode cX9_notes 64 = .ok (.putfield 61, 3) := by decide +kernel
theorem dX9_notes_67 : decode cX9_notes 67 = .ok (.return_, 1) := by decide +kernel
theorem dX9_classes_0 : decode cX9_classes 0 = .ok (.iconst (-1), 1) := by decide +kernel
theorem dX9_classes_1 : decode cX9_classes 1 = .ok (.istore_n 3, 1) := by decide +kernel
theorem dX9_classes_2 : decode cX9_classes 2 = .ok (.iconst 0, 1) := by decide +kernel
theorem dX9_classes_3 : decode cX9_classes 3 = .ok (.istore 4, 2) := by decide +kernel
theorem dX9_classes_5 : decode cX9_classes 5 = .ok (.iload 4, 2) := by decide +kernel
theorem dX9_classes_7 : decode cX9_classes 7 = .ok (.aload_n 0, 1) := by decide +kernel
theorem dX9_classes_8 : decode cX9_classes 8 = .ok (.getfield 7, 3) := by decide +kernel
theorem dX9_classes_11 : decode cX9_classes 11 = .ok (.iconst 0, 1) := by decide +kernel
theorem dX9_classes_12 : decode cX9_classes 12 = .ok (.iaload, 1) := by decide +kernel
theorem dX9_classes_13 : decode cX9_classes 13 = .ok (.if_icmp .ge 30, 3) := by decide +kernel
theorem dX9_classes_16 : decode cX9_classes 16 = .ok (.aload_n 1, 1) := by decide +kernel
theorem dX9_classes_17 : decode cX9_classes 17 = .ok (.iload_n 2, 1) := by decide +kernel
theorem dX9_classes_18 : decode cX9_classes 18 = .ok (.iload 4, 2) := by decide +kernel
theorem dX9_classes_20 : decode cX9_classes 20 = .ok (.iadd, 1) := by decide +kernel
theorem dX9_classes_21 : decode cX9_classes 21 = .ok (.iaload, 1) := by decide +kernel
theorem dX9_classes_22 : decode cX9_classes 22 = .ok (.iload_n 3, 1) := by decide +kernel
theorem dX9_classes_23 : decode cX9_classes 23 = .ok (.if_icmp .le 12, 3) := by decide +kernel
theorem dX9_classes_26 : decode cX9_classes 26 = .ok (.aload_n 1, 1) := by decide +kernel
theorem dX9_classes_27 : decode cX9_classes 27 = .ok (.iload_n 2, 1) := by decide +kernel
theorem dX9_classes_28 : decode cX9_classes 28 = .ok (.iload 4, 2) := by decide +kernel
theorem dX9_classes_30 : decode cX9_classes 30 = .ok (.iadd, 1) := by decide +kernel
theorem dX9_classes_31 : decode cX9_classes 31 = .ok (.iaload, 1) := by decide +kernel
theorem dX9_classes_32 : decode cX9_classes 32 = .ok (.goto 4, 3) := by decide +kernel
theorem dX9_classes_35 : decode cX9_classes 35 = .ok (.iload_n 3, 1) := by decide +kernel
theorem dX9_classes_36 : decode cX9_classes 36 = .ok (.istore_n 3, 1) := by decide +kernel
theorem dX9_classes_37 : decode cX9_classes 37 = .ok (.iinc 4 1, 3) := by decide +kernel
theorem dX9_classes_40 : decode cX9_classes 40 = .ok (.goto (-35), 3) := by decide +kernel
theorem dX9_classes_43 : decode cX9_classes 43 = .ok (.iload_n 3, 1) := by decide +kernel
theorem dX9_classes_44 : decode cX9_classes 44 = .ok (.iconst 1, 1) := by decide +kernel
theorem dX9_classes_45 : decode cX9_classes 45 = .ok (.iadd, 1) := by decide +kernel
theorem dX9_classes_46 : decode cX9_classes 46 = .ok (.ireturn, 1) := by decide +kernel
theorem dX9_membersOf_0 : decode cX9_membersOf 0 = .ok (.iconst 0, 1) := by decide +kernel
theorem dX9_membersOf_1 : decode cX9_membersOf 1 = .ok (.istore 4, 2) := by decide +kernel
theorem dX9_membersOf_3 : decode cX9_membersOf 3 = .ok (.iconst 0, 1) := by decide +kernel
theorem dX9_membersOf_4 : decode cX9_membersOf 4 = .ok (.istore 5, 2) := by decide +kernel
theorem dX9_membersOf_6 : decode cX9_membersOf 6 = .ok (.iload 5, 2) := by decide +kernel
theorem dX9_membersOf_8 : decode cX9_membersOf 8 = .ok (.aload_n 0, 1) := by decide +kernel
theorem dX9_membersOf_9 : decode cX9_membersOf 9 = .ok (.getfield 7, 3) := by decide +kernel
theorem dX9_membersOf_12 : decode cX9_membersOf 12 = .ok (.iconst 0, 1) := by decide +kernel
theorem dX9_membersOf_13 : decode cX9_membersOf 13 = .ok (.iaload, 1) := by decide +kernel
theorem dX9_membersOf_14 : decode cX9_membersOf 14 = .ok (.if_icmp .ge 32, 3) := by decide +kernel
theorem dX9_membersOf_17 : decode cX9_membersOf 17 = .ok (.iload 4, 2) := by decide +kernel
theorem dX9_membersOf_19 : decode cX9_membersOf 19 = .ok (.aload_n 1, 1) := by decide +kernel
theorem dX9_membersOf_20 : decode cX9_membersOf 20 = .ok (.iload_n 2, 1) := by decide +kernel
theorem dX9_membersOf_21 : decode cX9_membersOf 21 = .ok (.iload 5, 2) := by decide +kernel
theorem dX9_membersOf_23 : decode cX9_membersOf 23 = .ok (.iadd, 1) := by decide +kernel
theorem dX9_membersOf_24 : decode cX9_membersOf 24 = .ok (.iaload, 1) := by decide +kernel
theorem dX9_membersOf_25 : decode cX9_membersOf 25 = .ok (.iload_n 3, 1) := by decide +kernel
theorem dX9_membersOf_26 : decode cX9_membersOf 26 = .ok (.if_icmp .ne 10, 3) := by decide +kernel
theorem dX9_membersOf_29 : decode cX9_membersOf 29 = .ok (.iconst 1, 1) := by decide +kernel
theorem dX9_membersOf_30 : decode cX9_membersOf 30 = .ok (.iload 5, 2) := by decide +kernel
theorem dX9_membersOf_32 : decode cX9_membersOf 32 = .ok (.ishl, 1) := by decide +kernel
theorem dX9_membersOf_33 : decode cX9_membersOf 33 = .ok (.goto 4, 3) := by decide +kernel
theorem dX9_membersOf_36 : decode cX9_membersOf 36 = .ok (.iconst 0, 1) := by decide +kernel
theorem dX9_membersOf_37 : decode cX9_membersOf 37 = .ok (.ior, 1) := by decide +kernel
theorem dX9_membersOf_38 : decode cX9_membersOf 38 = .ok (.istore 4, 2) := by decide +kernel
theorem dX9_membersOf_40 : decode cX9_membersOf 40 = .ok (.iinc 5 1, 3) := by decide +kernel
theorem dX9_membersOf_43 : decode cX9_membersOf 43 = .ok (.goto (-37), 3) := by decide +kernel
theorem dX9_membersOf_46 : decode cX9_membersOf 46 = .ok (.iload 4, 2) := by decide +kernel
theorem dX9_membersOf_48 : decode cX9_membersOf 48 = .ok (.ireturn, 1) := by decide +kernel
set_option maxRecDepth 20000 in
theorem ggX9_gives_X9_has : GoodIn wsX9_gives wsX9_has := goodIn_r _ [5] (by decide +kernel) (by decide +kernel)
set_option maxRecDepth 20000 in
theorem gX9_gives_X9_has : GoodIn wsX9_gives (va_wsS RX9 69 yX9_has wsX9_has) := goodIn_app (goodIn_of _ (by decide +kernel)) ggX9_gives_X9_has
theorem dX9_gives_0 : decode cX9_gives 0 = .ok (.iconst 0, 1) := by decide +kernel
theorem dX9_gives_1 : decode cX9_gives 1 = .ok (.istore 5, 2) := by decide +kernel
theorem dX9_gives_3 : decode cX9_gives 3 = .ok (.iload 5, 2) := by decide +kernel
theorem dX9_gives_5 : decode cX9_gives 5 = .ok (.aload_n 0, 1) := by decide +kernel
theorem dX9_gives_6 : decode cX9_gives 6 = .ok (.getfield 7, 3) := by decide +kernel
theorem dX9_gives_9 : decode cX9_gives 9 = .ok (.iconst 0, 1) := by decide +kernel
theorem dX9_gives_10 : decode cX9_gives 10 = .ok (.iaload, 1) := by decide +kernel
theorem dX9_gives_11 : decode cX9_gives 11 = .ok (.if_icmp .ge 35, 3) := by decide +kernel
theorem dX9_gives_14 : decode cX9_gives 14 = .ok (.aload_n 1, 1) := by decide +kernel
theorem dX9_gives_15 : decode cX9_gives 15 = .ok (.iload_n 2, 1) := by decide +kernel
theorem dX9_gives_16 : decode cX9_gives 16 = .ok (.iload 5, 2) := by decide +kernel
theorem dX9_gives_18 : decode cX9_gives 18 = .ok (.iadd, 1) := by decide +kernel
theorem dX9_gives_19 : decode cX9_gives 19 = .ok (.iload_n 3, 1) := by decide +kernel
theorem dX9_gives_20 : decode cX9_gives 20 = .ok (.iload 5, 2) := by decide +kernel
theorem dX9_gives_22 : decode cX9_gives 22 = .ok (.invokestatic 69, 3) := by decide +kernel
theorem dX9_gives_25 : decode cX9_gives 25 = .ok (.ifCond .eq 8, 3) := by decide +kernel
theorem dX9_gives_28 : decode cX9_gives 28 = .ok (.iload 4, 2) := by decide +kernel
theorem dX9_gives_30 : decode cX9_gives 30 = .ok (.goto 9, 3) := by decide +kernel
theorem dX9_gives_33 : decode cX9_gives 33 = .ok (.aload_n 1, 1) := by decide +kernel
theorem dX9_gives_34 : decode cX9_gives 34 = .ok (.iload_n 2, 1) := by decide +kernel
theorem dX9_gives_35 : decode cX9_gives 35 = .ok (.iload 5, 2) := by decide +kernel
theorem dX9_gives_37 : decode cX9_gives 37 = .ok (.iadd, 1) := by decide +kernel
theorem dX9_gives_38 : decode cX9_gives 38 = .ok (.iaload, 1) := by decide +kernel
theorem dX9_gives_39 : decode cX9_gives 39 = .ok (.iastore, 1) := by decide +kernel
theorem dX9_gives_40 : decode cX9_gives 40 = .ok (.iinc 5 1, 3) := by decide +kernel
theorem dX9_gives_43 : decode cX9_gives 43 = .ok (.goto (-40), 3) := by decide +kernel
theorem dX9_gives_46 : decode cX9_gives 46 = .ok (.return_, 1) := by decide +kernel
set_option maxRecDepth 20000 in
theorem ggX9_splits_X9_classes : GoodIn wsX9_splits wsX9_classes := goodIn_r _ [6, 7, 22, 23, 24, 25, 26, 27, 28, 29, 30, 31, 32, 33, 34, 35, 36, 37, 38] (by decide +kernel) (by decide +kernel)
set_option maxRecDepth 20000 in
theorem gX9_splits_X9_classes : GoodIn wsX9_splits (wsV RX9 73 RX9 yX9_classes wsX9_classes) := goodIn_app (goodIn_of _ (by decide +kernel)) ggX9_splits_X9_classes
set_option maxRecDepth 20000 in
theorem ggX9_splits_X9_bring : GoodIn wsX9_splits wsX9_bring := goodIn_r _ [10] (by decide +kernel) (by decide +kernel)
set_option maxRecDepth 20000 in
theorem gX9_splits_X9_bring : GoodIn wsX9_splits (va_wsS RX9 65 yX9_bring wsX9_bring) := goodIn_app (goodIn_of _ (by decide +kernel)) ggX9_splits_X9_bring
set_option maxRecDepth 20000 in
theorem ggX9_splits_X9_membersOf : GoodIn wsX9_splits wsX9_membersOf := goodIn_r _ [14, 7, 22, 23, 24, 25, 26, 27, 28, 29, 30, 31, 32, 33, 34, 35, 36, 37, 38] (by decide +kernel) (by decide +kernel)
set_option maxRecDepth 20000 in
theorem gX9_splits_X9_membersOf : GoodIn wsX9_splits (wsV RX9 77 RX9 yX9_membersOf wsX9_membersOf) := goodIn_app (goodIn_of _ (by decide +kernel)) ggX9_splits_X9_membersOf
set_option maxRecDepth 20000 in
theorem ggX9_splits_X9_gives : GoodIn wsX9_splits wsX9_gives := goodIn_r _ [18, 7, 19, 20, 5, 21, 22, 23, 24, 25, 26, 27, 28, 29, 30, 31, 32, 33, 34, 35, 36, 37, 38] (by decide +kernel) (by decide +kernel)
set_option maxRecDepth 20000 in
theorem gX9_splits_X9_gives : GoodIn wsX9_splits (wsV RX9 81 RX9 yX9_gives wsX9_gives) := goodIn_app (goodIn_of _ (by decide +kernel)) ggX9_splits_X9_gives
theorem dX9_splits_0 : decode cX9_splits 0 = .ok (.aload_n 0, 1) := by decide +kernel
theorem dX9_splits_1 : decode cX9_splits 1 = .ok (.aload_n 1, 1) := by decide +kernel
theorem dX9_splits_2 : decode cX9_splits 2 = .ok (.iload_n 2, 1) := by decide +kernel
theorem dX9_splits_3 : decode cX9_splits 3 = .ok (.invokevirtual 73, 3) := by decide +kernel
theorem dX9_splits_6 : decode cX9_splits 6 = .ok (.istore 4, 2) := by decide +kernel
theorem dX9_splits_8 : decode cX9_splits 8 = .ok (.iconst 0, 1) := by decide +kernel
theorem dX9_splits_9 : decode cX9_splits 9 = .ok (.istore 5, 2) := by decide +kernel
theorem dX9_splits_11 : decode cX9_splits 11 = .ok (.aload_n 1, 1) := by decide +kernel
theorem dX9_splits_12 : decode cX9_splits 12 = .ok (.iload_n 2, 1) := by decide +kernel
theorem dX9_splits_13 : decode cX9_splits 13 = .ok (.aload_n 0, 1) := by decide +kernel
theorem dX9_splits_14 : decode cX9_splits 14 = .ok (.getfield 29, 3) := by decide +kernel
theorem dX9_splits_17 : decode cX9_splits 17 = .ok (.iconst 0, 1) := by decide +kernel
theorem dX9_splits_18 : decode cX9_splits 18 = .ok (.bipush 12, 2) := by decide +kernel
theorem dX9_splits_20 : decode cX9_splits 20 = .ok (.invokestatic 65, 3) := by decide +kernel
theorem dX9_splits_23 : decode cX9_splits 23 = .ok (.iconst 0, 1) := by decide +kernel
theorem dX9_splits_24 : decode cX9_splits 24 = .ok (.istore 6, 2) := by decide +kernel
theorem dX9_splits_26 : decode cX9_splits 26 = .ok (.iload 6, 2) := by decide +kernel
theorem dX9_splits_28 : decode cX9_splits 28 = .ok (.iload 4, 2) := by decide +kernel
theorem dX9_splits_30 : decode cX9_splits 30 = .ok (.if_icmp .ge 77, 3) := by decide +kernel
theorem dX9_splits_33 : decode cX9_splits 33 = .ok (.aload_n 0, 1) := by decide +kernel
theorem dX9_splits_34 : decode cX9_splits 34 = .ok (.aload_n 1, 1) := by decide +kernel
theorem dX9_splits_35 : decode cX9_splits 35 = .ok (.iload_n 2, 1) := by decide +kernel
theorem dX9_splits_36 : decode cX9_splits 36 = .ok (.iload 6, 2) := by decide +kernel
theorem dX9_splits_38 : decode cX9_splits 38 = .ok (.invokevirtual 77, 3) := by decide +kernel
theorem dX9_splits_41 : decode cX9_splits 41 = .ok (.iload_n 3, 1) := by decide +kernel
theorem dX9_splits_42 : decode cX9_splits 42 = .ok (.iand, 1) := by decide +kernel
theorem dX9_splits_43 : decode cX9_splits 43 = .ok (.istore 7, 2) := by decide +kernel
theorem dX9_splits_45 : decode cX9_splits 45 = .ok (.aload_n 0, 1) := by decide +kernel
theorem dX9_splits_46 : decode cX9_splits 46 = .ok (.aload_n 1, 1) := by decide +kernel
theorem dX9_splits_47 : decode cX9_splits 47 = .ok (.iload_n 2, 1) := by decide +kernel
theorem dX9_splits_48 : decode cX9_splits 48 = .ok (.iload 6, 2) := by decide +kernel
theorem dX9_splits_50 : decode cX9_splits 50 = .ok (.invokevirtual 77, 3) := by decide +kernel
theorem dX9_splits_53 : decode cX9_splits 53 = .ok (.iload_n 3, 1) := by decide +kernel
theorem dX9_splits_54 : decode cX9_splits 54 = .ok (.iconst (-1), 1) := by decide +kernel
theorem dX9_splits_55 : decode cX9_splits 55 = .ok (.ixor, 1) := by decide +kernel
theorem dX9_splits_56 : decode cX9_splits 56 = .ok (.iand, 1) := by decide +kernel
theorem dX9_splits_57 : decode cX9_splits 57 = .ok (.istore 8, 2) := by decide +kernel
theorem dX9_splits_59 : decode cX9_splits 59 = .ok (.iload 7, 2) := by decide +kernel
theorem dX9_splits_61 : decode cX9_splits 61 = .ok (.ifCond .eq 19, 3) := by decide +kernel
theorem dX9_splits_64 : decode cX9_splits 64 = .ok (.aload_n 0, 1) := by decide +kernel
theorem dX9_splits_65 : decode cX9_splits 65 = .ok (.aload_n 0, 1) := by decide +kernel
theorem dX9_splits_66 : decode cX9_splits 66 = .ok (.getfield 29, 3) := by decide +kernel
theorem dX9_splits_69 : decode cX9_splits 69 = .ok (.iconst 0, 1) := by decide +kernel
theorem dX9_splits_70 : decode cX9_splits 70 = .ok (.iload 7, 2) := by decide +kernel
theorem dX9_splits_72 : decode cX9_splits 72 = .ok (.iload 5, 2) := by decide +kernel
theorem dX9_splits_74 : decode cX9_splits 74 = .ok (.invokevirtual 81, 3) := by decide +kernel
theorem dX9_splits_77 : decode cX9_splits 77 = .ok (.iinc 5 1, 3) := by decide +kernel
theorem dX9_splits_80 : decode cX9_splits 80 = .ok (.iload 8, 2) := by decide +kernel
theorem dX9_splits_82 : decode cX9_splits 82 = .ok (.ifCond .eq 19, 3) := by decide +kernel
theorem dX9_splits_85 : decode cX9_splits 85 = .ok (.aload_n 0, 1) := by decide +kernel
theorem dX9_splits_86 : decode cX9_splits 86 = .ok (.aload_n 0, 1) := by decide +kernel
theorem dX9_splits_87 : decode cX9_splits 87 = .ok (.getfield 29, 3) := by decide +kernel
theorem dX9_splits_90 : decode cX9_splits 90 = .ok (.iconst 0, 1) := by decide +kernel
theorem dX9_splits_91 : decode cX9_splits 91 = .ok (.iload 8, 2) := by decide +kernel
theorem dX9_splits_93 : decode cX9_splits 93 = .ok (.iload 5, 2) := by decide +kernel
theorem dX9_splits_95 : decode cX9_splits 95 = .ok (.invokevirtual 81, 3) := by decide +kernel
theorem dX9_splits_98 : decode cX9_splits 98 = .ok (.iinc 5 1, 3) := by decide +kernel
theorem dX9_splits_101 : decode cX9_splits 101 = .ok (.iinc 6 1, 3) := by decide +kernel
theorem dX9_splits_104 : decode cX9_splits 104 = .ok (.goto (-78), 3) := by decide +kernel
theorem dX9_splits_107 : decode cX9_splits 107 = .ok (.aload_n 0, 1) := by decide +kernel
theorem dX9_splits_108 : decode cX9_splits 108 = .ok (.getfield 29, 3) := by decide +kernel
theorem dX9_splits_111 : decode cX9_splits 111 = .ok (.iconst 0, 1) := by decide +kernel
theorem dX9_splits_112 : decode cX9_splits 112 = .ok (.aload_n 1, 1) := by decide +kernel
theorem dX9_splits_113 : decode cX9_splits 113 = .ok (.iload_n 2, 1) := by decide +kernel
theorem dX9_splits_114 : decode cX9_splits 114 = .ok (.bipush 12, 2) := by decide +kernel
theorem dX9_splits_116 : decode cX9_splits 116 = .ok (.invokestatic 65, 3) := by decide +kernel
theorem dX9_splits_119 : decode cX9_splits 119 = .ok (.return_, 1) := by decide +kernel
set_option maxRecDepth 20000 in
theorem ggX9_arranges_X9_bring : GoodIn wsX9_arranges wsX9_bring := goodIn_r _ [6] (by decide +kernel) (by decide +kernel)
set_option maxRecDepth 20000 in
theorem gX9_arranges_X9_bring : GoodIn wsX9_arranges (va_wsS RX9 65 yX9_bring wsX9_bring) := goodIn_app (goodIn_of _ (by decide +kernel)) ggX9_arranges_X9_bring
set_option maxRecDepth 20000 in
theorem ggX9_arranges_X9_membersOf : GoodIn wsX9_arranges wsX9_membersOf := goodIn_r _ [10, 2, 18, 19, 20, 21, 22, 23, 24, 25, 26, 27, 28, 29, 30, 31, 32, 33, 34] (by decide +kernel) (by decide +kernel)
set_option maxRecDepth 20000 in
theorem gX9_arranges_X9_membersOf : GoodIn wsX9_arranges (wsV RX9 77 RX9 yX9_membersOf wsX9_membersOf) := goodIn_app (goodIn_of _ (by decide +kernel)) ggX9_arranges_X9_membersOf
set_option maxRecDepth 20000 in
theorem ggX9_arranges_X9_gives : GoodIn wsX9_arranges wsX9_gives := goodIn_r _ [14, 2, 15, 16, 5, 17, 18, 19, 20, 21, 22, 23, 24, 25, 26, 27, 28, 29, 30, 31, 32, 33, 34] (by decide +kernel) (by decide +kernel)
set_option maxRecDepth 20000 in
theorem gX9_arranges_X9_gives : GoodIn wsX9_arranges (wsV RX9 81 RX9 yX9_gives wsX9_gives) := goodIn_app (goodIn_of _ (by decide +kernel)) ggX9_arranges_X9_gives
theorem dX9_arranges_0 : decode cX9_arranges 0 = .ok (.iconst 0, 1) := by decide +kernel
theorem dX9_arranges_1 : decode cX9_arranges 1 = .ok (.istore_n 3, 1) := by decide +kernel
theorem dX9_arranges_2 : decode cX9_arranges 2 = .ok (.aload_n 1, 1) := by decide +kernel
theorem dX9_arranges_3 : decode cX9_arranges 3 = .ok (.iload_n 2, 1) := by decide +kernel
theorem dX9_arranges_4 : decode cX9_arranges 4 = .ok (.aload_n 0, 1) := by decide +kernel
theorem dX9_arranges_5 : decode cX9_arranges 5 = .ok (.getfield 29, 3) := by decide +kernel
theorem dX9_arranges_8 : decode cX9_arranges 8 = .ok (.iconst 0, 1) := by decide +kernel
theorem dX9_arranges_9 : decode cX9_arranges 9 = .ok (.bipush 12, 2) := by decide +kernel
theorem dX9_arranges_11 : decode cX9_arranges 11 = .ok (.invokestatic 65, 3) := by decide +kernel
theorem dX9_arranges_14 : decode cX9_arranges 14 = .ok (.iconst 0, 1) := by decide +kernel
theorem dX9_arranges_15 : decode cX9_arranges 15 = .ok (.istore 4, 2) := by decide +kernel
theorem dX9_arranges_17 : decode cX9_arranges 17 = .ok (.iload 4, 2) := by decide +kernel
theorem dX9_arranges_19 : decode cX9_arranges 19 = .ok (.aload_n 0, 1) := by decide +kernel
theorem dX9_arranges_20 : decode cX9_arranges 20 = .ok (.getfield 7, 3) := by decide +kernel
theorem dX9_arranges_23 : decode cX9_arranges 23 = .ok (.iconst 0, 1) := by decide +kernel
theorem dX9_arranges_24 : decode cX9_arranges 24 = .ok (.iaload, 1) := by decide +kernel
theorem dX9_arranges_25 : decode cX9_arranges 25 = .ok (.if_icmp .ge 50, 3) := by decide +kernel
theorem dX9_arranges_28 : decode cX9_arranges 28 = .ok (.aload_n 0, 1) := by decide +kernel
theorem dX9_arranges_29 : decode cX9_arranges 29 = .ok (.aload_n 1, 1) := by decide +kernel
theorem dX9_arranges_30 : decode cX9_arranges 30 = .ok (.iload_n 2, 1) := by decide +kernel
theorem dX9_arranges_31 : decode cX9_arranges 31 = .ok (.aload_n 1, 1) := by decide +kernel
theorem dX9_arranges_32 : decode cX9_arranges 32 = .ok (.iload_n 2, 1) := by decide +kernel
theorem dX9_arranges_33 : decode cX9_arranges 33 = .ok (.iload 4, 2) := by decide +kernel
theorem dX9_arranges_35 : decode cX9_arranges 35 = .ok (.iadd, 1) := by decide +kernel
theorem dX9_arranges_36 : decode cX9_arranges 36 = .ok (.iaload, 1) := by decide +kernel
theorem dX9_arranges_37 : decode cX9_arranges 37 = .ok (.invokevirtual 77, 3) := by decide +kernel
theorem dX9_arranges_40 : decode cX9_arranges 40 = .ok (.istore 5, 2) := by decide +kernel
theorem dX9_arranges_42 : decode cX9_arranges 42 = .ok (.iload 5, 2) := by decide +kernel
theorem dX9_arranges_44 : decode cX9_arranges 44 = .ok (.iconst 1, 1) := by decide +kernel
theorem dX9_arranges_45 : decode cX9_arranges 45 = .ok (.iload 4, 2) := by decide +kernel
theorem dX9_arranges_47 : decode cX9_arranges 47 = .ok (.ishl, 1) := by decide +kernel
theorem dX9_arranges_48 : decode cX9_arranges 48 = .ok (.iconst 1, 1) := by decide +kernel
theorem dX9_arranges_49 : decode cX9_arranges 49 = .ok (.isub, 1) := by decide +kernel
theorem dX9_arranges_50 : decode cX9_arranges 50 = .ok (.iand, 1) := by decide +kernel
theorem dX9_arranges_51 : decode cX9_arranges 51 = .ok (.ifCond .ne 18, 3) := by decide +kernel
theorem dX9_arranges_54 : decode cX9_arranges 54 = .ok (.aload_n 0, 1) := by decide +kernel
theorem dX9_arranges_55 : decode cX9_arranges 55 = .ok (.aload_n 0, 1) := by decide +kernel
theorem dX9_arranges_56 : decode cX9_arranges 56 = .ok (.getfield 29, 3) := by decide +kernel
theorem dX9_arranges_59 : decode cX9_arranges 59 = .ok (.iconst 0, 1) := by decide +kernel
theorem dX9_arranges_60 : decode cX9_arranges 60 = .ok (.iload 5, 2) := by decide +kernel
theorem dX9_arranges_62 : decode cX9_arranges 62 = .ok (.iload_n 3, 1) := by decide +kernel
theorem dX9_arranges_63 : decode cX9_arranges 63 = .ok (.invokevirtual 81, 3) := by decide +kernel
theorem dX9_arranges_66 : decode cX9_arranges 66 = .ok (.iinc 3 1, 3) := by decide +kernel
theorem dX9_arranges_69 : decode cX9_arranges 69 = .ok (.iinc 4 1, 3) := by decide +kernel
theorem dX9_arranges_72 : decode cX9_arranges 72 = .ok (.goto (-55), 3) := by decide +kernel
theorem dX9_arranges_75 : decode cX9_arranges 75 = .ok (.aload_n 0, 1) := by decide +kernel
theorem dX9_arranges_76 : decode cX9_arranges 76 = .ok (.getfield 29, 3) := by decide +kernel
theorem dX9_arranges_79 : decode cX9_arranges 79 = .ok (.iconst 0, 1) := by decide +kernel
theorem dX9_arranges_80 : decode cX9_arranges 80 = .ok (.aload_n 1, 1) := by decide +kernel
theorem dX9_arranges_81 : decode cX9_arranges 81 = .ok (.iload_n 2, 1) := by decide +kernel
theorem dX9_arranges_82 : decode cX9_arranges 82 = .ok (.bipush 12, 2) := by decide +kernel
theorem dX9_arranges_84 : decode cX9_arranges 84 = .ok (.invokestatic 65, 3) := by decide +kernel
theorem dX9_arranges_87 : decode cX9_arranges 87 = .ok (.return_, 1) := by decide +kernel
set_option maxRecDepth 20000 in
theorem ggX9_columnSet_X9_has : GoodIn wsX9_columnSet wsX9_has := goodIn_r _ [5] (by decide +kernel) (by decide +kernel)
set_option maxRecDepth 20000 in
theorem gX9_columnSet_X9_has : GoodIn wsX9_columnSet (va_wsS RX9 69 yX9_has wsX9_has) := goodIn_app (goodIn_of _ (by decide +kernel)) ggX9_columnSet_X9_has
theorem dX9_columnSet_0 : decode cX9_columnSet 0 = .ok (.iconst 0, 1) := by decide +kernel
theorem dX9_columnSet_1 : decode cX9_columnSet 1 = .ok (.istore_n 2, 1) := by decide +kernel
theorem dX9_columnSet_2 : decode cX9_columnSet 2 = .ok (.iconst 0, 1) := by decide +kernel
theorem dX9_columnSet_3 : decode cX9_columnSet 3 = .ok (.istore_n 3, 1) := by decide +kernel
theorem dX9_columnSet_4 : decode cX9_columnSet 4 = .ok (.iload_n 3, 1) := by decide +kernel
theorem dX9_columnSet_5 : decode cX9_columnSet 5 = .ok (.aload_n 0, 1) := by decide +kernel
theorem dX9_columnSet_6 : decode cX9_columnSet 6 = .ok (.getfield 7, 3) := by decide +kernel
theorem dX9_columnSet_9 : decode cX9_columnSet 9 = .ok (.iconst 0, 1) := by decide +kernel
theorem dX9_columnSet_10 : decode cX9_columnSet 10 = .ok (.iaload, 1) := by decide +kernel
theorem dX9_columnSet_11 : decode cX9_columnSet 11 = .ok (.if_icmp .ge 34, 3) := by decide +kernel
theorem dX9_columnSet_14 : decode cX9_columnSet 14 = .ok (.iload_n 2, 1) := by decide +kernel
theorem dX9_columnSet_15 : decode cX9_columnSet 15 = .ok (.aload_n 0, 1) := by decide +kernel
theorem dX9_columnSet_16 : decode cX9_columnSet 16 = .ok (.getfield 7, 3) := by decide +kernel
theorem dX9_columnSet_19 : decode cX9_columnSet 19 = .ok (.iconst 4, 1) := by decide +kernel
theorem dX9_columnSet_20 : decode cX9_columnSet 20 = .ok (.iload_n 3, 1) := by decide +kernel
theorem dX9_columnSet_21 : decode cX9_columnSet 21 = .ok (.iadd, 1) := by decide +kernel
theorem dX9_columnSet_22 : decode cX9_columnSet 22 = .ok (.iaload, 1) := by decide +kernel
theorem dX9_columnSet_23 : decode cX9_columnSet 23 = .ok (.iload_n 1, 1) := by decide +kernel
theorem dX9_columnSet_24 : decode cX9_columnSet 24 = .ok (.invokestatic 69, 3) := by decide +kernel
theorem dX9_columnSet_27 : decode cX9_columnSet 27 = .ok (.ifCond .eq 9, 3) := by decide +kernel
theorem dX9_columnSet_30 : decode cX9_columnSet 30 = .ok (.iconst 1, 1) := by decide +kernel
theorem dX9_columnSet_31 : decode cX9_columnSet 31 = .ok (.iload_n 3, 1) := by decide +kernel
theorem dX9_columnSet_32 : decode cX9_columnSet 32 = .ok (.ishl, 1) := by decide +kernel
theorem dX9_columnSet_33 : decode cX9_columnSet 33 = .ok (.goto 4, 3) := by decide +kernel
theorem dX9_columnSet_36 : decode cX9_columnSet 36 = .ok (.iconst 0, 1) := by decide +kernel
theorem dX9_columnSet_37 : decode cX9_columnSet 37 = .ok (.ior, 1) := by decide +kernel
theorem dX9_columnSet_38 : decode cX9_columnSet 38 = .ok (.istore_n 2, 1) := by decide +kernel
theorem dX9_columnSet_39 : decode cX9_columnSet 39 = .ok (.iinc 3 1, 3) := by decide +kernel
theorem dX9_columnSet_42 : decode cX9_columnSet 42 = .ok (.goto (-38), 3) := by decide +kernel
theorem dX9_columnSet_45 : decode cX9_columnSet 45 = .ok (.iload_n 2, 1) := by decide +kernel
theorem dX9_columnSet_46 : decode cX9_columnSet 46 = .ok (.ireturn, 1) := by decide +kernel
theorem dX9_leadsTo_0 : decode cX9_leadsTo 0 = .ok (.iconst 0, 1) := by decide +kernel
theorem dX9_leadsTo_1 : decode cX9_leadsTo 1 = .ok (.istore_n 3, 1) := by decide +kernel
theorem dX9_leadsTo_2 : decode cX9_leadsTo 2 = .ok (.iconst 0, 1) := by decide +kernel
theorem dX9_leadsTo_3 : decode cX9_leadsTo 3 = .ok (.istore 4, 2) := by decide +kernel
theorem dX9_leadsTo_5 : decode cX9_leadsTo 5 = .ok (.iload 4, 2) := by decide +kernel
theorem dX9_leadsTo_7 : decode cX9_leadsTo 7 = .ok (.aload_n 0, 1) := by decide +kernel
theorem dX9_leadsTo_8 : decode cX9_leadsTo 8 = .ok (.getfield 7, 3) := by decide +kernel
theorem dX9_leadsTo_11 : decode cX9_leadsTo 11 = .ok (.iconst 0, 1) := by decide +kernel
theorem dX9_leadsTo_12 : decode cX9_leadsTo 12 = .ok (.iaload, 1) := by decide +kernel
theorem dX9_leadsTo_13 : decode cX9_leadsTo 13 = .ok (.if_icmp .ge 46, 3) := by decide +kernel
theorem dX9_leadsTo_16 : decode cX9_leadsTo 16 = .ok (.iload_n 3, 1) := by decide +kernel
theorem dX9_leadsTo_17 : decode cX9_leadsTo 17 = .ok (.aload_n 0, 1) := by decide +kernel
theorem dX9_leadsTo_18 : decode cX9_leadsTo 18 = .ok (.getfield 7, 3) := by decide +kernel
theorem dX9_leadsTo_21 : decode cX9_leadsTo 21 = .ok (.bipush 64, 2) := by decide +kernel
theorem dX9_leadsTo_23 : decode cX9_leadsTo 23 = .ok (.aload_n 0, 1) := by decide +kernel
theorem dX9_leadsTo_24 : decode cX9_leadsTo 24 = .ok (.getfield 7, 3) := by decide +kernel
theorem dX9_leadsTo_27 : decode cX9_leadsTo 27 = .ok (.bipush 28, 2) := by decide +kernel
theorem dX9_leadsTo_29 : decode cX9_leadsTo 29 = .ok (.iconst 3, 1) := by decide +kernel
theorem dX9_leadsTo_30 : decode cX9_leadsTo 30 = .ok (.iload 4, 2) := by decide +kernel
theorem dX9_leadsTo_32 : decode cX9_leadsTo 32 = .ok (.imul, 1) := by decide +kernel
theorem dX9_leadsTo_33 : decode cX9_leadsTo 33 = .ok (.iadd, 1) := by decide +kernel
theorem dX9_leadsTo_34 : decode cX9_leadsTo 34 = .ok (.iload_n 1, 1) := by decide +kernel
theorem dX9_leadsTo_35 : decode cX9_leadsTo 35 = .ok (.iadd, 1) := by decide +kernel
theorem dX9_leadsTo_36 : decode cX9_leadsTo 36 = .ok (.iaload, 1) := by decide +kernel
theorem dX9_leadsTo_37 : decode cX9_leadsTo 37 = .ok (.iadd, 1) := by decide +kernel
theorem dX9_leadsTo_38 : decode cX9_leadsTo 38 = .ok (.iaload, 1) := by decide +kernel
theorem dX9_leadsTo_39 : decode cX9_leadsTo 39 = .ok (.iload_n 2, 1) := by decide +kernel
theorem dX9_leadsTo_40 : decode cX9_leadsTo 40 = .ok (.if_icmp .ne 10, 3) := by decide +kernel
theorem dX9_leadsTo_43 : decode cX9_leadsTo 43 = .ok (.iconst 1, 1) := by decide +kernel
theorem dX9_leadsTo_44 : decode cX9_leadsTo 44 = .ok (.iload 4, 2) := by decide +kernel
theorem dX9_leadsTo_46 : decode cX9_leadsTo 46 = .ok (.ishl, 1) := by decide +kernel
theorem dX9_leadsTo_47 : decode cX9_leadsTo 47 = .ok (.goto 4, 3) := by decide +kernel
theorem dX9_leadsTo_50 : decode cX9_leadsTo 50 = .ok (.iconst 0, 1) := by decide +kernel
theorem dX9_leadsTo_51 : decode cX9_leadsTo 51 = .ok (.ior, 1) := by decide +kernel
theorem dX9_leadsTo_52 : decode cX9_leadsTo 52 = .ok (.istore_n 3, 1) := by decide +kernel
theorem dX9_leadsTo_53 : decode cX9_leadsTo 53 = .ok (.iinc 4 1, 3) := by decide +kernel
theorem dX9_leadsTo_56 : decode cX9_leadsTo 56 = .ok (.goto (-51), 3) := by decide +kernel
theorem dX9_leadsTo_59 : decode cX9_leadsTo 59 = .ok (.iload_n 3, 1) := by decide +kernel
theorem dX9_leadsTo_60 : decode cX9_leadsTo 60 = .ok (.ireturn, 1) := by decide +kernel
set_option maxRecDepth 20000 in
theorem ggX9_atLeast_X9_membersOf : GoodIn wsX9_atLeast wsX9_membersOf := goodIn_r _ [6, 1, 10, 11, 12, 13, 14, 15, 16, 17, 18, 19, 20, 21, 22, 23, 24, 25, 26] (by decide +kernel) (by decide +kernel)
set_option maxRecDepth 20000 in
theorem gX9_atLeast_X9_membersOf : GoodIn wsX9_atLeast (wsV RX9 77 RX9 yX9_membersOf wsX9_membersOf) := goodIn_app (goodIn_of _ (by decide +kernel)) ggX9_atLeast_X9_membersOf
set_option maxRecDepth 20000 in
theorem ggX9_atLeast_X9_sizeOf : GoodIn wsX9_atLeast wsX9_sizeOf := goodIn_r _ [9] (by decide +kernel) (by decide +kernel)
set_option maxRecDepth 20000 in
theorem gX9_atLeast_X9_sizeOf : GoodIn wsX9_atLeast (va_wsS RX9 85 yX9_sizeOf wsX9_sizeOf) := goodIn_app (goodIn_of _ (by decide +kernel)) ggX9_atLeast_X9_sizeOf
theorem dX9_atLeast_0 : decode cX9_atLeast 0 = .ok (.aload_n 0, 1) := by decide +kernel
theorem dX9_atLeast_1 : decode cX9_atLeast 1 = .ok (.aload_n 0, 1) := by decide +kernel
theorem dX9_atLeast_2 : decode cX9_atLeast 2 = .ok (.getfield 7, 3) := by decide +kernel
theorem dX9_atLeast_5 : decode cX9_atLeast 5 = .ok (.bipush 64, 2) := by decide +kernel
theorem dX9_atLeast_7 : decode cX9_atLeast 7 = .ok (.iload_n 1, 1) := by decide +kernel
theorem dX9_atLeast_8 : decode cX9_atLeast 8 = .ok (.invokevirtual 77, 3) := by decide +kernel
theorem dX9_atLeast_11 : decode cX9_atLeast 11 = .ok (.istore_n 3, 1) := by decide +kernel
theorem dX9_atLeast_12 : decode cX9_atLeast 12 = .ok (.iconst 0, 1) := by decide +kernel
theorem dX9_atLeast_13 : decode cX9_atLeast 13 = .ok (.istore 4, 2) := by decide +kernel
theorem dX9_atLeast_15 : decode cX9_atLeast 15 = .ok (.iconst 0, 1) := by decide +kernel
theorem dX9_atLeast_16 : decode cX9_atLeast 16 = .ok (.istore 5, 2) := by decide +kernel
theorem dX9_atLeast_18 : decode cX9_atLeast 18 = .ok (.iload 5, 2) := by decide +kernel
theorem dX9_atLeast_20 : decode cX9_atLeast 20 = .ok (.aload_n 0, 1) := by decide +kernel
theorem dX9_atLeast_21 : decode cX9_atLeast 21 = .ok (.getfield 7, 3) := by decide +kernel
theorem dX9_atLeast_24 : decode cX9_atLeast 24 = .ok (.iconst 0, 1) := by decide +kernel
theorem dX9_atLeast_25 : decode cX9_atLeast 25 = .ok (.iaload, 1) := by decide +kernel
theorem dX9_atLeast_26 : decode cX9_atLeast 26 = .ok (.if_icmp .ge 41, 3) := by decide +kernel
theorem dX9_atLeast_29 : decode cX9_atLeast 29 = .ok (.iload 4, 2) := by decide +kernel
theorem dX9_atLeast_31 : decode cX9_atLeast 31 = .ok (.aload_n 0, 1) := by decide +kernel
theorem dX9_atLeast_32 : decode cX9_atLeast 32 = .ok (.getfield 7, 3) := by decide +kernel
theorem dX9_atLeast_35 : decode cX9_atLeast 35 = .ok (.bipush 16, 2) := by decide +kernel
theorem dX9_atLeast_37 : decode cX9_atLeast 37 = .ok (.iload 5, 2) := by decide +kernel
theorem dX9_atLeast_39 : decode cX9_atLeast 39 = .ok (.iadd, 1) := by decide +kernel
theorem dX9_atLeast_40 : decode cX9_atLeast 40 = .ok (.iaload, 1) := by decide +kernel
theorem dX9_atLeast_41 : decode cX9_atLeast 41 = .ok (.iload_n 3, 1) := by decide +kernel
theorem dX9_atLeast_42 : decode cX9_atLeast 42 = .ok (.iand, 1) := by decide +kernel
theorem dX9_atLeast_43 : decode cX9_atLeast 43 = .ok (.invokestatic 85, 3) := by decide +kernel
theorem dX9_atLeast_46 : decode cX9_atLeast 46 = .ok (.iload_n 2, 1) := by decide +kernel
theorem dX9_atLeast_47 : decode cX9_atLeast 47 = .ok (.if_icmp .lt 10, 3) := by decide +kernel
theorem dX9_atLeast_50 : decode cX9_atLeast 50 = .ok (.iconst 1, 1) := by decide +kernel
theorem dX9_atLeast_51 : decode cX9_atLeast 51 = .ok (.iload 5, 2) := by decide +kernel
theorem dX9_atLeast_53 : decode cX9_atLeast 53 = .ok (.ishl, 1) := by decide +kernel
theorem dX9_atLeast_54 : decode cX9_atLeast 54 = .ok (.goto 4, 3) := by decide +kernel
theorem dX9_atLeast_57 : decode cX9_atLeast 57 = .ok (.iconst 0, 1) := by decide +kernel
theorem dX9_atLeast_58 : decode cX9_atLeast 58 = .ok (.ior, 1) := by decide +kernel
theorem dX9_atLeast_59 : decode cX9_atLeast 59 = .ok (.istore 4, 2) := by decide +kernel
theorem dX9_atLeast_61 : decode cX9_atLeast 61 = .ok (.iinc 5 1, 3) := by decide +kernel
theorem dX9_atLeast_64 : decode cX9_atLeast 64 = .ok (.goto (-46), 3) := by decide +kernel
theorem dX9_atLeast_67 : decode cX9_atLeast 67 = .ok (.iload 4, 2) := by decide +kernel
theorem dX9_atLeast_69 : decode cX9_atLeast 69 = .ok (.ireturn, 1) := by decide +kernel
set_option maxRecDepth 20000 in
theorem ggX9_askedBy_X9_classes : GoodIn wsX9_askedBy wsX9_classes := goodIn_r _ [8, 1, 16, 17, 18, 19, 20, 21, 22, 23, 24, 25, 26, 27, 28, 29, 30, 31, 32] (by decide +kernel) (by decide +kernel)
set_option maxRecDepth 20000 in
theorem gX9_askedBy_X9_classes : GoodIn wsX9_askedBy (wsV RX9 73 RX9 yX9_classes wsX9_classes) := goodIn_app (goodIn_of _ (by decide +kernel)) ggX9_askedBy_X9_classes
set_option maxRecDepth 20000 in
theorem ggX9_askedBy_X9_isItem : GoodIn wsX9_askedBy wsX9_isItem := goodIn_r _ [12, 1, 13, 14, 7, 15, 16, 17, 18, 19, 20, 21, 22, 23, 24, 25, 26, 27, 28, 29, 30, 31, 32] (by decide +kernel) (by decide +kernel)
set_option maxRecDepth 20000 in
theorem gX9_askedBy_X9_isItem : GoodIn wsX9_askedBy (wsV RX9 89 RX9 yX9_isItem wsX9_isItem) := goodIn_app (goodIn_of _ (by decide +kernel)) ggX9_askedBy_X9_isItem
set_option maxRecDepth 20000 in
theorem ggX9_askedBy_X9_in : GoodIn wsX9_askedBy wsX9_in := goodIn_r _ [15] (by decide +kernel) (by decide +kernel)
set_option maxRecDepth 20000 in
theorem gX9_askedBy_X9_in : GoodIn wsX9_askedBy (va_wsS RX9 57 yX9_in wsX9_in) := goodIn_app (goodIn_of _ (by decide +kernel)) ggX9_askedBy_X9_in
theorem dX9_askedBy_0 : decode cX9_askedBy 0 = .ok (.aload_n 0, 1) := by decide +kernel
theorem dX9_askedBy_1 : decode cX9_askedBy 1 = .ok (.aload_n 0, 1) := by decide +kernel
theorem dX9_askedBy_2 : decode cX9_askedBy 2 = .ok (.getfield 7, 3) := by decide +kernel
theorem dX9_askedBy_5 : decode cX9_askedBy 5 = .ok (.bipush 64, 2) := by decide +kernel
theorem dX9_askedBy_7 : decode cX9_askedBy 7 = .ok (.invokevirtual 73, 3) := by decide +kernel
theorem dX9_askedBy_10 : decode cX9_askedBy 10 = .ok (.istore 4, 2) := by decide +kernel
theorem dX9_askedBy_12 : decode cX9_askedBy 12 = .ok (.iload_n 1, 1) := by decide +kernel
theorem dX9_askedBy_13 : decode cX9_askedBy 13 = .ok (.tableswitch 142 0 5 #[39, 39, 54, 71, 106, 108], 39) := by decide +kernel
theorem dX9_askedBy_52 : decode cX9_askedBy 52 = .ok (.aload_n 0, 1) := by decide +kernel
theorem dX9_askedBy_53 : decode cX9_askedBy 53 = .ok (.iload_n 2, 1) := by decide +kernel
theorem dX9_askedBy_54 : decode cX9_askedBy 54 = .ok (.invokevirtual 89, 3) := by decide +kernel
theorem dX9_askedBy_57 : decode cX9_askedBy 57 = .ok (.ifCond .eq 7, 3) := by decide +kernel
theorem dX9_askedBy_60 : decode cX9_askedBy 60 = .ok (.iconst 0, 1) := by decide +kernel
theorem dX9_askedBy_61 : decode cX9_askedBy 61 = .ok (.goto 5, 3) := by decide +kernel
theorem dX9_askedBy_64 : decode cX9_askedBy 64 = .ok (.ldc 93, 2) := by decide +kernel
theorem dX9_askedBy_66 : decode cX9_askedBy 66 = .ok (.ireturn, 1) := by decide +kernel
theorem dX9_askedBy_67 : decode cX9_askedBy 67 = .ok (.iload_n 2, 1) := by decide +kernel
theorem dX9_askedBy_68 : decode cX9_askedBy 68 = .ok (.iconst 0, 1) := by decide +kernel
theorem dX9_askedBy_69 : decode cX9_askedBy 69 = .ok (.bipush 7, 2) := by decide +kernel
theorem dX9_askedBy_71 : decode cX9_askedBy 71 = .ok (.invokestatic 57, 3) := by decide +kernel
theorem dX9_askedBy_74 : decode cX9_askedBy 74 = .ok (.ifCond .eq 7, 3) := by decide +kernel
theorem dX9_askedBy_77 : decode cX9_askedBy 77 = .ok (.iconst 0, 1) := by decide +kernel
theorem dX9_askedBy_78 : decode cX9_askedBy 78 = .ok (.goto 5, 3) := by decide +kernel
theorem dX9_askedBy_81 : decode cX9_askedBy 81 = .ok (.ldc 93, 2) := by decide +kernel
theorem dX9_askedBy_83 : decode cX9_askedBy 83 = .ok (.ireturn, 1) := by decide +kernel
theorem dX9_askedBy_84 : decode cX9_askedBy 84 = .ok (.iload_n 2, 1) := by decide +kernel
theorem dX9_askedBy_85 : decode cX9_askedBy 85 = .ok (.iconst 0, 1) := by decide +kernel
theorem dX9_askedBy_86 : decode cX9_askedBy 86 = .ok (.aload_n 0, 1) := by decide +kernel
theorem dX9_askedBy_87 : decode cX9_askedBy 87 = .ok (.getfield 7, 3) := by decide +kernel
theorem dX9_askedBy_90 : decode cX9_askedBy 90 = .ok (.iconst 1, 1) := by decide +kernel
theorem dX9_askedBy_91 : decode cX9_askedBy 91 = .ok (.iaload, 1) := by decide +kernel
theorem dX9_askedBy_92 : decode cX9_askedBy 92 = .ok (.iconst 1, 1) := by decide +kernel
theorem dX9_askedBy_93 : decode cX9_askedBy 93 = .ok (.isub, 1) := by decide +kernel
theorem dX9_askedBy_94 : decode cX9_askedBy 94 = .ok (.invokestatic 57, 3) := by decide +kernel
theorem dX9_askedBy_97 : decode cX9_askedBy 97 = .ok (.ifCond .eq 19, 3) := by decide +kernel
theorem dX9_askedBy_100 : decode cX9_askedBy 100 = .ok (.iload_n 3, 1) := by decide +kernel
theorem dX9_askedBy_101 : decode cX9_askedBy 101 = .ok (.iconst 0, 1) := by decide +kernel
theorem dX9_askedBy_102 : decode cX9_askedBy 102 = .ok (.iload 4, 2) := by decide +kernel
theorem dX9_askedBy_104 : decode cX9_askedBy 104 = .ok (.iconst 1, 1) := by decide +kernel
theorem dX9_askedBy_105 : decode cX9_askedBy 105 = .ok (.isub, 1) := by decide +kernel
theorem dX9_askedBy_106 : decode cX9_askedBy 106 = .ok (.invokestatic 57, 3) := by decide +kernel
theorem dX9_askedBy_109 : decode cX9_askedBy 109 = .ok (.ifCond .eq 7, 3) := by decide +kernel
theorem dX9_askedBy_112 : decode cX9_askedBy 112 = .ok (.iconst 0, 1) := by decide +kernel
theorem dX9_askedBy_113 : decode cX9_askedBy 113 = .ok (.goto 5, 3) := by decide +kernel
theorem dX9_askedBy_116 : decode cX9_askedBy 116 = .ok (.ldc 93, 2) := by decide +kernel
theorem dX9_askedBy_118 : decode cX9_askedBy 118 = .ok (.ireturn, 1) := by decide +kernel
theorem dX9_askedBy_119 : decode cX9_askedBy 119 = .ok (.iconst 0, 1) := by decide +kernel
theorem dX9_askedBy_120 : decode cX9_askedBy 120 = .ok (.ireturn, 1) := by decide +kernel
theorem dX9_askedBy_121 : decode cX9_askedBy 121 = .ok (.iload_n 2, 1) := by decide +kernel
theorem dX9_askedBy_122 : decode cX9_askedBy 122 = .ok (.iconst 0, 1) := by decide +kernel
theorem dX9_askedBy_123 : decode cX9_askedBy 123 = .ok (.iload 4, 2) := by decide +kernel
theorem dX9_askedBy_125 : decode cX9_askedBy 125 = .ok (.iconst 1, 1) := by decide +kernel
theorem dX9_askedBy_126 : decode cX9_askedBy 126 = .ok (.isub, 1) := by decide +kernel
theorem dX9_askedBy_127 : decode cX9_askedBy 127 = .ok (.invokestatic 57, 3) := by decide +kernel
theorem dX9_askedBy_130 : decode cX9_askedBy 130 = .ok (.ifCond .ne 8, 3) := by decide +kernel
theorem dX9_askedBy_133 : decode cX9_askedBy 133 = .ok (.ldc 93, 2) := by decide +kernel
theorem dX9_askedBy_135 : decode cX9_askedBy 135 = .ok (.goto 19, 3) := by decide +kernel
theorem dX9_askedBy_138 : decode cX9_askedBy 138 = .ok (.iload_n 3, 1) := by decide +kernel
theorem dX9_askedBy_139 : decode cX9_askedBy 139 = .ok (.iconst 0, 1) := by decide +kernel
theorem dX9_askedBy_140 : decode cX9_askedBy 140 = .ok (.bipush 12, 2) := by decide +kernel
theorem dX9_askedBy_142 : decode cX9_askedBy 142 = .ok (.invokestatic 57, 3) := by decide +kernel
theorem dX9_askedBy_145 : decode cX9_askedBy 145 = .ok (.ifCond .eq 7, 3) := by decide +kernel
theorem dX9_askedBy_148 : decode cX9_askedBy 148 = .ok (.iconst 0, 1) := by decide +kernel
theorem dX9_askedBy_149 : decode cX9_askedBy 149 = .ok (.goto 5, 3) := by decide +kernel
theorem dX9_askedBy_152 : decode cX9_askedBy 152 = .ok (.ldc 94, 2) := by decide +kernel
theorem dX9_askedBy_154 : decode cX9_askedBy 154 = .ok (.ireturn, 1) := by decide +kernel
theorem dX9_askedBy_155 : decode cX9_askedBy 155 = .ok (.ldc 94, 2) := by decide +kernel
theorem dX9_askedBy_157 : decode cX9_askedBy 157 = .ok (.ireturn, 1) := by decide +kernel
set_option maxRecDepth 20000 in
theorem ggX9_setOf_X9_columnSet : GoodIn wsX9_setOf wsX9_columnSet := goodIn_r _ [6, 1, 7, 8, 5, 9, 25, 26, 27, 28, 29, 30, 31, 32, 33, 34, 35, 36, 37, 38, 39, 40, 41] (by decide +kernel) (by decide +kernel)
set_option maxRecDepth 20000 in
theorem gX9_setOf_X9_columnSet : GoodIn wsX9_setOf (wsV RX9 95 RX9 yX9_columnSet wsX9_columnSet) := goodIn_app (goodIn_of _ (by decide +kernel)) ggX9_setOf_X9_columnSet
set_option maxRecDepth 20000 in
theorem ggX9_setOf_X9_leadsTo : GoodIn wsX9_setOf wsX9_leadsTo := goodIn_r _ [13, 1, 25, 26, 27, 28, 29, 30, 31, 32, 33, 34, 35, 36, 37, 38, 39, 40, 41] (by decide +kernel) (by decide +kernel)
set_option maxRecDepth 20000 in
theorem gX9_setOf_X9_leadsTo : GoodIn wsX9_setOf (wsV RX9 98 RX9 yX9_leadsTo wsX9_leadsTo) := goodIn_app (goodIn_of _ (by decide +kernel)) ggX9_setOf_X9_leadsTo
set_option maxRecDepth 20000 in
theorem ggX9_setOf_X9_atLeast : GoodIn wsX9_setOf wsX9_atLeast := goodIn_r _ [17, 1, 18, 19, 20, 5, 21, 22, 23, 24, 25, 26, 27, 28, 29, 30, 31, 32, 33, 34, 35, 36, 37, 38, 39, 40, 41] (by decide +kernel) (by decide +kernel)
set_option maxRecDepth 20000 in
theorem gX9_setOf_X9_atLeast : GoodIn wsX9_setOf (wsV RX9 102 RX9 yX9_atLeast wsX9_atLeast) := goodIn_app (goodIn_of _ (by decide +kernel)) ggX9_setOf_X9_atLeast
theorem dX9_setOf_0 : decode cX9_setOf 0 = .ok (.iload_n 1, 1) := by decide +kernel
theorem dX9_setOf_1 : decode cX9_setOf 1 = .ok (.tableswitch 79 0 4 #[35, 45, 59, 65, 72], 35) := by decide +kernel
