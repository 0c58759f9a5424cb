theorem dX9_setOf_36 : decode cX9_setOf 36 = .ok (.aload_n 0, 1) := by decide +kernel
theorem dX9_setOf_37 : decode cX9_setOf 37 = .ok (.getfield 7, 3) := by decide +kernel
theorem dX9_setOf_40 : decode cX9_setOf 40 = .ok (.bipush 16, 2) := by decide +kernel
theorem dX9_setOf_42 : decode cX9_setOf 42 = .ok (.iload_n 2, 1) := by decide +kernel
theorem dX9_setOf_43 : decode cX9_setOf 43 = .ok (.iadd, 1) := by decide +kernel
theorem dX9_setOf_44 : decode cX9_setOf 44 = .ok (.iaload, 1) := by decide +kernel
theorem dX9_setOf_45 : decode cX9_setOf 45 = .ok (.ireturn, 1) := by decide +kernel
theorem dX9_setOf_46 : decode cX9_setOf 46 = .ok (.aload_n 0, 1) := by decide +kernel
theorem dX9_setOf_47 : decode cX9_setOf 47 = .ok (.getfield 7, 3) := by decide +kernel
theorem dX9_setOf_50 : decode cX9_setOf 50 = .ok (.bipush 16, 2) := by decide +kernel
theorem dX9_setOf_52 : decode cX9_setOf 52 = .ok (.iload_n 2, 1) := by decide +kernel
theorem dX9_setOf_53 : decode cX9_setOf 53 = .ok (.iadd, 1) := by decide +kernel
theorem dX9_setOf_54 : decode cX9_setOf 54 = .ok (.iaload, 1) := by decide +kernel
theorem dX9_setOf_55 : decode cX9_setOf 55 = .ok (.iconst 1, 1) := by decide +kernel
theorem dX9_setOf_56 : decode cX9_setOf 56 = .ok (.iload_n 2, 1) := by decide +kernel
theorem dX9_setOf_57 : decode cX9_setOf 57 = .ok (.ishl, 1) := by decide +kernel
theorem dX9_setOf_58 : decode cX9_setOf 58 = .ok (.ior, 1) := by decide +kernel
theorem dX9_setOf_59 : decode cX9_setOf 59 = .ok (.ireturn, 1) := by decide +kernel
theorem dX9_setOf_60 : decode cX9_setOf 60 = .ok (.aload_n 0, 1) := by decide +kernel
theorem dX9_setOf_61 : decode cX9_setOf 61 = .ok (.iload_n 2, 1) := by decide +kernel
theorem dX9_setOf_62 : decode cX9_setOf 62 = .ok (.invokevirtual 95, 3) := by decide +kernel
theorem dX9_setOf_65 : decode cX9_setOf 65 = .ok (.ireturn, 1) := by decide +kernel
theorem dX9_setOf_66 : decode cX9_setOf 66 = .ok (.aload_n 0, 1) := by decide +kernel
theorem dX9_setOf_67 : decode cX9_setOf 67 = .ok (.iload_n 2, 1) := by decide +kernel
theorem dX9_setOf_68 : decode cX9_setOf 68 = .ok (.iload_n 3, 1) := by decide +kernel
theorem dX9_setOf_69 : decode cX9_setOf 69 = .ok (.invokevirtual 98, 3) := by decide +kernel
theorem dX9_setOf_72 : decode cX9_setOf 72 = .ok (.ireturn, 1) := by decide +kernel
theorem dX9_setOf_73 : decode cX9_setOf 73 = .ok (.aload_n 0, 1) := by decide +kernel
theorem dX9_setOf_74 : decode cX9_setOf 74 = .ok (.getfield 7, 3) := by decide +kernel
theorem dX9_setOf_77 : decode cX9_setOf 77 = .ok (.iconst 2, 1) := by decide +kernel
theorem dX9_setOf_78 : decode cX9_setOf 78 = .ok (.iaload, 1) := by decide +kernel
theorem dX9_setOf_79 : decode cX9_setOf 79 = .ok (.ireturn, 1) := by decide +kernel
theorem dX9_setOf_80 : decode cX9_setOf 80 = .ok (.aload_n 0, 1) := by decide +kernel
theorem dX9_setOf_81 : decode cX9_setOf 81 = .ok (.iload_n 2, 1) := by decide +kernel
theorem dX9_setOf_82 : decode cX9_setOf 82 = .ok (.iload_n 3, 1) := by decide +kernel
theorem dX9_setOf_83 : decode cX9_setOf 83 = .ok (.invokevirtual 102, 3) := by decide +kernel
theorem dX9_setOf_86 : decode cX9_setOf 86 = .ok (.ireturn, 1) := by decide +kernel
set_option maxRecDepth 20000 in
theorem ggX9_setBy_X9_askedBy : GoodIn wsX9_setBy wsX9_askedBy := goodIn_r _ [5, 6, 7, 8, 9, 10, 11, 4, 12, 13, 14, 15, 16, 17, 18, 19, 46, 47, 48, 49, 50, 51, 52, 53, 54, 55, 56, 57, 58, 59, 60, 61, 62] (by decide +kernel) (by decide +kernel)
set_option maxRecDepth 20000 in
theorem gX9_setBy_X9_askedBy : GoodIn wsX9_setBy (wsV RX9 105 RX9 yX9_askedBy wsX9_askedBy) := goodIn_app (goodIn_of _ (by decide +kernel)) ggX9_setBy_X9_askedBy
set_option maxRecDepth 20000 in
theorem ggX9_setBy_X9_setOf : GoodIn wsX9_setBy wsX9_setOf := goodIn_r _ [23, 6, 24, 25, 26, 4, 27, 28, 29, 30, 31, 32, 33, 34, 35, 36, 37, 38, 39, 40, 41, 42, 43, 44, 45, 46, 47, 48, 49, 50, 51, 52, 53, 54, 55, 56, 57, 58, 59, 60, 61, 62] (by decide +kernel) (by decide +kernel)
set_option maxRecDepth 20000 in
theorem gX9_setBy_X9_setOf : GoodIn wsX9_setBy (wsV RX9 109 RX9 yX9_setOf wsX9_setOf) := goodIn_app (goodIn_of _ (by decide +kernel)) ggX9_setBy_X9_setOf
theorem dX9_setBy_0 : decode cX9_setBy 0 = .ok (.aload_n 0, 1) := by decide +kernel
theorem dX9_setBy_1 : decode cX9_setBy 1 = .ok (.iload_n 1, 1) := by decide +kernel
theorem dX9_setBy_2 : decode cX9_setBy 2 = .ok (.iload_n 2, 1) := by decide +kernel
theorem dX9_setBy_3 : decode cX9_setBy 3 = .ok (.iload_n 3, 1) := by decide +kernel
theorem dX9_setBy_4 : decode cX9_setBy 4 = .ok (.invokevirtual 105, 3) := by decide +kernel
theorem dX9_setBy_7 : decode cX9_setBy 7 = .ok (.istore 4, 2) := by decide +kernel
theorem dX9_setBy_9 : decode cX9_setBy 9 = .ok (.iload 4, 2) := by decide +kernel
theorem dX9_setBy_11 : decode cX9_setBy 11 = .ok (.ifCond .eq 8, 3) := by decide +kernel
theorem dX9_setBy_14 : decode cX9_setBy 14 = .ok (.iload 4, 2) := by decide +kernel
theorem dX9_setBy_16 : decode cX9_setBy 16 = .ok (.goto 10, 3) := by decide +kernel
theorem dX9_setBy_19 : decode cX9_setBy 19 = .ok (.aload_n 0, 1) := by decide +kernel
theorem dX9_setBy_20 : decode cX9_setBy 20 = .ok (.iload_n 1, 1) := by decide +kernel
theorem dX9_setBy_21 : decode cX9_setBy 21 = .ok (.iload_n 2, 1) := by decide +kernel
theorem dX9_setBy_22 : decode cX9_setBy 22 = .ok (.iload_n 3, 1) := by decide +kernel
theorem dX9_setBy_23 : decode cX9_setBy 23 = .ok (.invokevirtual 109, 3) := by decide +kernel
theorem dX9_setBy_26 : decode cX9_setBy 26 = .ok (.ireturn, 1) := by decide +kernel
set_option maxRecDepth 20000 in
theorem ggX9_isOneMore_X9_sizeOf : GoodIn wsX9_isOneMore wsX9_sizeOf := goodIn_r _ [6] (by decide +kernel) (by decide +kernel)
set_option maxRecDepth 20000 in
theorem gX9_isOneMore_X9_sizeOf : GoodIn wsX9_isOneMore (va_wsS RX9 85 yX9_sizeOf wsX9_sizeOf) := goodIn_app (goodIn_of _ (by decide +kernel)) ggX9_isOneMore_X9_sizeOf
theorem dX9_isOneMore_0 : decode cX9_isOneMore 0 = .ok (.iconst 0, 1) := by decide +kernel
theorem dX9_isOneMore_1 : decode cX9_isOneMore 1 = .ok (.istore 6, 2) := by decide +kernel
theorem dX9_isOneMore_3 : decode cX9_isOneMore 3 = .ok (.iload_n 3, 1) := by decide +kernel
theorem dX9_isOneMore_4 : decode cX9_isOneMore 4 = .ok (.iconst 3, 1) := by decide +kernel
theorem dX9_isOneMore_5 : decode cX9_isOneMore 5 = .ok (.if_icmp .ne 80, 3) := by decide +kernel
theorem dX9_isOneMore_8 : decode cX9_isOneMore 8 = .ok (.iconst 0, 1) := by decide +kernel
theorem dX9_isOneMore_9 : decode cX9_isOneMore 9 = .ok (.istore 7, 2) := by decide +kernel
theorem dX9_isOneMore_11 : decode cX9_isOneMore 11 = .ok (.iload 7, 2) := by decide +kernel
theorem dX9_isOneMore_13 : decode cX9_isOneMore 13 = .ok (.aload_n 0, 1) := by decide +kernel
theorem dX9_isOneMore_14 : decode cX9_isOneMore 14 = .ok (.getfield 7, 3) := by decide +kernel
theorem dX9_isOneMore_17 : decode cX9_isOneMore 17 = .ok (.iconst 1, 1) := by decide +kernel
theorem dX9_isOneMore_18 : decode cX9_isOneMore 18 = .ok (.iaload, 1) := by decide +kernel
theorem dX9_isOneMore_19 : decode cX9_isOneMore 19 = .ok (.if_icmp .ge 63, 3) := by decide +kernel
theorem dX9_isOneMore_22 : decode cX9_isOneMore 22 = .ok (.iload 6, 2) := by decide +kernel
theorem dX9_isOneMore_24 : decode cX9_isOneMore 24 = .ok (.ifCond .ne 45, 3) := by decide +kernel
theorem dX9_isOneMore_27 : decode cX9_isOneMore 27 = .ok (.aload_n 0, 1) := by decide +kernel
theorem dX9_isOneMore_28 : decode cX9_isOneMore 28 = .ok (.getfield 32, 3) := by decide +kernel
theorem dX9_isOneMore_31 : decode cX9_isOneMore 31 = .ok (.bipush 12, 2) := by decide +kernel
theorem dX9_isOneMore_33 : decode cX9_isOneMore 33 = .ok (.aload_n 0, 1) := by decide +kernel
theorem dX9_isOneMore_34 : decode cX9_isOneMore 34 = .ok (.getfield 7, 3) := by decide +kernel
theorem dX9_isOneMore_37 : decode cX9_isOneMore 37 = .ok (.bipush 28, 2) := by decide +kernel
theorem dX9_isOneMore_39 : decode cX9_isOneMore 39 = .ok (.iconst 3, 1) := by decide +kernel
theorem dX9_isOneMore_40 : decode cX9_isOneMore 40 = .ok (.iload 4, 2) := by decide +kernel
theorem dX9_isOneMore_42 : decode cX9_isOneMore 42 = .ok (.imul, 1) := by decide +kernel
theorem dX9_isOneMore_43 : decode cX9_isOneMore 43 = .ok (.iadd, 1) := by decide +kernel
theorem dX9_isOneMore_44 : decode cX9_isOneMore 44 = .ok (.iload 7, 2) := by decide +kernel
theorem dX9_isOneMore_46 : decode cX9_isOneMore 46 = .ok (.iadd, 1) := by decide +kernel
theorem dX9_isOneMore_47 : decode cX9_isOneMore 47 = .ok (.iaload, 1) := by decide +kernel
theorem dX9_isOneMore_48 : decode cX9_isOneMore 48 = .ok (.imul, 1) := by decide +kernel
theorem dX9_isOneMore_49 : decode cX9_isOneMore 49 = .ok (.aload_n 0, 1) := by decide +kernel
theorem dX9_isOneMore_50 : decode cX9_isOneMore 50 = .ok (.getfield 7, 3) := by decide +kernel
theorem dX9_isOneMore_53 : decode cX9_isOneMore 53 = .ok (.bipush 28, 2) := by decide +kernel
theorem dX9_isOneMore_55 : decode cX9_isOneMore 55 = .ok (.iconst 3, 1) := by decide +kernel
theorem dX9_isOneMore_56 : decode cX9_isOneMore 56 = .ok (.iload 5, 2) := by decide +kernel
theorem dX9_isOneMore_58 : decode cX9_isOneMore 58 = .ok (.imul, 1) := by decide +kernel
theorem dX9_isOneMore_59 : decode cX9_isOneMore 59 = .ok (.iadd, 1) := by decide +kernel
theorem dX9_isOneMore_60 : decode cX9_isOneMore 60 = .ok (.iload 7, 2) := by decide +kernel
theorem dX9_isOneMore_62 : decode cX9_isOneMore 62 = .ok (.iadd, 1) := by decide +kernel
theorem dX9_isOneMore_63 : decode cX9_isOneMore 63 = .ok (.iaload, 1) := by decide +kernel
theorem dX9_isOneMore_64 : decode cX9_isOneMore 64 = .ok (.iadd, 1) := by decide +kernel
theorem dX9_isOneMore_65 : decode cX9_isOneMore 65 = .ok (.baload, 1) := by decide +kernel
theorem dX9_isOneMore_66 : decode cX9_isOneMore 66 = .ok (.ifCond .eq 7, 3) := by decide +kernel
theorem dX9_isOneMore_69 : decode cX9_isOneMore 69 = .ok (.iconst 1, 1) := by decide +kernel
theorem dX9_isOneMore_70 : decode cX9_isOneMore 70 = .ok (.goto 4, 3) := by decide +kernel
theorem dX9_isOneMore_73 : decode cX9_isOneMore 73 = .ok (.iconst 0, 1) := by decide +kernel
theorem dX9_isOneMore_74 : decode cX9_isOneMore 74 = .ok (.istore 6, 2) := by decide +kernel
theorem dX9_isOneMore_76 : decode cX9_isOneMore 76 = .ok (.iinc 7 1, 3) := by decide +kernel
theorem dX9_isOneMore_79 : decode cX9_isOneMore 79 = .ok (.goto (-68), 3) := by decide +kernel
theorem dX9_isOneMore_82 : decode cX9_isOneMore 82 = .ok (.iload 6, 2) := by decide +kernel
theorem dX9_isOneMore_84 : decode cX9_isOneMore 84 = .ok (.ireturn, 1) := by decide +kernel
theorem dX9_isOneMore_85 : decode cX9_isOneMore 85 = .ok (.iconst 0, 1) := by decide +kernel
theorem dX9_isOneMore_86 : decode cX9_isOneMore 86 = .ok (.istore 7, 2) := by decide +kernel
theorem dX9_isOneMore_88 : decode cX9_isOneMore 88 = .ok (.iload 7, 2) := by decide +kernel
theorem dX9_isOneMore_90 : decode cX9_isOneMore 90 = .ok (.aload_n 0, 1) := by decide +kernel
theorem dX9_isOneMore_91 : decode cX9_isOneMore 91 = .ok (.getfield 7, 3) := by decide +kernel
theorem dX9_isOneMore_94 : decode cX9_isOneMore 94 = .ok (.iconst 0, 1) := by decide +kernel
theorem dX9_isOneMore_95 : decode cX9_isOneMore 95 = .ok (.iaload, 1) := by decide +kernel
theorem dX9_isOneMore_96 : decode cX9_isOneMore 96 = .ok (.if_icmp .ge 108, 3) := by decide +kernel
theorem dX9_isOneMore_99 : decode cX9_isOneMore 99 = .ok (.iconst 0, 1) := by decide +kernel
theorem dX9_isOneMore_100 : decode cX9_isOneMore 100 = .ok (.istore 8, 2) := by decide +kernel
theorem dX9_isOneMore_102 : decode cX9_isOneMore 102 = .ok (.iconst 0, 1) := by decide +kernel
theorem dX9_isOneMore_103 : decode cX9_isOneMore 103 = .ok (.istore 9, 2) := by decide +kernel
theorem dX9_isOneMore_105 : decode cX9_isOneMore 105 = .ok (.iload 9, 2) := by decide +kernel
theorem dX9_isOneMore_107 : decode cX9_isOneMore 107 = .ok (.aload_n 0, 1) := by decide +kernel
theorem dX9_isOneMore_108 : decode cX9_isOneMore 108 = .ok (.getfield 7, 3) := by decide +kernel
theorem dX9_isOneMore_111 : decode cX9_isOneMore 111 = .ok (.iconst 0, 1) := by decide +kernel
theorem dX9_isOneMore_112 : decode cX9_isOneMore 112 = .ok (.iaload, 1) := by decide +kernel
theorem dX9_isOneMore_113 : decode cX9_isOneMore 113 = .ok (.if_icmp .ge 38, 3) := by decide +kernel
theorem dX9_isOneMore_116 : decode cX9_isOneMore 116 = .ok (.iload 8, 2) := by decide +kernel
theorem dX9_isOneMore_118 : decode cX9_isOneMore 118 = .ok (.aload_n 0, 1) := by decide +kernel
theorem dX9_isOneMore_119 : decode cX9_isOneMore 119 = .ok (.getfield 32, 3) := by decide +kernel
theorem dX9_isOneMore_122 : decode cX9_isOneMore 122 = .ok (.bipush 12, 2) := by decide +kernel
theorem dX9_isOneMore_124 : decode cX9_isOneMore 124 = .ok (.iload 7, 2) := by decide +kernel
theorem dX9_isOneMore_126 : decode cX9_isOneMore 126 = .ok (.imul, 1) := by decide +kernel
theorem dX9_isOneMore_127 : decode cX9_isOneMore 127 = .ok (.iload 9, 2) := by decide +kernel
theorem dX9_isOneMore_129 : decode cX9_isOneMore 129 = .ok (.iadd, 1) := by decide +kernel
theorem dX9_isOneMore_130 : decode cX9_isOneMore 130 = .ok (.baload, 1) := by decide +kernel
theorem dX9_isOneMore_131 : decode cX9_isOneMore 131 = .ok (.ifCond .eq 7, 3) := by decide +kernel
theorem dX9_isOneMore_134 : decode cX9_isOneMore 134 = .ok (.iconst 0, 1) := by decide +kernel
theorem dX9_isOneMore_135 : decode cX9_isOneMore 135 = .ok (.goto 7, 3) := by decide +kernel
theorem dX9_isOneMore_138 : decode cX9_isOneMore 138 = .ok (.iconst 1, 1) := by decide +kernel
theorem dX9_isOneMore_139 : decode cX9_isOneMore 139 = .ok (.iload 9, 2) := by decide +kernel
theorem dX9_isOneMore_141 : decode cX9_isOneMore 141 = .ok (.ishl, 1) := by decide +kernel
theorem dX9_isOneMore_142 : decode cX9_isOneMore 142 = .ok (.ior, 1) := by decide +kernel
theorem dX9_isOneMore_143 : decode cX9_isOneMore 143 = .ok (.istore 8, 2) := by decide +kernel
theorem dX9_isOneMore_145 : decode cX9_isOneMore 145 = .ok (.iinc 9 1, 3) := by decide +kernel
theorem dX9_isOneMore_148 : decode cX9_isOneMore 148 = .ok (.goto (-43), 3) := by decide +kernel
theorem dX9_isOneMore_151 : decode cX9_isOneMore 151 = .ok (.iload 6, 2) := by decide +kernel
theorem dX9_isOneMore_153 : decode cX9_isOneMore 153 = .ok (.ifCond .ne 38, 3) := by decide +kernel
theorem dX9_isOneMore_156 : decode cX9_isOneMore 156 = .ok (.aload_n 0, 1) := by decide +kernel
theorem dX9_isOneMore_157 : decode cX9_isOneMore 157 = .ok (.getfield 7, 3) := by decide +kernel
theorem dX9_isOneMore_160 : decode cX9_isOneMore 160 = .ok (.bipush 16, 2) := by decide +kernel
theorem dX9_isOneMore_162 : decode cX9_isOneMore 162 = .ok (.iload 4, 2) := by decide +kernel
theorem dX9_isOneMore_164 : decode cX9_isOneMore 164 = .ok (.iadd, 1) := by decide +kernel
theorem dX9_isOneMore_165 : decode cX9_isOneMore 165 = .ok (.iaload, 1) := by decide +kernel
theorem dX9_isOneMore_166 : decode cX9_isOneMore 166 = .ok (.iload 8, 2) := by decide +kernel
theorem dX9_isOneMore_168 : decode cX9_isOneMore 168 = .ok (.iand, 1) := by decide +kernel
theorem dX9_isOneMore_169 : decode cX9_isOneMore 169 = .ok (.invokestatic 85, 3) := by decide +kernel
theorem dX9_isOneMore_172 : decode cX9_isOneMore 172 = .ok (.aload_n 0, 1) := by decide +kernel
theorem dX9_isOneMore_173 : decode cX9_isOneMore 173 = .ok (.getfield 7, 3) := by decide +kernel
theorem dX9_isOneMore_176 : decode cX9_isOneMore 176 = .ok (.bipush 16, 2) := by decide +kernel
theorem dX9_isOneMore_178 : decode cX9_isOneMore 178 = .ok (.iload 5, 2) := by decide +kernel
theorem dX9_isOneMore_180 : decode cX9_isOneMore 180 = .ok (.iadd, 1) := by decide +kernel
theorem dX9_isOneMore_181 : decode cX9_isOneMore 181 = .ok (.iaload, 1) := by decide +kernel
theorem dX9_isOneMore_182 : decode cX9_isOneMore 182 = .ok (.iload 8, 2) := by decide +kernel
theorem dX9_isOneMore_184 : decode cX9_isOneMore 184 = .ok (.iand, 1) := by decide +kernel
theorem dX9_isOneMore_185 : decode cX9_isOneMore 185 = .ok (.invokestatic 85, 3) := by decide +kernel
theorem dX9_isOneMore_188 : decode cX9_isOneMore 188 = .ok (.if_icmp .eq 7, 3) := by decide +kernel
theorem dX9_isOneMore_191 : decode cX9_isOneMore 191 = .ok (.iconst 1, 1) := by decide +kernel
theorem dX9_isOneMore_192 : decode cX9_isOneMore 192 = .ok (.goto 4, 3) := by decide +kernel
theorem dX9_isOneMore_195 : decode cX9_isOneMore 195 = .ok (.iconst 0, 1) := by decide +kernel
theorem dX9_isOneMore_196 : decode cX9_isOneMore 196 = .ok (.istore 6, 2) := by decide +kernel
theorem dX9_isOneMore_198 : decode cX9_isOneMore 198 = .ok (.iinc 7 1, 3) := by decide +kernel
theorem dX9_isOneMore_201 : decode cX9_isOneMore 201 = .ok (.goto (-113), 3) := by decide +kernel
theorem dX9_isOneMore_204 : decode cX9_isOneMore 204 = .ok (.iload 6, 2) := by decide +kernel
theorem dX9_isOneMore_206 : decode cX9_isOneMore 206 = .ok (.ireturn, 1) := by decide +kernel
set_option maxRecDepth 20000 in
theorem ggX9_tellsApart_X9_has : GoodIn wsX9_tellsApart wsX9_has := goodIn_r _ [8] (by decide +kernel) (by decide +kernel)
set_option maxRecDepth 20000 in
theorem gX9_tellsApart_X9_has : GoodIn wsX9_tellsApart (va_wsS RX9 69 yX9_has wsX9_has) := goodIn_app (goodIn_of _ (by decide +kernel)) ggX9_tellsApart_X9_has
set_option maxRecDepth 20000 in
theorem ggX9_tellsApart_X9_isOneMore : GoodIn wsX9_tellsApart wsX9_isOneMore := goodIn_r _ [12, 1, 2, 13, 14, 7, 15, 31, 32, 33, 34, 35, 36, 37, 38, 39, 40, 41, 42, 43, 44, 45, 46, 47] (by decide +kernel) (by decide +kernel)
set_option maxRecDepth 20000 in
theorem gX9_tellsApart_X9_isOneMore : GoodIn wsX9_tellsApart (wsV RX9 112 RX9 yX9_isOneMore wsX9_isOneMore) := goodIn_app (goodIn_of _ (by decide +kernel)) ggX9_tellsApart_X9_isOneMore
set_option maxRecDepth 20000 in
theorem ggX9_tellsApart_X9_bring : GoodIn wsX9_tellsApart wsX9_bring := goodIn_r _ [18] (by decide +kernel) (by decide +kernel)
set_option maxRecDepth 20000 in
theorem gX9_tellsApart_X9_bring : GoodIn wsX9_tellsApart (va_wsS RX9 65 yX9_bring wsX9_bring) := goodIn_app (goodIn_of _ (by decide +kernel)) ggX9_tellsApart_X9_bring
set_option maxRecDepth 20000 in
theorem ggX9_tellsApart_X9_arranges : GoodIn wsX9_tellsApart wsX9_arranges := goodIn_r _ [22, 4, 1, 16, 17, 7, 18, 23, 24, 25, 26, 27, 28, 29, 30, 5, 6, 8, 31, 32, 33, 34, 35, 36, 37, 38, 39, 40, 41, 42, 43, 44, 45, 46, 47] (by decide +kernel) (by decide +kernel)
set_option maxRecDepth 20000 in
theorem gX9_tellsApart_X9_arranges : GoodIn wsX9_tellsApart (wsV RX9 116 RX9 yX9_arranges wsX9_arranges) := goodIn_app (goodIn_of _ (by decide +kernel)) ggX9_tellsApart_X9_arranges
theorem dX9_tellsApart_0 : decode cX9_tellsApart 0 = .ok (.iconst 0, 1) := by decide +kernel
theorem dX9_tellsApart_1 : decode cX9_tellsApart 1 = .ok (.istore 4, 2) := by decide +kernel
theorem dX9_tellsApart_3 : decode cX9_tellsApart 3 = .ok (.iload 4, 2) := by decide +kernel
theorem dX9_tellsApart_5 : decode cX9_tellsApart 5 = .ok (.aload_n 0, 1) := by decide +kernel
theorem dX9_tellsApart_6 : decode cX9_tellsApart 6 = .ok (.getfield 7, 3) := by decide +kernel
theorem dX9_tellsApart_9 : decode cX9_tellsApart 9 = .ok (.iconst 0, 1) := by decide +kernel
theorem dX9_tellsApart_10 : decode cX9_tellsApart 10 = .ok (.iaload, 1) := by decide +kernel
theorem dX9_tellsApart_11 : decode cX9_tellsApart 11 = .ok (.if_icmp .ge 104, 3) := by decide +kernel
theorem dX9_tellsApart_14 : decode cX9_tellsApart 14 = .ok (.iconst 0, 1) := by decide +kernel
theorem dX9_tellsApart_15 : decode cX9_tellsApart 15 = .ok (.istore 5, 2) := by decide +kernel
theorem dX9_tellsApart_17 : decode cX9_tellsApart 17 = .ok (.iload 5, 2) := by decide +kernel
theorem dX9_tellsApart_19 : decode cX9_tellsApart 19 = .ok (.aload_n 0, 1) := by decide +kernel
theorem dX9_tellsApart_20 : decode cX9_tellsApart 20 = .ok (.getfield 7, 3) := by decide +kernel
theorem dX9_tellsApart_23 : decode cX9_tellsApart 23 = .ok (.iconst 0, 1) := by decide +kernel
theorem dX9_tellsApart_24 : decode cX9_tellsApart 24 = .ok (.iaload, 1) := by decide +kernel
theorem dX9_tellsApart_25 : decode cX9_tellsApart 25 = .ok (.if_icmp .ge 84, 3) := by decide +kernel
theorem dX9_tellsApart_28 : decode cX9_tellsApart 28 = .ok (.iload_n 3, 1) := by decide +kernel
theorem dX9_tellsApart_29 : decode cX9_tellsApart 29 = .ok (.iconst 3, 1) := by decide +kernel
theorem dX9_tellsApart_30 : decode cX9_tellsApart 30 = .ok (.if_icmp .ne 32, 3) := by decide +kernel
theorem dX9_tellsApart_33 : decode cX9_tellsApart 33 = .ok (.aload_n 0, 1) := by decide +kernel
theorem dX9_tellsApart_34 : decode cX9_tellsApart 34 = .ok (.getfield 7, 3) := by decide +kernel
theorem dX9_tellsApart_37 : decode cX9_tellsApart 37 = .ok (.iconst 2, 1) := by decide +kernel
theorem dX9_tellsApart_38 : decode cX9_tellsApart 38 = .ok (.iaload, 1) := by decide +kernel
theorem dX9_tellsApart_39 : decode cX9_tellsApart 39 = .ok (.iload 4, 2) := by decide +kernel
theorem dX9_tellsApart_41 : decode cX9_tellsApart 41 = .ok (.invokestatic 69, 3) := by decide +kernel
theorem dX9_tellsApart_44 : decode cX9_tellsApart 44 = .ok (.aload_n 0, 1) := by decide +kernel
theorem dX9_tellsApart_45 : decode cX9_tellsApart 45 = .ok (.getfield 7, 3) := by decide +kernel
theorem dX9_tellsApart_48 : decode cX9_tellsApart 48 = .ok (.iconst 2, 1) := by decide +kernel
theorem dX9_tellsApart_49 : decode cX9_tellsApart 49 = .ok (.iaload, 1) := by decide +kernel
theorem dX9_tellsApart_50 : decode cX9_tellsApart 50 = .ok (.iload 5, 2) := by decide +kernel
theorem dX9_tellsApart_52 : decode cX9_tellsApart 52 = .ok (.invokestatic 69, 3) := by decide +kernel
theorem dX9_tellsApart_55 : decode cX9_tellsApart 55 = .ok (.if_icmp .eq 7, 3) := by decide +kernel
theorem dX9_tellsApart_58 : decode cX9_tellsApart 58 = .ok (.iconst 1, 1) := by decide +kernel
theorem dX9_tellsApart_59 : decode cX9_tellsApart 59 = .ok (.goto 4, 3) := by decide +kernel
theorem dX9_tellsApart_62 : decode cX9_tellsApart 62 = .ok (.iconst 0, 1) := by decide +kernel
theorem dX9_tellsApart_63 : decode cX9_tellsApart 63 = .ok (.istore 6, 2) := by decide +kernel
theorem dX9_tellsApart_65 : decode cX9_tellsApart 65 = .ok (.aload_n 0, 1) := by decide +kernel
theorem dX9_tellsApart_66 : decode cX9_tellsApart 66 = .ok (.getfield 32, 3) := by decide +kernel
theorem dX9_tellsApart_69 : decode cX9_tellsApart 69 = .ok (.bipush 12, 2) := by decide +kernel
theorem dX9_tellsApart_71 : decode cX9_tellsApart 71 = .ok (.iload 4, 2) := by decide +kernel
theorem dX9_tellsApart_73 : decode cX9_tellsApart 73 = .ok (.imul, 1) := by decide +kernel
theorem dX9_tellsApart_74 : decode cX9_tellsApart 74 = .ok (.iload 5, 2) := by decide +kernel
theorem dX9_tellsApart_76 : decode cX9_tellsApart 76 = .ok (.iadd, 1) := by decide +kernel
theorem dX9_tellsApart_77 : decode cX9_tellsApart 77 = .ok (.aload_n 1, 1) := by decide +kernel
theorem dX9_tellsApart_78 : decode cX9_tellsApart 78 = .ok (.iload_n 2, 1) := by decide +kernel
theorem dX9_tellsApart_79 : decode cX9_tellsApart 79 = .ok (.iload 4, 2) := by decide +kernel
theorem dX9_tellsApart_81 : decode cX9_tellsApart 81 = .ok (.iadd, 1) := by decide +kernel
theorem dX9_tellsApart_82 : decode cX9_tellsApart 82 = .ok (.iaload, 1) := by decide +kernel
theorem dX9_tellsApart_83 : decode cX9_tellsApart 83 = .ok (.aload_n 1, 1) := by decide +kernel
theorem dX9_tellsApart_84 : decode cX9_tellsApart 84 = .ok (.iload_n 2, 1) := by decide +kernel
theorem dX9_tellsApart_85 : decode cX9_tellsApart 85 = .ok (.iload 5, 2) := by decide +kernel
theorem dX9_tellsApart_87 : decode cX9_tellsApart 87 = .ok (.iadd, 1) := by decide +kernel
theorem dX9_tellsApart_88 : decode cX9_tellsApart 88 = .ok (.iaload, 1) := by decide +kernel
theorem dX9_tellsApart_89 : decode cX9_tellsApart 89 = .ok (.if_icmp .ne 8, 3) := by decide +kernel
theorem dX9_tellsApart_92 : decode cX9_tellsApart 92 = .ok (.iload 6, 2) := by decide +kernel
theorem dX9_tellsApart_94 : decode cX9_tellsApart 94 = .ok (.ifCond .eq 7, 3) := by decide +kernel
theorem dX9_tellsApart_97 : decode cX9_tellsApart 97 = .ok (.iconst 1, 1) := by decide +kernel
theorem dX9_tellsApart_98 : decode cX9_tellsApart 98 = .ok (.goto 4, 3) := by decide +kernel
theorem dX9_tellsApart_101 : decode cX9_tellsApart 101 = .ok (.iconst 0, 1) := by decide +kernel
theorem dX9_tellsApart_102 : decode cX9_tellsApart 102 = .ok (.bastore, 1) := by decide +kernel
theorem dX9_tellsApart_103 : decode cX9_tellsApart 103 = .ok (.iinc 5 1, 3) := by decide +kernel
theorem dX9_tellsApart_106 : decode cX9_tellsApart 106 = .ok (.goto (-89), 3) := by decide +kernel
theorem dX9_tellsApart_109 : decode cX9_tellsApart 109 = .ok (.iinc 4 1, 3) := by decide +kernel
theorem dX9_tellsApart_112 : decode cX9_tellsApart 112 = .ok (.goto (-109), 3) := by decide +kernel
theorem dX9_tellsApart_115 : decode cX9_tellsApart 115 = .ok (.iconst 1, 1) := by decide +kernel
theorem dX9_tellsApart_116 : decode cX9_tellsApart 116 = .ok (.istore 4, 2) := by decide +kernel
theorem dX9_tellsApart_118 : decode cX9_tellsApart 118 = .ok (.iload 4, 2) := by decide +kernel
theorem dX9_tellsApart_120 : decode cX9_tellsApart 120 = .ok (.ifCond .eq 169, 3) := by decide +kernel
theorem dX9_tellsApart_123 : decode cX9_tellsApart 123 = .ok (.iconst 0, 1) := by decide +kernel
theorem dX9_tellsApart_124 : decode cX9_tellsApart 124 = .ok (.istore 4, 2) := by decide +kernel
theorem dX9_tellsApart_126 : decode cX9_tellsApart 126 = .ok (.iconst 0, 1) := by decide +kernel
theorem dX9_tellsApart_127 : decode cX9_tellsApart 127 = .ok (.istore 5, 2) := by decide +kernel
theorem dX9_tellsApart_129 : decode cX9_tellsApart 129 = .ok (.iload 5, 2) := by decide +kernel
theorem dX9_tellsApart_131 : decode cX9_tellsApart 131 = .ok (.aload_n 0, 1) := by decide +kernel
theorem dX9_tellsApart_132 : decode cX9_tellsApart 132 = .ok (.getfield 7, 3) := by decide +kernel
theorem dX9_tellsApart_135 : decode cX9_tellsApart 135 = .ok (.iconst 0, 1) := by decide +kernel
theorem dX9_tellsApart_136 : decode cX9_tellsApart 136 = .ok (.iaload, 1) := by decide +kernel
theorem dX9_tellsApart_137 : decode cX9_tellsApart 137 = .ok (.if_icmp .ge 118, 3) := by decide +kernel
theorem dX9_tellsApart_140 : decode cX9_tellsApart 140 = .ok (.iconst 0, 1) := by decide +kernel
theorem dX9_tellsApart_141 : decode cX9_tellsApart 141 = .ok (.istore 6, 2) := by decide +kernel
theorem dX9_tellsApart_143 : decode cX9_tellsApart 143 = .ok (.iload 6, 2) := by decide +kernel
theorem dX9_tellsApart_145 : decode cX9_tellsApart 145 = .ok (.aload_n 0, 1) := by decide +kernel
theorem dX9_tellsApart_146 : decode cX9_tellsApart 146 = .ok (.getfield 7, 3) := by decide +kernel
theorem dX9_tellsApart_149 : decode cX9_tellsApart 149 = .ok (.iconst 0, 1) := by decide +kernel
theorem dX9_tellsApart_150 : decode cX9_tellsApart 150 = .ok (.iaload, 1) := by decide +kernel
theorem dX9_tellsApart_151 : decode cX9_tellsApart 151 = .ok (.if_icmp .ge 98, 3) := by decide +kernel
theorem dX9_tellsApart_154 : decode cX9_tellsApart 154 = .ok (.aload_n 0, 1) := by decide +kernel
theorem dX9_tellsApart_155 : decode cX9_tellsApart 155 = .ok (.getfield 35, 3) := by decide +kernel
theorem dX9_tellsApart_158 : decode cX9_tellsApart 158 = .ok (.bipush 12, 2) := by decide +kernel
theorem dX9_tellsApart_160 : decode cX9_tellsApart 160 = .ok (.iload 5, 2) := by decide +kernel
theorem dX9_tellsApart_162 : decode cX9_tellsApart 162 = .ok (.imul, 1) := by decide +kernel
theorem dX9_tellsApart_163 : decode cX9_tellsApart 163 = .ok (.iload 6, 2) := by decide +kernel
theorem dX9_tellsApart_165 : decode cX9_tellsApart 165 = .ok (.iadd, 1) := by decide +kernel
theorem dX9_tellsApart_166 : decode cX9_tellsApart 166 = .ok (.aload_n 0, 1) := by decide +kernel
theorem dX9_tellsApart_167 : decode cX9_tellsApart 167 = .ok (.getfield 32, 3) := by decide +kernel
theorem dX9_tellsApart_170 : decode cX9_tellsApart 170 = .ok (.bipush 12, 2) := by decide +kernel
theorem dX9_tellsApart_172 : decode cX9_tellsApart 172 = .ok (.iload 5, 2) := by decide +kernel
theorem dX9_tellsApart_174 : decode cX9_tellsApart 174 = .ok (.imul, 1) := by decide +kernel
theorem dX9_tellsApart_175 : decode cX9_tellsApart 175 = .ok (.iload 6, 2) := by decide +kernel
theorem dX9_tellsApart_177 : decode cX9_tellsApart 177 = .ok (.iadd, 1) := by decide +kernel
theorem dX9_tellsApart_178 : decode cX9_tellsApart 178 = .ok (.baload, 1) := by decide +kernel
theorem dX9_tellsApart_179 : decode cX9_tellsApart 179 = .ok (.ifCond .ne 17, 3) := by decide +kernel
theorem dX9_tellsApart_182 : decode cX9_tellsApart 182 = .ok (.aload_n 0, 1) := by decide +kernel
theorem dX9_tellsApart_183 : decode cX9_tellsApart 183 = .ok (.aload_n 1, 1) := by decide +kernel
theorem dX9_tellsApart_184 : decode cX9_tellsApart 184 = .ok (.iload_n 2, 1) := by decide +kernel
theorem dX9_tellsApart_185 : decode cX9_tellsApart 185 = .ok (.iload_n 3, 1) := by decide +kernel
theorem dX9_tellsApart_186 : decode cX9_tellsApart 186 = .ok (.iload 5, 2) := by decide +kernel
theorem dX9_tellsApart_188 : decode cX9_tellsApart 188 = .ok (.iload 6, 2) := by decide +kernel
theorem dX9_tellsApart_190 : decode cX9_tellsApart 190 = .ok (.invokevirtual 112, 3) := by decide +kernel
theorem dX9_tellsApart_193 : decode cX9_tellsApart 193 = .ok (.ifCond .eq 7, 3) := by decide +kernel
theorem dX9_tellsApart_196 : decode cX9_tellsApart 196 = .ok (.iconst 1, 1) := by decide +kernel
theorem dX9_tellsApart_197 : decode cX9_tellsApart 197 = .ok (.goto 4, 3) := by decide +kernel
theorem dX9_tellsApart_200 : decode cX9_tellsApart 200 = .ok (.iconst 0, 1) := by decide +kernel
theorem dX9_tellsApart_201 : decode cX9_tellsApart 201 = .ok (.bastore, 1) := by decide +kernel
theorem dX9_tellsApart_202 : decode cX9_tellsApart 202 = .ok (.iload 4, 2) := by decide +kernel
theorem dX9_tellsApart_204 : decode cX9_tellsApart 204 = .ok (.ifCond .ne 32, 3) := by decide +kernel
theorem dX9_tellsApart_207 : decode cX9_tellsApart 207 = .ok (.aload_n 0, 1) := by decide +kernel
theorem dX9_tellsApart_208 : decode cX9_tellsApart 208 = .ok (.getfield 35, 3) := by decide +kernel
theorem dX9_tellsApart_211 : decode cX9_tellsApart 211 = .ok (.bipush 12, 2) := by decide +kernel
theorem dX9_tellsApart_213 : decode cX9_tellsApart 213 = .ok (.iload 5, 2) := by decide +kernel
theorem dX9_tellsApart_215 : decode cX9_tellsApart 215 = .ok (.imul, 1) := by decide +kernel
theorem dX9_tellsApart_216 : decode cX9_tellsApart 216 = .ok (.iload 6, 2) := by decide +kernel
theorem dX9_tellsApart_218 : decode cX9_tellsApart 218 = .ok (.iadd, 1) := by decide +kernel
theorem dX9_tellsApart_219 : decode cX9_tellsApart 219 = .ok (.baload, 1) := by decide +kernel
theorem dX9_tellsApart_220 : decode cX9_tellsApart 220 = .ok (.aload_n 0, 1) := by decide +kernel
theorem dX9_tellsApart_221 : decode cX9_tellsApart 221 = .ok (.getfield 32, 3) := by decide +kernel
theorem dX9_tellsApart_224 : decode cX9_tellsApart 224 = .ok (.bipush 12, 2) := by decide +kernel
theorem dX9_tellsApart_226 : decode cX9_tellsApart 226 = .ok (.iload 5, 2) := by decide +kernel
theorem dX9_tellsApart_228 : decode cX9_tellsApart 228 = .ok (.imul, 1) := by decide +kernel
theorem dX9_tellsApart_229 : decode cX9_tellsApart 229 = .ok (.iload 6, 2) := by decide +kernel
theorem dX9_tellsApart_231 : decode cX9_tellsApart 231 = .ok (.iadd, 1) := by decide +kernel
theorem dX9_tellsApart_232 : decode cX9_tellsApart 232 = .ok (.baload, 1) := by decide +kernel
theorem dX9_tellsApart_233 : decode cX9_tellsApart 233 = .ok (.if_icmp .eq 7, 3) := by decide +kernel
theorem dX9_tellsApart_236 : decode cX9_tellsApart 236 = .ok (.iconst 1, 1) := by decide +kernel
theorem dX9_tellsApart_237 : decode cX9_tellsApart 237 = .ok (.goto 4, 3) := by decide +kernel
theorem dX9_tellsApart_240 : decode cX9_tellsApart 240 = .ok (.iconst 0, 1) := by decide +kernel
theorem dX9_tellsApart_241 : decode cX9_tellsApart 241 = .ok (.istore 4, 2) := by decide +kernel
theorem dX9_tellsApart_243 : decode cX9_tellsApart 243 = .ok (.iinc 6 1, 3) := by decide +kernel
theorem dX9_tellsApart_246 : decode cX9_tellsApart 246 = .ok (.goto (-103), 3) := by decide +kernel
theorem dX9_tellsApart_249 : decode cX9_tellsApart 249 = .ok (.iinc 5 1, 3) := by decide +kernel
theorem dX9_tellsApart_252 : decode cX9_tellsApart 252 = .ok (.goto (-123), 3) := by decide +kernel
theorem dX9_tellsApart_255 : decode cX9_tellsApart 255 = .ok (.iconst 0, 1) := by decide +kernel
theorem dX9_tellsApart_256 : decode cX9_tellsApart 256 = .ok (.istore 5, 2) := by decide +kernel
theorem dX9_tellsApart_258 : decode cX9_tellsApart 258 = .ok (.iload 5, 2) := by decide +kernel
theorem dX9_tellsApart_260 : decode cX9_tellsApart 260 = .ok (.sipush 144, 3) := by decide +kernel
theorem dX9_tellsApart_263 : decode cX9_tellsApart 263 = .ok (.if_icmp .ge 23, 3) := by decide +kernel
theorem dX9_tellsApart_266 : decode cX9_tellsApart 266 = .ok (.aload_n 0, 1) := by decide +kernel
theorem dX9_tellsApart_267 : decode cX9_tellsApart 267 = .ok (.getfield 32, 3) := by decide +kernel
theorem dX9_tellsApart_270 : decode cX9_tellsApart 270 = .ok (.iload 5, 2) := by decide +kernel
theorem dX9_tellsApart_272 : decode cX9_tellsApart 272 = .ok (.aload_n 0, 1) := by decide +kernel
theorem dX9_tellsApart_273 : decode cX9_tellsApart 273 = .ok (.getfield 35, 3) := by decide +kernel
theorem dX9_tellsApart_276 : decode cX9_tellsApart 276 = .ok (.iload 5, 2) := by decide +kernel
theorem dX9_tellsApart_278 : decode cX9_tellsApart 278 = .ok (.baload, 1) := by decide +kernel
theorem dX9_tellsApart_279 : decode cX9_tellsApart 279 = .ok (.bastore, 1) := by decide +kernel
theorem dX9_tellsApart_280 : decode cX9_tellsApart 280 = .ok (.iinc 5 1, 3) := by decide +kernel
theorem dX9_tellsApart_283 : decode cX9_tellsApart 283 = .ok (.goto (-25), 3) := by decide +kernel
theorem dX9_tellsApart_286 : decode cX9_tellsApart 286 = .ok (.goto (-168), 3) := by decide +kernel
theorem dX9_tellsApart_289 : decode cX9_tellsApart 289 = .ok (.aload_n 0, 1) := by decide +kernel
theorem dX9_tellsApart_290 : decode cX9_tellsApart 290 = .ok (.getfield 7, 3) := by decide +kernel
theorem dX9_tellsApart_293 : decode cX9_tellsApart 293 = .ok (.iconst 0, 1) := by decide +kernel
theorem dX9_tellsApart_294 : decode cX9_tellsApart 294 = .ok (.iaload, 1) := by decide +kernel
theorem dX9_tellsApart_295 : decode cX9_tellsApart 295 = .ok (.iconst 1, 1) := by decide +kernel
theorem dX9_tellsApart_296 : decode cX9_tellsApart 296 = .ok (.isub, 1) := by decide +kernel
theorem dX9_tellsApart_297 : decode cX9_tellsApart 297 = .ok (.istore 5, 2) := by decide +kernel
theorem dX9_tellsApart_299 : decode cX9_tellsApart 299 = .ok (.iload 5, 2) := by decide +kernel
theorem dX9_tellsApart_301 : decode cX9_tellsApart 301 = .ok (.ifCond .lt 64, 3) := by decide +kernel
theorem dX9_tellsApart_304 : decode cX9_tellsApart 304 = .ok (.iconst 0, 1) := by decide +kernel
theorem dX9_tellsApart_305 : decode cX9_tellsApart 305 = .ok (.istore 6, 2) := by decide +kernel
theorem dX9_tellsApart_307 : decode cX9_tellsApart 307 = .ok (.iload 6, 2) := by decide +kernel
theorem dX9_tellsApart_309 : decode cX9_tellsApart 309 = .ok (.aload_n 0, 1) := by decide +kernel
theorem dX9_tellsApart_310 : decode cX9_tellsApart 310 = .ok (.getfield 7, 3) := by decide +kernel
theorem dX9_tellsApart_313 : decode cX9_tellsApart 313 = .ok (.iconst 0, 1) := by decide +kernel
theorem dX9_tellsApart_314 : decode cX9_tellsApart 314 = .ok (.iaload, 1) := by decide +kernel
theorem dX9_tellsApart_315 : decode cX9_tellsApart 315 = .ok (.if_icmp .ge 44, 3) := by decide +kernel
theorem dX9_tellsApart_318 : decode cX9_tellsApart 318 = .ok (.aload_n 0, 1) := by decide +kernel
theorem dX9_tellsApart_319 : decode cX9_tellsApart 319 = .ok (.getfield 29, 3) := by decide +kernel
theorem dX9_tellsApart_322 : decode cX9_tellsApart 322 = .ok (.iload 6, 2) := by decide +kernel
theorem dX9_tellsApart_324 : decode cX9_tellsApart 324 = .ok (.aload_n 0, 1) := by decide +kernel
theorem dX9_tellsApart_325 : decode cX9_tellsApart 325 = .ok (.getfield 32, 3) := by decide +kernel
theorem dX9_tellsApart_328 : decode cX9_tellsApart 328 = .ok (.bipush 12, 2) := by decide +kernel
theorem dX9_tellsApart_330 : decode cX9_tellsApart 330 = .ok (.iload 5, 2) := by decide +kernel
theorem dX9_tellsApart_332 : decode cX9_tellsApart 332 = .ok (.imul, 1) := by decide +kernel
theorem dX9_tellsApart_333 : decode cX9_tellsApart 333 = .ok (.iload 6, 2) := by decide +kernel
theorem dX9_tellsApart_335 : decode cX9_tellsApart 335 = .ok (.iadd, 1) := by decide +kernel
theorem dX9_tellsApart_336 : decode cX9_tellsApart 336 = .ok (.baload, 1) := by decide +kernel
theorem dX9_tellsApart_337 : decode cX9_tellsApart 337 = .ok (.ifCond .eq 13, 3) := by decide +kernel
theorem dX9_tellsApart_340 : decode cX9_tellsApart 340 = .ok (.aload_n 0, 1) := by decide +kernel
theorem dX9_tellsApart_341 : decode cX9_tellsApart 341 = .ok (.getfield 29, 3) := by decide +kernel
theorem dX9_tellsApart_344 : decode cX9_tellsApart 344 = .ok (.iload 6, 2) := by decide +kernel
theorem dX9_tellsApart_346 : decode cX9_tellsApart 346 = .ok (.iaload, 1) := by decide +kernel
theorem dX9_tellsApart_347 : decode cX9_tellsApart 347 = .ok (.goto 5, 3) := by decide +kernel
theorem dX9_tellsApart_350 : decode cX9_tellsApart 350 = .ok (.iload 5, 2) := by decide +kernel
theorem dX9_tellsApart_352 : decode cX9_tellsApart 352 = .ok (.iastore, 1) := by decide +kernel
theorem dX9_tellsApart_353 : decode cX9_tellsApart 353 = .ok (.iinc 6 1, 3) := by decide +kernel
theorem dX9_tellsApart_356 : decode cX9_tellsApart 356 = .ok (.goto (-49), 3) := by decide +kernel
theorem dX9_tellsApart_359 : decode cX9_tellsApart 359 = .ok (.iinc 5 (-1), 3) := by decide +kernel
theorem dX9_tellsApart_362 : decode cX9_tellsApart 362 = .ok (.goto (-63), 3) := by decide +kernel
theorem dX9_tellsApart_365 : decode cX9_tellsApart 365 = .ok (.aload_n 0, 1) := by decide +kernel
theorem dX9_tellsApart_366 : decode cX9_tellsApart 366 = .ok (.getfield 29, 3) := by decide +kernel
theorem dX9_tellsApart_369 : decode cX9_tellsApart 369 = .ok (.iconst 0, 1) := by decide +kernel
theorem dX9_tellsApart_370 : decode cX9_tellsApart 370 = .ok (.aload_n 1, 1) := by decide +kernel
theorem dX9_tellsApart_371 : decode cX9_tellsApart 371 = .ok (.iload_n 2, 1) := by decide +kernel
theorem dX9_tellsApart_372 : decode cX9_tellsApart 372 = .ok (.aload_n 0, 1) := by decide +kernel
theorem dX9_tellsApart_373 : decode cX9_tellsApart 373 = .ok (.getfield 7, 3) := by decide +kernel
theorem dX9_tellsApart_376 : decode cX9_tellsApart 376 = .ok (.iconst 0, 1) := by decide +kernel
theorem dX9_tellsApart_377 : decode cX9_tellsApart 377 = .ok (.iaload, 1) := by decide +kernel
theorem dX9_tellsApart_378 : decode cX9_tellsApart 378 = .ok (.invokestatic 65, 3) := by decide +kernel
theorem dX9_tellsApart_381 : decode cX9_tellsApart 381 = .ok (.aload_n 0, 1) := by decide +kernel
theorem dX9_tellsApart_382 : decode cX9_tellsApart 382 = .ok (.aload_n 1, 1) := by decide +kernel
theorem dX9_tellsApart_383 : decode cX9_tellsApart 383 = .ok (.iload_n 2, 1) := by decide +kernel
theorem dX9_tellsApart_384 : decode cX9_tellsApart 384 = .ok (.invokevirtual 116, 3) := by decide +kernel
theorem dX9_tellsApart_387 : decode cX9_tellsApart 387 = .ok (.return_, 1) := by decide +kernel
set_option maxRecDepth 20000 in
theorem ggX9_refines_X9_tellsApart : GoodIn wsX9_refines wsX9_tellsApart := goodIn_r _ [6, 1, 7, 8, 9, 10, 11, 5, 12, 13, 14, 15, 16, 17, 18, 19, 20, 21, 22, 23, 24, 25, 26, 27, 28, 29, 30, 31, 32, 33, 34, 59, 60, 61, 62, 63, 64, 65, 66, 67, 68, 69, 70, 71, 72, 73, 74, 75] (by decide +kernel) (by decide +kernel)
set_option maxRecDepth 20000 in
theorem gX9_refines_X9_tellsApart : GoodIn wsX9_refines (wsV RX9 120 RX9 yX9_tellsApart wsX9_tellsApart) := goodIn_app (goodIn_of _ (by decide +kernel)) ggX9_refines_X9_tellsApart
set_option maxRecDepth 20000 in
theorem ggX9_refines_X9_setOf : GoodIn wsX9_refines wsX9_setOf := goodIn_r _ [38, 1, 39, 40, 41, 5, 42, 10, 11, 12, 43, 44, 45, 46, 47, 48, 49, 50, 27, 28, 29, 30, 17, 18, 19, 59, 60, 61, 62, 63, 64, 65, 66, 67, 68, 69, 70, 71, 72, 73, 74, 75] (by decide +kernel) (by decide +kernel)
set_option maxRecDepth 20000 in
theorem gX9_refines_X9_setOf : GoodIn wsX9_refines (wsV RX9 109 RX9 yX9_setOf wsX9_setOf) := goodIn_app (goodIn_of _ (by decide +kernel)) ggX9_refines_X9_setOf
set_option maxRecDepth 20000 in
theorem ggX9_refines_X9_splits : GoodIn wsX9_refines wsX9_splits := goodIn_r _ [54, 9, 55, 56, 57, 5, 58, 1, 20, 21, 22, 27, 28, 29, 30, 31, 32, 33, 34, 10, 11, 12, 59, 60, 61, 62, 63, 64, 65, 66, 67, 68, 69, 70, 71, 72, 73, 74, 75] (by decide +kernel) (by decide +kernel)
set_option maxRecDepth 20000 in
theorem gX9_refines_X9_splits : GoodIn wsX9_refines (wsV RX9 124 RX9 yX9_splits wsX9_splits) := goodIn_app (goodIn_of _ (by decide +kernel)) ggX9_refines_X9_splits
theorem dX9_refines_0 : decode cX9_refines 0 = .ok (.iload_n 3, 1) := by decide +kernel
theorem dX9_refines_1 : decode cX9_refines 1 = .ok (.iconst 2, 1) := by decide +kernel
theorem dX9_refines_2 : decode cX9_refines 2 = .ok (.if_icmp .le 11, 3) := by decide +kernel
theorem dX9_refines_5 : decode cX9_refines 5 = .ok (.aload_n 0, 1) := by decide +kernel
theorem dX9_refines_6 : decode cX9_refines 6 = .ok (.aload_n 1, 1) := by decide +kernel
theorem dX9_refines_7 : decode cX9_refines 7 = .ok (.iload_n 2, 1) := by decide +kernel
theorem dX9_refines_8 : decode cX9_refines 8 = .ok (.iload_n 3, 1) := by decide +kernel
theorem dX9_refines_9 : decode cX9_refines 9 = .ok (.invokevirtual 120, 3) := by decide +kernel
theorem dX9_refines_12 : decode cX9_refines 12 = .ok (.return_, 1) := by decide +kernel
theorem dX9_refines_13 : decode cX9_refines 13 = .ok (.iload_n 3, 1) := by decide +kernel
theorem dX9_refines_14 : decode cX9_refines 14 = .ok (.iconst 2, 1) := by decide +kernel
theorem dX9_refines_15 : decode cX9_refines 15 = .ok (.if_icmp .ne 8, 3) := by decide +kernel
theorem dX9_refines_18 : decode cX9_refines 18 = .ok (.bipush 8, 2) := by decide +kernel
theorem dX9_refines_20 : decode cX9_refines 20 = .ok (.goto 9, 3) := by decide +kernel
theorem dX9_refines_23 : decode cX9_refines 23 = .ok (.aload_n 0, 1) := by decide +kernel
theorem dX9_refines_24 : decode cX9_refines 24 = .ok (.getfield 7, 3) := by decide +kernel
theorem dX9_refines_27 : decode cX9_refines 27 = .ok (.iconst 0, 1) := by decide +kernel
theorem dX9_refines_28 : decode cX9_refines 28 = .ok (.iaload, 1) := by decide +kernel
theorem dX9_refines_29 : decode cX9_refines 29 = .ok (.istore 4, 2) := by decide +kernel
theorem dX9_refines_31 : decode cX9_refines 31 = .ok (.iconst 0, 1) := by decide +kernel
theorem dX9_refines_32 : decode cX9_refines 32 = .ok (.istore 5, 2) := by decide +kernel
theorem dX9_refines_34 : decode cX9_refines 34 = .ok (.iload 5, 2) := by decide +kernel
theorem dX9_refines_36 : decode cX9_refines 36 = .ok (.iload 4, 2) := by decide +kernel
theorem dX9_refines_38 : decode cX9_refines 38 = .ok (.if_icmp .ge 23, 3) := by decide +kernel
theorem dX9_refines_41 : decode cX9_refines 41 = .ok (.aload_n 0, 1) := by decide +kernel
theorem dX9_refines_42 : decode cX9_refines 42 = .ok (.aload_n 1, 1) := by decide +kernel
theorem dX9_refines_43 : decode cX9_refines 43 = .ok (.iload_n 2, 1) := by decide +kernel
theorem dX9_refines_44 : decode cX9_refines 44 = .ok (.aload_n 0, 1) := by decide +kernel
theorem dX9_refines_45 : decode cX9_refines 45 = .ok (.iload_n 3, 1) := by decide +kernel
theorem dX9_refines_46 : decode cX9_refines 46 = .ok (.iload 5, 2) := by decide +kernel
theorem dX9_refines_48 : decode cX9_refines 48 = .ok (.iconst 0, 1) := by decide +kernel
theorem dX9_refines_49 : decode cX9_refines 49 = .ok (.invokevirtual 109, 3) := by decide +kernel
theorem dX9_refines_52 : decode cX9_refines 52 = .ok (.invokevirtual 124, 3) := by decide +kernel
theorem dX9_refines_55 : decode cX9_refines 55 = .ok (.iinc 5 1, 3) := by decide +kernel
theorem dX9_refines_58 : decode cX9_refines 58 = .ok (.goto (-24), 3) := by decide +kernel
theorem dX9_refines_61 : decode cX9_refines 61 = .ok (.return_, 1) := by decide +kernel
set_option maxRecDepth 20000 in
theorem ggX9_ofItself_X9_refines : GoodIn wsX9_ofItself wsX9_refines := goodIn_r _ [6, 7, 8, 9, 10, 5, 11, 12, 13, 14, 15, 16, 17, 18, 19, 20, 21, 22, 23, 24, 25, 26, 27, 28, 29, 30, 31, 32, 33, 34, 35, 36, 37, 38, 39, 40, 41, 42, 43, 44, 45, 46, 47, 48, 49, 50, 51, 52, 53, 54, 55, 56, 57, 58, 59, 60, 61, 62, 63, 64, 65, 66, 67, 68, 69, 70, 71, 72, 73, 74, 75, 76, 77, 78, 79, 80] (by decide +kernel) (by decide +kernel)
set_option maxRecDepth 20000 in
theorem gX9_ofItself_X9_refines : GoodIn wsX9_ofItself (wsV RX9 127 RX9 yX9_refines wsX9_refines) := goodIn_app (goodIn_of _ (by decide +kernel)) ggX9_ofItself_X9_refines
theorem dX9_ofItself_0 : decode cX9_ofItself 0 = .ok (.iconst 0, 1) := by decide +kernel
theorem dX9_ofItself_1 : decode cX9_ofItself 1 = .ok (.istore_n 2, 1) := by decide +kernel
theorem dX9_ofItself_2 : decode cX9_ofItself 2 = .ok (.iload_n 2, 1) := by decide +kernel
theorem dX9_ofItself_3 : decode cX9_ofItself 3 = .ok (.bipush 12, 2) := by decide +kernel
theorem dX9_ofItself_5 : decode cX9_ofItself 5 = .ok (.if_icmp .ge 16, 3) := by decide +kernel
theorem dX9_ofItself_8 : decode cX9_ofItself 8 = .ok (.aload_n 0, 1) := by decide +kernel
theorem dX9_ofItself_9 : decode cX9_ofItself 9 = .ok (.getfield 38, 3) := by decide +kernel
theorem dX9_ofItself_12 : decode cX9_ofItself 12 = .ok (.iload_n 2, 1) := by decide +kernel
theorem dX9_ofItself_13 : decode cX9_ofItself 13 = .ok (.iconst 0, 1) := by decide +kernel
theorem dX9_ofItself_14 : decode cX9_ofItself 14 = .ok (.iastore, 1) := by decide +kernel
theorem dX9_ofItself_15 : decode cX9_ofItself 15 = .ok (.iinc 2 1, 3) := by decide +kernel
theorem dX9_ofItself_18 : decode cX9_ofItself 18 = .ok (.goto (-16), 3) := by decide +kernel
theorem dX9_ofItself_21 : decode cX9_ofItself 21 = .ok (.aload_n 0, 1) := by decide +kernel
theorem dX9_ofItself_22 : decode cX9_ofItself 22 = .ok (.aload_n 0, 1) := by decide +kernel
theorem dX9_ofItself_23 : decode cX9_ofItself 23 = .ok (.getfield 38, 3) := by decide +kernel
theorem dX9_ofItself_26 : decode cX9_ofItself 26 = .ok (.iconst 0, 1) := by decide +kernel
theorem dX9_ofItself_27 : decode cX9_ofItself 27 = .ok (.iload_n 1, 1) := by decide +kernel
theorem dX9_ofItself_28 : decode cX9_ofItself 28 = .ok (.invokevirtual 127, 3) := by decide +kernel
theorem dX9_ofItself_31 : decode cX9_ofItself 31 = .ok (.return_, 1) := by decide +kernel
set_option maxRecDepth 20000 in
theorem ggX9_refinedMany_X9_ofItself : GoodIn wsX9_refinedMany wsX9_ofItself := goodIn_r _ [6, 1, 7, 8, 9, 5, 10, 11, 12, 13, 14, 15, 16, 17, 18, 19, 20, 21, 22, 23, 24, 25, 26, 27, 28, 29, 30, 31, 32, 33, 34, 35, 36, 37, 38, 39, 40, 41, 42, 43, 44, 45, 46, 47, 48, 49, 50, 51, 52, 53, 54, 55, 56, 57, 58, 59, 60, 61, 62, 63, 64, 65, 66, 67, 68, 69, 70, 71, 72, 73, 74, 75, 76, 77, 78, 79, 80, 81, 82, 83, 84] (by decide +kernel) (by decide +kernel)
set_option maxRecDepth 20000 in
theorem gX9_refinedMany_X9_ofItself : GoodIn wsX9_refinedMany (wsV RX9 130 RX9 yX9_ofItself wsX9_ofItself) := goodIn_app (goodIn_of _ (by decide +kernel)) ggX9_refinedMany_X9_ofItself
set_option maxRecDepth 20000 in
theorem ggX9_refinedMany_X9_classes : GoodIn wsX9_refinedMany wsX9_classes := goodIn_r _ [67, 11, 68, 69, 70, 71, 72, 73, 74, 75, 76, 77, 78, 79, 80, 81, 82, 83, 84] (by decide +kernel) (by decide +kernel)
set_option maxRecDepth 20000 in
theorem gX9_refinedMany_X9_classes : GoodIn wsX9_refinedMany (wsV RX9 73 RX9 yX9_classes wsX9_classes) := goodIn_app (goodIn_of _ (by decide +kernel)) ggX9_refinedMany_X9_classes
theorem dX9_refinedMany_0 : decode cX9_refinedMany 0 = .ok (.aload_n 0, 1) := by decide +kernel
theorem dX9_refinedMany_1 : decode cX9_refinedMany 1 = .ok (.iload_n 1, 1) := by decide +kernel
theorem dX9_refinedMany_2 : decode cX9_refinedMany 2 = .ok (.invokevirtual 130, 3) := by decide +kernel
theorem dX9_refinedMany_5 : decode cX9_refinedMany 5 = .ok (.aload_n 0, 1) := by decide +kernel
theorem dX9_refinedMany_6 : decode cX9_refinedMany 6 = .ok (.aload_n 0, 1) := by decide +kernel
theorem dX9_refinedMany_7 : decode cX9_refinedMany 7 = .ok (.getfield 38, 3) := by decide +kernel
theorem dX9_refinedMany_10 : decode cX9_refinedMany 10 = .ok (.iconst 0, 1) := by decide +kernel
theorem dX9_refinedMany_11 : decode cX9_refinedMany 11 = .ok (.invokevirtual 73, 3) := by decide +kernel
theorem dX9_refinedMany_14 : decode cX9_refinedMany 14 = .ok (.ireturn, 1) := by decide +kernel
set_option maxRecDepth 20000 in
theorem ggX9_alike_X9_isItem : GoodIn wsX9_alike wsX9_isItem := goodIn_r _ [8, 9, 10, 11, 7, 12, 77, 78, 79, 80, 81, 82, 83, 84, 85, 86, 87, 88, 89, 90, 91, 92, 93] (by decide +kernel) (by decide +kernel)
set_option maxRecDepth 20000 in
theorem gX9_alike_X9_isItem : GoodIn wsX9_alike (wsV RX9 89 RX9 yX9_isItem wsX9_isItem) := goodIn_app (goodIn_of _ (by decide +kernel)) ggX9_alike_X9_isItem
set_option maxRecDepth 20000 in
theorem ggX9_alike_X9_in : GoodIn wsX9_alike wsX9_in := goodIn_r _ [12] (by decide +kernel) (by decide +kernel)
set_option maxRecDepth 20000 in
theorem gX9_alike_X9_in : GoodIn wsX9_alike (va_wsS RX9 57 yX9_in wsX9_in) := goodIn_app (goodIn_of _ (by decide +kernel)) ggX9_alike_X9_in
set_option maxRecDepth 20000 in
theorem ggX9_alike_X9_ofItself : GoodIn wsX9_alike wsX9_ofItself := goodIn_r _ [16, 3, 17, 18, 19, 7, 20, 9, 21, 22, 23, 24, 25, 26, 27, 28, 29, 30, 31, 32, 33, 34, 35, 36, 37, 38, 39, 40, 41, 42, 43, 44, 45, 46, 47, 48, 49, 50, 51, 52, 53, 54, 55, 56, 57, 58, 59, 60, 61, 62, 63, 64, 65, 66, 67, 68, 69, 70, 71, 72, 73, 74, 75, 76, 77, 78, 79, 80, 81, 82, 83, 84, 85, 86, 87, 88, 89, 90, 91, 92, 93] (by decide +kernel) (by decide +kernel)
set_option maxRecDepth 20000 in
theorem gX9_alike_X9_ofItself : GoodIn wsX9_alike (wsV RX9 130 RX9 yX9_ofItself wsX9_ofItself) := goodIn_app (goodIn_of _ (by decide +kernel)) ggX9_alike_X9_ofItself
theorem dX9_alike_0 : decode cX9_alike 0 = .ok (.aload_n 0, 1) := by decide +kernel
theorem dX9_alike_1 : decode cX9_alike 1 = .ok (.iload_n 1, 1) := by decide +kernel
theorem dX9_alike_2 : decode cX9_alike 2 = .ok (.invokevirtual 89, 3) := by decide +kernel
theorem dX9_alike_5 : decode cX9_alike 5 = .ok (.ifCond .eq 11, 3) := by decide +kernel
theorem dX9_alike_8 : decode cX9_alike 8 = .ok (.aload_n 0, 1) := by decide +kernel
theorem dX9_alike_9 : decode cX9_alike 9 = .ok (.iload_n 2, 1) := by decide +kernel
theorem dX9_alike_10 : decode cX9_alike 10 = .ok (.invokevirtual 89, 3) := by decide +kernel
theorem dX9_alike_13 : decode cX9_alike 13 = .ok (.ifCond .ne 6, 3) := by decide +kernel
theorem dX9_alike_16 : decode cX9_alike 16 = .ok (.ldc 93, 2) := by decide +kernel
theorem dX9_alike_18 : decode cX9_alike 18 = .ok (.ireturn, 1) := by decide +kernel
theorem dX9_alike_19 : decode cX9_alike 19 = .ok (.iload_n 3, 1) := by decide +kernel
theorem dX9_alike_20 : decode cX9_alike 20 = .ok (.iconst 0, 1) := by decide +kernel
theorem dX9_alike_21 : decode cX9_alike 21 = .ok (.iconst 4, 1) := by decide +kernel
theorem dX9_alike_22 : decode cX9_alike 22 = .ok (.invokestatic 57, 3) := by decide +kernel
theorem dX9_alike_25 : decode cX9_alike 25 = .ok (.ifCond .ne 6, 3) := by decide +kernel
theorem dX9_alike_28 : decode cX9_alike 28 = .ok (.ldc 94, 2) := by decide +kernel
theorem dX9_alike_30 : decode cX9_alike 30 = .ok (.ireturn, 1) := by decide +kernel
theorem dX9_alike_31 : decode cX9_alike 31 = .ok (.aload_n 0, 1) := by decide +kernel
theorem dX9_alike_32 : decode cX9_alike 32 = .ok (.iload_n 3, 1) := by decide +kernel
theorem dX9_alike_33 : decode cX9_alike 33 = .ok (.invokevirtual 130, 3) := by decide +kernel
theorem dX9_alike_36 : decode cX9_alike 36 = .ok (.aload_n 0, 1) := by decide +kernel
theorem dX9_alike_37 : decode cX9_alike 37 = .ok (.getfield 38, 3) := by decide +kernel
theorem dX9_alike_40 : decode cX9_alike 40 = .ok (.iload_n 1, 1) := by decide +kernel
theorem dX9_alike_41 : decode cX9_alike 41 = .ok (.iaload, 1) := by decide +kernel
theorem dX9_alike_42 : decode cX9_alike 42 = .ok (.aload_n 0, 1) := by decide +kernel
theorem dX9_alike_43 : decode cX9_alike 43 = .ok (.getfield 38, 3) := by decide +kernel
theorem dX9_alike_46 : decode cX9_alike 46 = .ok (.iload_n 2, 1) := by decide +kernel
theorem dX9_alike_47 : decode cX9_alike 47 = .ok (.iaload, 1) := by decide +kernel
theorem dX9_alike_48 : decode cX9_alike 48 = .ok (.if_icmp .ne 7, 3) := by decide +kernel
theorem dX9_alike_51 : decode cX9_alike 51 = .ok (.iconst 1, 1) := by decide +kernel
theorem dX9_alike_52 : decode cX9_alike 52 = .ok (.goto 4, 3) := by decide +kernel
theorem dX9_alike_55 : decode cX9_alike 55 = .ok (.iconst 0, 1) := by decide +kernel
theorem dX9_alike_56 : decode cX9_alike 56 = .ok (.ireturn, 1) := by decide +kernel
set_option maxRecDepth 20000 in
theorem ggX9_apart_X9_isItem : GoodIn wsX9_apart wsX9_isItem := goodIn_r _ [10, 5, 11, 12, 9, 13, 17, 18, 19, 20, 21, 22, 23, 24, 25, 26, 27, 28, 29, 30, 31, 32, 33] (by decide +kernel) (by decide +kernel)
set_option maxRecDepth 20000 in
theorem gX9_apart_X9_isItem : GoodIn wsX9_apart (wsV RX9 89 RX9 yX9_isItem wsX9_isItem) := goodIn_app (goodIn_of _ (by decide +kernel)) ggX9_apart_X9_isItem
set_option maxRecDepth 20000 in
theorem ggX9_apart_X9_has : GoodIn wsX9_apart wsX9_has := goodIn_r _ [16] (by decide +kernel) (by decide +kernel)
set_option maxRecDepth 20000 in
theorem gX9_apart_X9_has : GoodIn wsX9_apart (va_wsS RX9 69 yX9_has wsX9_has) := goodIn_app (goodIn_of _ (by decide +kernel)) ggX9_apart_X9_has
theorem dX9_apart_0 : decode cX9_apart 0 = .ok (.aload_n 0, 1) := by decide +kernel
theorem dX9_apart_1 : decode cX9_apart 1 = .ok (.iload_n 1, 1) := by decide +kernel
theorem dX9_apart_2 : decode cX9_apart 2 = .ok (.invokevirtual 89, 3) := by decide +kernel
theorem dX9_apart_5 : decode cX9_apart 5 = .ok (.ifCond .eq 11, 3) := by decide +kernel
theorem dX9_apart_8 : decode cX9_apart 8 = .ok (.aload_n 0, 1) := by decide +kernel
theorem dX9_apart_9 : decode cX9_apart 9 = .ok (.iload_n 2, 1) := by decide +kernel
theorem dX9_apart_10 : decode cX9_apart 10 = .ok (.invokevirtual 89, 3) := by decide +kernel
theorem dX9_apart_13 : decode cX9_apart 13 = .ok (.ifCond .ne 6, 3) := by decide +kernel
theorem dX9_apart_16 : decode cX9_apart 16 = .ok (.ldc 93, 2) := by decide +kernel
theorem dX9_apart_18 : decode cX9_apart 18 = .ok (.ireturn, 1) := by decide +kernel
theorem dX9_apart_19 : decode cX9_apart 19 = .ok (.iconst 0, 1) := by decide +kernel
theorem dX9_apart_20 : decode cX9_apart 20 = .ok (.istore_n 3, 1) := by decide +kernel
theorem dX9_apart_21 : decode cX9_apart 21 = .ok (.iload_n 3, 1) := by decide +kernel
theorem dX9_apart_22 : decode cX9_apart 22 = .ok (.sipush 144, 3) := by decide +kernel
theorem dX9_apart_25 : decode cX9_apart 25 = .ok (.if_icmp .ge 16, 3) := by decide +kernel
theorem dX9_apart_28 : decode cX9_apart 28 = .ok (.aload_n 0, 1) := by decide +kernel
theorem dX9_apart_29 : decode cX9_apart 29 = .ok (.getfield 47, 3) := by decide +kernel
theorem dX9_apart_32 : decode cX9_apart 32 = .ok (.iload_n 3, 1) := by decide +kernel
theorem dX9_apart_33 : decode cX9_apart 33 = .ok (.iconst 0, 1) := by decide +kernel
theorem dX9_apart_34 : decode cX9_apart 34 = .ok (.bastore, 1) := by decide +kernel
theorem dX9_apart_35 : decode cX9_apart 35 = .ok (.iinc 3 1, 3) := by decide +kernel
theorem dX9_apart_38 : decode cX9_apart 38 = .ok (.goto (-17), 3) := by decide +kernel
theorem dX9_apart_41 : decode cX9_apart 41 = .ok (.iconst 1, 1) := by decide +kernel
theorem dX9_apart_42 : decode cX9_apart 42 = .ok (.istore_n 3, 1) := by decide +kernel
theorem dX9_apart_43 : decode cX9_apart 43 = .ok (.aload_n 0, 1) := by decide +kernel
theorem dX9_apart_44 : decode cX9_apart 44 = .ok (.getfield 41, 3) := by decide +kernel
theorem dX9_apart_47 : decode cX9_apart 47 = .ok (.iconst 0, 1) := by decide +kernel
theorem dX9_apart_48 : decode cX9_apart 48 = .ok (.bipush 12, 2) := by decide +kernel
theorem dX9_apart_50 : decode cX9_apart 50 = .ok (.iload_n 1, 1) := by decide +kernel
theorem dX9_apart_51 : decode cX9_apart 51 = .ok (.imul, 1) := by decide +kernel
theorem dX9_apart_52 : decode cX9_apart 52 = .ok (.iload_n 2, 1) := by decide +kernel
theorem dX9_apart_53 : decode cX9_apart 53 = .ok (.iadd, 1) := by decide +kernel
theorem dX9_apart_54 : decode cX9_apart 54 = .ok (.iastore, 1) := by decide +kernel
theorem dX9_apart_55 : decode cX9_apart 55 = .ok (.aload_n 0, 1) := by decide +kernel
theorem dX9_apart_56 : decode cX9_apart 56 = .ok (.getfield 44, 3) := by decide +kernel
theorem dX9_apart_59 : decode cX9_apart 59 = .ok (.iconst 0, 1) := by decide +kernel
theorem dX9_apart_60 : decode cX9_apart 60 = .ok (.iconst 0, 1) := by decide +kernel
theorem dX9_apart_61 : decode cX9_apart 61 = .ok (.iastore, 1) := by decide +kernel
theorem dX9_apart_62 : decode cX9_apart 62 = .ok (.aload_n 0, 1) := by decide +kernel
theorem dX9_apart_63 : decode cX9_apart 63 = .ok (.getfield 47, 3) := by decide +kernel
theorem dX9_apart_66 : decode cX9_apart 66 = .ok (.aload_n 0, 1) := by decide +kernel
theorem dX9_apart_67 : decode cX9_apart 67 = .ok (.getfield 41, 3) := by decide +kernel
theorem dX9_apart_70 : decode cX9_apart 70 = .ok (.iconst 0, 1) := by decide +kernel
theorem dX9_apart_71 : decode cX9_apart 71 = .ok (.iaload, 1) := by decide +kernel
theorem dX9_apart_72 : decode cX9_apart 72 = .ok (.iconst 1, 1) := by decide +kernel
theorem dX9_apart_73 : decode cX9_apart 73 = .ok (.bastore, 1) := by decide +kernel
theorem dX9_apart_74 : decode cX9_apart 74 = .ok (.iconst 0, 1) := by decide +kernel
theorem dX9_apart_75 : decode cX9_apart 75 = .ok (.istore 4, 2) := by decide +kernel
theorem dX9_apart_77 : decode cX9_apart 77 = .ok (.iload 4, 2) := by decide +kernel
theorem dX9_apart_79 : decode cX9_apart 79 = .ok (.iload_n 3, 1) := by decide +kernel
