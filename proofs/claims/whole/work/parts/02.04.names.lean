theorem dX8_told_135 : decode cX8_told 135 = .ok (.aload_n 0, 1) := by decide +kernel
theorem dX8_told_136 : decode cX8_told 136 = .ok (.iload_n 1, 1) := by decide +kernel
theorem dX8_told_137 : decode cX8_told 137 = .ok (.bipush 6, 2) := by decide +kernel
theorem dX8_told_139 : decode cX8_told 139 = .ok (.isub, 1) := by decide +kernel
theorem dX8_told_140 : decode cX8_told 140 = .ok (.invokevirtual 88, 3) := by decide +kernel
theorem dX8_told_143 : decode cX8_told 143 = .ok (.aload_n 0, 1) := by decide +kernel
theorem dX8_told_144 : decode cX8_told 144 = .ok (.getfield 54, 3) := by decide +kernel
theorem dX8_told_147 : decode cX8_told 147 = .ok (.getfield 72, 3) := by decide +kernel
theorem dX8_told_150 : decode cX8_told 150 = .ok (.ireturn, 1) := by decide +kernel
theorem dX8_told_151 : decode cX8_told 151 = .ok (.aload_n 0, 1) := by decide +kernel
theorem dX8_told_152 : decode cX8_told 152 = .ok (.getfield 47, 3) := by decide +kernel
theorem dX8_told_155 : decode cX8_told 155 = .ok (.aload_n 0, 1) := by decide +kernel
theorem dX8_told_156 : decode cX8_told 156 = .ok (.getfield 10, 3) := by decide +kernel
theorem dX8_told_159 : decode cX8_told 159 = .ok (.iconst 0, 1) := by decide +kernel
theorem dX8_told_160 : decode cX8_told 160 = .ok (.invokevirtual 92, 3) := by decide +kernel
theorem dX8_told_163 : decode cX8_told 163 = .ok (.aload_n 0, 1) := by decide +kernel
theorem dX8_told_164 : decode cX8_told 164 = .ok (.getfield 47, 3) := by decide +kernel
theorem dX8_told_167 : decode cX8_told 167 = .ok (.aload_n 0, 1) := by decide +kernel
theorem dX8_told_168 : decode cX8_told 168 = .ok (.getfield 10, 3) := by decide +kernel
theorem dX8_told_171 : decode cX8_told 171 = .ok (.invokevirtual 96, 3) := by decide +kernel
theorem dX8_told_174 : decode cX8_told 174 = .ok (.ireturn, 1) := by decide +kernel
theorem dX8_told_175 : decode cX8_told 175 = .ok (.aload_n 0, 1) := by decide +kernel
theorem dX8_told_176 : decode cX8_told 176 = .ok (.getfield 47, 3) := by decide +kernel
theorem dX8_told_179 : decode cX8_told 179 = .ok (.aload_n 0, 1) := by decide +kernel
theorem dX8_told_180 : decode cX8_told 180 = .ok (.getfield 10, 3) := by decide +kernel
theorem dX8_told_183 : decode cX8_told 183 = .ok (.iconst 0, 1) := by decide +kernel
theorem dX8_told_184 : decode cX8_told 184 = .ok (.invokevirtual 92, 3) := by decide +kernel
theorem dX8_told_187 : decode cX8_told 187 = .ok (.aload_n 0, 1) := by decide +kernel
theorem dX8_told_188 : decode cX8_told 188 = .ok (.getfield 47, 3) := by decide +kernel
theorem dX8_told_191 : decode cX8_told 191 = .ok (.aload_n 0, 1) := by decide +kernel
theorem dX8_told_192 : decode cX8_told 192 = .ok (.getfield 10, 3) := by decide +kernel
theorem dX8_told_195 : decode cX8_told 195 = .ok (.invokevirtual 96, 3) := by decide +kernel
theorem dX8_told_198 : decode cX8_told 198 = .ok (.iconst (-1), 1) := by decide +kernel
theorem dX8_told_199 : decode cX8_told 199 = .ok (.if_icmp .ne 17, 3) := by decide +kernel
theorem dX8_told_202 : decode cX8_told 202 = .ok (.aload_n 0, 1) := by decide +kernel
theorem dX8_told_203 : decode cX8_told 203 = .ok (.getfield 47, 3) := by decide +kernel
theorem dX8_told_206 : decode cX8_told 206 = .ok (.aload_n 0, 1) := by decide +kernel
theorem dX8_told_207 : decode cX8_told 207 = .ok (.getfield 10, 3) := by decide +kernel
theorem dX8_told_210 : decode cX8_told 210 = .ok (.invokevirtual 100, 3) := by decide +kernel
theorem dX8_told_213 : decode cX8_told 213 = .ok (.goto 4, 3) := by decide +kernel
theorem dX8_told_216 : decode cX8_told 216 = .ok (.iconst (-1), 1) := by decide +kernel
theorem dX8_told_217 : decode cX8_told 217 = .ok (.ireturn, 1) := by decide +kernel
theorem dX8_told_218 : decode cX8_told 218 = .ok (.aload_n 0, 1) := by decide +kernel
theorem dX8_told_219 : decode cX8_told 219 = .ok (.getfield 26, 3) := by decide +kernel
theorem dX8_told_222 : decode cX8_told 222 = .ok (.getfield 103, 3) := by decide +kernel
theorem dX8_told_225 : decode cX8_told 225 = .ok (.ireturn, 1) := by decide +kernel
theorem dX8_told_226 : decode cX8_told 226 = .ok (.aload_n 0, 1) := by decide +kernel
theorem dX8_told_227 : decode cX8_told 227 = .ok (.getfield 26, 3) := by decide +kernel
theorem dX8_told_230 : decode cX8_told 230 = .ok (.aload_n 0, 1) := by decide +kernel
theorem dX8_told_231 : decode cX8_told 231 = .ok (.getfield 10, 3) := by decide +kernel
theorem dX8_told_234 : decode cX8_told 234 = .ok (.invokevirtual 106, 3) := by decide +kernel
theorem dX8_told_237 : decode cX8_told 237 = .ok (.ireturn, 1) := by decide +kernel
theorem dX8_told_238 : decode cX8_told 238 = .ok (.aload_n 0, 1) := by decide +kernel
theorem dX8_told_239 : decode cX8_told 239 = .ok (.getfield 19, 3) := by decide +kernel
theorem dX8_told_242 : decode cX8_told 242 = .ok (.getfield 109, 3) := by decide +kernel
theorem dX8_told_245 : decode cX8_told 245 = .ok (.ireturn, 1) := by decide +kernel
theorem dX8_told_246 : decode cX8_told 246 = .ok (.aload_n 0, 1) := by decide +kernel
theorem dX8_told_247 : decode cX8_told 247 = .ok (.getfield 61, 3) := by decide +kernel
theorem dX8_told_250 : decode cX8_told 250 = .ok (.getfield 110, 3) := by decide +kernel
theorem dX8_told_253 : decode cX8_told 253 = .ok (.ireturn, 1) := by decide +kernel
theorem dX8_told_254 : decode cX8_told 254 = .ok (.ldc 113, 2) := by decide +kernel
theorem dX8_told_256 : decode cX8_told 256 = .ok (.ireturn, 1) := by decide +kernel
set_option maxRecDepth 20000 in
theorem ggX8_item_X6_hasItem : GoodIn wsX8_item wsX6_hasItem := goodIn_r _ [11, 12, 55, 56, 57, 58, 59, 60, 61, 62] (by decide +kernel) (by decide +kernel)
set_option maxRecDepth 20000 in
theorem gX8_item_X6_hasItem : GoodIn wsX8_item (wsV RX8 114 RX6 yX6_hasItem wsX6_hasItem) := goodIn_app (goodIn_of _ (by decide +kernel)) ggX8_item_X6_hasItem
set_option maxRecDepth 20000 in
theorem ggX8_item_X5_placeOf : GoodIn wsX8_item wsX5_placeOf := goodIn_r _ [17, 18, 19, 63, 64] (by decide +kernel) (by decide +kernel)
set_option maxRecDepth 20000 in
theorem gX8_item_X5_placeOf : GoodIn wsX8_item (wsV RX8 126 RX5 yX5_placeOf wsX5_placeOf) := goodIn_app (goodIn_of _ (by decide +kernel)) ggX8_item_X5_placeOf
set_option maxRecDepth 20000 in
theorem ggX8_item_X5_setAt : GoodIn wsX8_item wsX5_setAt := goodIn_r _ [23, 19, 24, 25, 26, 16, 27, 18, 63, 64] (by decide +kernel) (by decide +kernel)
set_option maxRecDepth 20000 in
theorem gX8_item_X5_setAt : GoodIn wsX8_item (wsV RX8 130 RX5 yX5_setAt wsX5_setAt) := goodIn_app (goodIn_of _ (by decide +kernel)) ggX8_item_X5_setAt
set_option maxRecDepth 20000 in
theorem ggX8_item_J6_bitCount_0f7a4 : GoodIn wsX8_item wsJ6_bitCount_0f7a4 := goodIn_r _ [31, 32, 33, 34] (by decide +kernel) (by decide +kernel)
set_option maxRecDepth 20000 in
theorem gX8_item_J6_bitCount_0f7a4 : GoodIn wsX8_item (va_wsS RX8 133 yJ6_bitCount_0f7a4 wsJ6_bitCount_0f7a4) := goodIn_app (goodIn_of _ (by decide +kernel)) ggX8_item_J6_bitCount_0f7a4
set_option maxRecDepth 20000 in
theorem ggX8_item_X6_hasLetter : GoodIn wsX8_item wsX6_hasLetter := goodIn_r _ [38, 39, 55, 56, 57, 58, 59, 60, 61, 62] (by decide +kernel) (by decide +kernel)
set_option maxRecDepth 20000 in
theorem gX8_item_X6_hasLetter : GoodIn wsX8_item (wsV RX8 138 RX6 yX6_hasLetter wsX6_hasLetter) := goodIn_app (goodIn_of _ (by decide +kernel)) ggX8_item_X6_hasLetter
set_option maxRecDepth 20000 in
theorem ggX8_item_X6_leadsTo : GoodIn wsX8_item wsX6_leadsTo := goodIn_r _ [43, 44, 45, 8, 9, 10, 11, 12, 46, 36, 37, 38, 39, 55, 56, 57, 58, 59, 60, 61, 62] (by decide +kernel) (by decide +kernel)
set_option maxRecDepth 20000 in
theorem gX8_item_X6_leadsTo : GoodIn wsX8_item (wsV RX8 141 RX6 yX6_leadsTo wsX6_leadsTo) := goodIn_app (goodIn_of _ (by decide +kernel)) ggX8_item_X6_leadsTo
theorem dX8_item_0 : decode cX8_item 0 = .ok (.aload_n 0, 1) := by decide +kernel
theorem dX8_item_1 : decode cX8_item 1 = .ok (.getfield 10, 3) := by decide +kernel
theorem dX8_item_4 : decode cX8_item 4 = .ok (.iload_n 1, 1) := by decide +kernel
theorem dX8_item_5 : decode cX8_item 5 = .ok (.invokevirtual 114, 3) := by decide +kernel
theorem dX8_item_8 : decode cX8_item 8 = .ok (.ifCond .ne 6, 3) := by decide +kernel
theorem dX8_item_11 : decode cX8_item 11 = .ok (.ldc 118, 2) := by decide +kernel
theorem dX8_item_13 : decode cX8_item 13 = .ok (.ireturn, 1) := by decide +kernel
theorem dX8_item_14 : decode cX8_item 14 = .ok (.iload_n 2, 1) := by decide +kernel
theorem dX8_item_15 : decode cX8_item 15 = .ok (.tableswitch 127 0 6 #[41, 51, 61, 73, 98, 98, 98], 41) := by decide +kernel
theorem dX8_item_56 : decode cX8_item 56 = .ok (.aload_n 0, 1) := by decide +kernel
theorem dX8_item_57 : decode cX8_item 57 = .ok (.getfield 10, 3) := by decide +kernel
theorem dX8_item_60 : decode cX8_item 60 = .ok (.getfield 119, 3) := by decide +kernel
theorem dX8_item_63 : decode cX8_item 63 = .ok (.iload_n 1, 1) := by decide +kernel
theorem dX8_item_64 : decode cX8_item 64 = .ok (.iaload, 1) := by decide +kernel
theorem dX8_item_65 : decode cX8_item 65 = .ok (.ireturn, 1) := by decide +kernel
theorem dX8_item_66 : decode cX8_item 66 = .ok (.aload_n 0, 1) := by decide +kernel
theorem dX8_item_67 : decode cX8_item 67 = .ok (.getfield 10, 3) := by decide +kernel
theorem dX8_item_70 : decode cX8_item 70 = .ok (.getfield 123, 3) := by decide +kernel
theorem dX8_item_73 : decode cX8_item 73 = .ok (.iload_n 1, 1) := by decide +kernel
theorem dX8_item_74 : decode cX8_item 74 = .ok (.iaload, 1) := by decide +kernel
theorem dX8_item_75 : decode cX8_item 75 = .ok (.ireturn, 1) := by decide +kernel
theorem dX8_item_76 : decode cX8_item 76 = .ok (.aload_n 0, 1) := by decide +kernel
theorem dX8_item_77 : decode cX8_item 77 = .ok (.getfield 10, 3) := by decide +kernel
theorem dX8_item_80 : decode cX8_item 80 = .ok (.getfield 69, 3) := by decide +kernel
theorem dX8_item_83 : decode cX8_item 83 = .ok (.iload_n 1, 1) := by decide +kernel
theorem dX8_item_84 : decode cX8_item 84 = .ok (.invokevirtual 126, 3) := by decide +kernel
theorem dX8_item_87 : decode cX8_item 87 = .ok (.ireturn, 1) := by decide +kernel
theorem dX8_item_88 : decode cX8_item 88 = .ok (.aload_n 0, 1) := by decide +kernel
theorem dX8_item_89 : decode cX8_item 89 = .ok (.getfield 10, 3) := by decide +kernel
theorem dX8_item_92 : decode cX8_item 92 = .ok (.getfield 69, 3) := by decide +kernel
theorem dX8_item_95 : decode cX8_item 95 = .ok (.aload_n 0, 1) := by decide +kernel
theorem dX8_item_96 : decode cX8_item 96 = .ok (.getfield 10, 3) := by decide +kernel
theorem dX8_item_99 : decode cX8_item 99 = .ok (.getfield 69, 3) := by decide +kernel
theorem dX8_item_102 : decode cX8_item 102 = .ok (.iload_n 1, 1) := by decide +kernel
theorem dX8_item_103 : decode cX8_item 103 = .ok (.invokevirtual 126, 3) := by decide +kernel
theorem dX8_item_106 : decode cX8_item 106 = .ok (.invokevirtual 130, 3) := by decide +kernel
theorem dX8_item_109 : decode cX8_item 109 = .ok (.invokestatic 133, 3) := by decide +kernel
theorem dX8_item_112 : decode cX8_item 112 = .ok (.ireturn, 1) := by decide +kernel
theorem dX8_item_113 : decode cX8_item 113 = .ok (.aload_n 0, 1) := by decide +kernel
theorem dX8_item_114 : decode cX8_item 114 = .ok (.getfield 10, 3) := by decide +kernel
theorem dX8_item_117 : decode cX8_item 117 = .ok (.iload_n 2, 1) := by decide +kernel
theorem dX8_item_118 : decode cX8_item 118 = .ok (.iconst 4, 1) := by decide +kernel
theorem dX8_item_119 : decode cX8_item 119 = .ok (.isub, 1) := by decide +kernel
theorem dX8_item_120 : decode cX8_item 120 = .ok (.invokevirtual 138, 3) := by decide +kernel
theorem dX8_item_123 : decode cX8_item 123 = .ok (.ifCond .eq 17, 3) := by decide +kernel
theorem dX8_item_126 : decode cX8_item 126 = .ok (.aload_n 0, 1) := by decide +kernel
theorem dX8_item_127 : decode cX8_item 127 = .ok (.getfield 10, 3) := by decide +kernel
theorem dX8_item_130 : decode cX8_item 130 = .ok (.iload_n 1, 1) := by decide +kernel
theorem dX8_item_131 : decode cX8_item 131 = .ok (.iload_n 2, 1) := by decide +kernel
theorem dX8_item_132 : decode cX8_item 132 = .ok (.iconst 4, 1) := by decide +kernel
theorem dX8_item_133 : decode cX8_item 133 = .ok (.isub, 1) := by decide +kernel
theorem dX8_item_134 : decode cX8_item 134 = .ok (.invokevirtual 141, 3) := by decide +kernel
theorem dX8_item_137 : decode cX8_item 137 = .ok (.goto 4, 3) := by decide +kernel
theorem dX8_item_140 : decode cX8_item 140 = .ok (.iconst (-1), 1) := by decide +kernel
theorem dX8_item_141 : decode cX8_item 141 = .ok (.ireturn, 1) := by decide +kernel
theorem dX8_item_142 : decode cX8_item 142 = .ok (.ldc 113, 2) := by decide +kernel
theorem dX8_item_144 : decode cX8_item 144 = .ok (.ireturn, 1) := by decide +kernel
set_option maxRecDepth 20000 in
theorem ggX8_classAt_X5_hasPlace : GoodIn wsX8_classAt wsX5_hasPlace := goodIn_r _ [8, 9, 32, 33] (by decide +kernel) (by decide +kernel)
set_option maxRecDepth 20000 in
theorem gX8_classAt_X5_hasPlace : GoodIn wsX8_classAt (wsV RX8 145 RX5 yX5_hasPlace wsX5_hasPlace) := goodIn_app (goodIn_of _ (by decide +kernel)) ggX8_classAt_X5_hasPlace
set_option maxRecDepth 20000 in
theorem ggX8_classAt_X5_setAt : GoodIn wsX8_classAt wsX5_setAt := goodIn_r _ [13, 14, 15, 5, 6, 7, 8, 9, 32, 33] (by decide +kernel) (by decide +kernel)
set_option maxRecDepth 20000 in
theorem gX8_classAt_X5_setAt : GoodIn wsX8_classAt (wsV RX8 130 RX5 yX5_setAt wsX5_setAt) := goodIn_app (goodIn_of _ (by decide +kernel)) ggX8_classAt_X5_setAt
theorem dX8_classAt_0 : decode cX8_classAt 0 = .ok (.aload_n 0, 1) := by decide +kernel
theorem dX8_classAt_1 : decode cX8_classAt 1 = .ok (.getfield 10, 3) := by decide +kernel
theorem dX8_classAt_4 : decode cX8_classAt 4 = .ok (.getfield 69, 3) := by decide +kernel
theorem dX8_classAt_7 : decode cX8_classAt 7 = .ok (.iload_n 1, 1) := by decide +kernel
theorem dX8_classAt_8 : decode cX8_classAt 8 = .ok (.invokevirtual 145, 3) := by decide +kernel
theorem dX8_classAt_11 : decode cX8_classAt 11 = .ok (.ifCond .eq 17, 3) := by decide +kernel
theorem dX8_classAt_14 : decode cX8_classAt 14 = .ok (.aload_n 0, 1) := by decide +kernel
theorem dX8_classAt_15 : decode cX8_classAt 15 = .ok (.getfield 10, 3) := by decide +kernel
theorem dX8_classAt_18 : decode cX8_classAt 18 = .ok (.getfield 69, 3) := by decide +kernel
theorem dX8_classAt_21 : decode cX8_classAt 21 = .ok (.iload_n 1, 1) := by decide +kernel
theorem dX8_classAt_22 : decode cX8_classAt 22 = .ok (.invokevirtual 130, 3) := by decide +kernel
theorem dX8_classAt_25 : decode cX8_classAt 25 = .ok (.goto 5, 3) := by decide +kernel
theorem dX8_classAt_28 : decode cX8_classAt 28 = .ok (.ldc 118, 2) := by decide +kernel
theorem dX8_classAt_30 : decode cX8_classAt 30 = .ok (.ireturn, 1) := by decide +kernel
set_option maxRecDepth 20000 in
theorem ggX8_setBy_X8_refusalOfSet : GoodIn wsX8_setBy wsX8_refusalOfSet := goodIn_r _ [7, 1, 8, 2, 9, 10, 11, 12, 13, 14, 15, 16, 17, 18, 19, 20, 21, 22, 23, 24, 25, 26, 66, 67, 68, 69, 70, 71, 72, 73, 74, 75, 76, 77, 78, 79, 80, 81, 82, 83] (by decide +kernel) (by decide +kernel)
set_option maxRecDepth 20000 in
theorem gX8_setBy_X8_refusalOfSet : GoodIn wsX8_setBy (wsV RX8 148 RX8 yX8_refusalOfSet wsX8_refusalOfSet) := goodIn_app (goodIn_of _ (by decide +kernel)) ggX8_setBy_X8_refusalOfSet
set_option maxRecDepth 20000 in
theorem ggX8_setBy_X6_setOfKind : GoodIn wsX8_setBy wsX6_setOfKind := goodIn_r _ [30, 31, 32, 33, 11, 12, 13, 14, 15, 34, 35, 36, 37, 38, 39, 40, 41, 24, 42, 43, 44, 22, 23, 25, 26, 45, 46, 47, 48, 49, 50, 51, 52, 53, 54, 17, 18, 19, 20, 55, 56, 57, 58, 59, 60, 61, 62, 63, 64, 65, 74, 75, 76, 77, 78, 79, 80, 81, 82, 83] (by decide +kernel) (by decide +kernel)
set_option maxRecDepth 20000 in
theorem gX8_setBy_X6_setOfKind : GoodIn wsX8_setBy (wsV RX8 152 RX6 yX6_setOfKind wsX6_setOfKind) := goodIn_app (goodIn_of _ (by decide +kernel)) ggX8_setBy_X6_setOfKind
theorem dX8_setBy_0 : decode cX8_setBy 0 = .ok (.aload_n 0, 1) := by decide +kernel
theorem dX8_setBy_1 : decode cX8_setBy 1 = .ok (.iload_n 1, 1) := by decide +kernel
theorem dX8_setBy_2 : decode cX8_setBy 2 = .ok (.iload_n 2, 1) := by decide +kernel
theorem dX8_setBy_3 : decode cX8_setBy 3 = .ok (.iload_n 3, 1) := by decide +kernel
theorem dX8_setBy_4 : decode cX8_setBy 4 = .ok (.invokevirtual 148, 3) := by decide +kernel
theorem dX8_setBy_7 : decode cX8_setBy 7 = .ok (.istore 4, 2) := by decide +kernel
theorem dX8_setBy_9 : decode cX8_setBy 9 = .ok (.iload 4, 2) := by decide +kernel
theorem dX8_setBy_11 : decode cX8_setBy 11 = .ok (.iconst (-1), 1) := by decide +kernel
theorem dX8_setBy_12 : decode cX8_setBy 12 = .ok (.if_icmp .eq 8, 3) := by decide +kernel
theorem dX8_setBy_15 : decode cX8_setBy 15 = .ok (.iload 4, 2) := by decide +kernel
theorem dX8_setBy_17 : decode cX8_setBy 17 = .ok (.goto 20, 3) := by decide +kernel
theorem dX8_setBy_20 : decode cX8_setBy 20 = .ok (.aload_n 0, 1) := by decide +kernel
theorem dX8_setBy_21 : decode cX8_setBy 21 = .ok (.getfield 10, 3) := by decide +kernel
theorem dX8_setBy_24 : decode cX8_setBy 24 = .ok (.aload_n 0, 1) := by decide +kernel
theorem dX8_setBy_25 : decode cX8_setBy 25 = .ok (.getfield 10, 3) := by decide +kernel
theorem dX8_setBy_28 : decode cX8_setBy 28 = .ok (.getfield 69, 3) := by decide +kernel
theorem dX8_setBy_31 : decode cX8_setBy 31 = .ok (.iload_n 1, 1) := by decide +kernel
theorem dX8_setBy_32 : decode cX8_setBy 32 = .ok (.iload_n 2, 1) := by decide +kernel
theorem dX8_setBy_33 : decode cX8_setBy 33 = .ok (.iload_n 3, 1) := by decide +kernel
theorem dX8_setBy_34 : decode cX8_setBy 34 = .ok (.invokevirtual 152, 3) := by decide +kernel
theorem dX8_setBy_37 : decode cX8_setBy 37 = .ok (.ireturn, 1) := by decide +kernel
set_option maxRecDepth 20000 in
theorem ggX8_alike_X6_hasItem : GoodIn wsX8_alike wsX6_hasItem := goodIn_r _ [9, 10, 145, 146, 147, 148, 149, 150, 151, 152] (by decide +kernel) (by decide +kernel)
set_option maxRecDepth 20000 in
theorem gX8_alike_X6_hasItem : GoodIn wsX8_alike (wsV RX8 114 RX6 yX6_hasItem wsX6_hasItem) := goodIn_app (goodIn_of _ (by decide +kernel)) ggX8_alike_X6_hasItem
set_option maxRecDepth 20000 in
theorem ggX8_alike_X8_isRefinedKind : GoodIn wsX8_alike wsX8_isRefinedKind := goodIn_r _ [14] (by decide +kernel) (by decide +kernel)
set_option maxRecDepth 20000 in
theorem gX8_alike_X8_isRefinedKind : GoodIn wsX8_alike (va_wsS RX8 156 yX8_isRefinedKind wsX8_isRefinedKind) := goodIn_app (goodIn_of _ (by decide +kernel)) ggX8_alike_X8_isRefinedKind
set_option maxRecDepth 20000 in
theorem ggX8_alike_X8_refineAside : GoodIn wsX8_alike wsX8_refineAside := goodIn_r _ [18, 4, 1, 19, 20, 21, 22, 8, 23, 10, 24, 25, 26, 27, 28, 29, 30, 31, 32, 33, 34, 35, 36, 37, 38, 39, 40, 41, 42, 43, 44, 45, 46, 47, 48, 49, 50, 51, 52, 53, 54, 55, 56, 57, 58, 59, 60, 61, 62, 63, 64, 65, 66, 67, 68, 69, 70, 71, 72, 73, 74, 75, 76, 77, 78, 79, 80, 81, 6, 7, 9, 82, 83, 84, 85, 86, 87, 88, 89, 90, 91, 92, 93, 94, 95, 96, 97, 98, 99, 100, 101, 102, 103, 104, 105, 106, 107, 108, 109, 110, 111, 112, 113, 114, 115, 116, 117, 118, 119, 120, 121, 122, 123, 124, 125, 126, 127, 128, 129, 130, 131, 132, 137, 138, 139, 140, 141, 142, 143, 144, 145, 146, 147, 148, 149, 150, 151, 152, 153, 154, 155] (by decide +kernel) (by decide +kernel)
set_option maxRecDepth 20000 in
theorem gX8_alike_X8_refineAside : GoodIn wsX8_alike (wsV RX8 88 RX8 yX8_refineAside wsX8_refineAside) := goodIn_app (goodIn_of _ (by decide +kernel)) ggX8_alike_X8_refineAside
set_option maxRecDepth 20000 in
theorem ggX8_alike_X5_placeOf : GoodIn wsX8_alike wsX5_placeOf := goodIn_r _ [136, 30, 29, 153, 154] (by decide +kernel) (by decide +kernel)
set_option maxRecDepth 20000 in
theorem gX8_alike_X5_placeOf : GoodIn wsX8_alike (wsV RX8 126 RX5 yX5_placeOf wsX5_placeOf) := goodIn_app (goodIn_of _ (by decide +kernel)) ggX8_alike_X5_placeOf
theorem dX8_alike_0 : decode cX8_alike 0 = .ok (.aload_n 0, 1) := by decide +kernel
theorem dX8_alike_1 : decode cX8_alike 1 = .ok (.getfield 10, 3) := by decide +kernel
theorem dX8_alike_4 : decode cX8_alike 4 = .ok (.iload_n 1, 1) := by decide +kernel
theorem dX8_alike_5 : decode cX8_alike 5 = .ok (.invokevirtual 114, 3) := by decide +kernel
theorem dX8_alike_8 : decode cX8_alike 8 = .ok (.ifCond .eq 14, 3) := by decide +kernel
theorem dX8_alike_11 : decode cX8_alike 11 = .ok (.aload_n 0, 1) := by decide +kernel
theorem dX8_alike_12 : decode cX8_alike 12 = .ok (.getfield 10, 3) := by decide +kernel
theorem dX8_alike_15 : decode cX8_alike 15 = .ok (.iload_n 2, 1) := by decide +kernel
theorem dX8_alike_16 : decode cX8_alike 16 = .ok (.invokevirtual 114, 3) := by decide +kernel
theorem dX8_alike_19 : decode cX8_alike 19 = .ok (.ifCond .ne 6, 3) := by decide +kernel
theorem dX8_alike_22 : decode cX8_alike 22 = .ok (.ldc 118, 2) := by decide +kernel
theorem dX8_alike_24 : decode cX8_alike 24 = .ok (.ireturn, 1) := by decide +kernel
theorem dX8_alike_25 : decode cX8_alike 25 = .ok (.iload_n 3, 1) := by decide +kernel
theorem dX8_alike_26 : decode cX8_alike 26 = .ok (.invokestatic 156, 3) := by decide +kernel
theorem dX8_alike_29 : decode cX8_alike 29 = .ok (.ifCond .ne 6, 3) := by decide +kernel
theorem dX8_alike_32 : decode cX8_alike 32 = .ok (.ldc 113, 2) := by decide +kernel
theorem dX8_alike_34 : decode cX8_alike 34 = .ok (.ireturn, 1) := by decide +kernel
theorem dX8_alike_35 : decode cX8_alike 35 = .ok (.aload_n 0, 1) := by decide +kernel
theorem dX8_alike_36 : decode cX8_alike 36 = .ok (.iload_n 3, 1) := by decide +kernel
theorem dX8_alike_37 : decode cX8_alike 37 = .ok (.invokevirtual 88, 3) := by decide +kernel
theorem dX8_alike_40 : decode cX8_alike 40 = .ok (.aload_n 0, 1) := by decide +kernel
theorem dX8_alike_41 : decode cX8_alike 41 = .ok (.getfield 54, 3) := by decide +kernel
theorem dX8_alike_44 : decode cX8_alike 44 = .ok (.iload_n 1, 1) := by decide +kernel
theorem dX8_alike_45 : decode cX8_alike 45 = .ok (.invokevirtual 126, 3) := by decide +kernel
theorem dX8_alike_48 : decode cX8_alike 48 = .ok (.aload_n 0, 1) := by decide +kernel
theorem dX8_alike_49 : decode cX8_alike 49 = .ok (.getfield 54, 3) := by decide +kernel
theorem dX8_alike_52 : decode cX8_alike 52 = .ok (.iload_n 2, 1) := by decide +kernel
theorem dX8_alike_53 : decode cX8_alike 53 = .ok (.invokevirtual 126, 3) := by decide +kernel
theorem dX8_alike_56 : decode cX8_alike 56 = .ok (.if_icmp .ne 7, 3) := by decide +kernel
theorem dX8_alike_59 : decode cX8_alike 59 = .ok (.iconst 1, 1) := by decide +kernel
theorem dX8_alike_60 : decode cX8_alike 60 = .ok (.goto 4, 3) := by decide +kernel
theorem dX8_alike_63 : decode cX8_alike 63 = .ok (.iconst 0, 1) := by decide +kernel
theorem dX8_alike_64 : decode cX8_alike 64 = .ok (.ireturn, 1) := by decide +kernel
set_option maxRecDepth 20000 in
theorem ggX8_apart_X6_hasItem : GoodIn wsX8_apart wsX6_hasItem := goodIn_r _ [9, 10, 86, 87, 88, 89, 90, 91, 92, 93] (by decide +kernel) (by decide +kernel)
set_option maxRecDepth 20000 in
theorem gX8_apart_X6_hasItem : GoodIn wsX8_apart (wsV RX8 114 RX6 yX6_hasItem wsX6_hasItem) := goodIn_app (goodIn_of _ (by decide +kernel)) ggX8_apart_X6_hasItem
set_option maxRecDepth 20000 in
theorem ggX8_apart_X4_shortestWordApart : GoodIn wsX8_apart wsX4_shortestWordApart := goodIn_r _ [15, 16, 17, 18, 19, 20, 21, 8, 22, 10, 23, 24, 25, 26, 27, 28, 29, 30, 31, 32, 33, 34, 35, 36, 37, 38, 39, 40, 41, 42, 43, 44, 45, 46, 47, 48, 49, 50, 51, 52, 14, 53, 54, 55, 56, 57, 58, 59, 60, 61, 62, 63, 64, 65, 66, 67, 68, 69, 70, 71, 72, 6, 7, 9, 73, 74, 75, 76, 77, 86, 87, 88, 89, 90, 91, 92, 93, 94, 95, 96] (by decide +kernel) (by decide +kernel)
set_option maxRecDepth 20000 in
theorem gX8_apart_X4_shortestWordApart : GoodIn wsX8_apart (wsV RX8 159 RX4 yX4_shortestWordApart wsX4_shortestWordApart) := goodIn_app (goodIn_of _ (by decide +kernel)) ggX8_apart_X4_shortestWordApart
theorem dX8_apart_0 : decode cX8_apart 0 = .ok (.aload_n 0, 1) := by decide +kernel
theorem dX8_apart_1 : decode cX8_apart 1 = .ok (.getfield 10, 3) := by decide +kernel
theorem dX8_apart_4 : decode cX8_apart 4 = .ok (.iload_n 1, 1) := by decide +kernel
theorem dX8_apart_5 : decode cX8_apart 5 = .ok (.invokevirtual 114, 3) := by decide +kernel
theorem dX8_apart_8 : decode cX8_apart 8 = .ok (.ifCond .eq 14, 3) := by decide +kernel
theorem dX8_apart_11 : decode cX8_apart 11 = .ok (.aload_n 0, 1) := by decide +kernel
theorem dX8_apart_12 : decode cX8_apart 12 = .ok (.getfield 10, 3) := by decide +kernel
theorem dX8_apart_15 : decode cX8_apart 15 = .ok (.iload_n 2, 1) := by decide +kernel
theorem dX8_apart_16 : decode cX8_apart 16 = .ok (.invokevirtual 114, 3) := by decide +kernel
theorem dX8_apart_19 : decode cX8_apart 19 = .ok (.ifCond .ne 6, 3) := by decide +kernel
theorem dX8_apart_22 : decode cX8_apart 22 = .ok (.ldc 118, 2) := by decide +kernel
theorem dX8_apart_24 : decode cX8_apart 24 = .ok (.ireturn, 1) := by decide +kernel
theorem dX8_apart_25 : decode cX8_apart 25 = .ok (.aload_n 0, 1) := by decide +kernel
theorem dX8_apart_26 : decode cX8_apart 26 = .ok (.getfield 40, 3) := by decide +kernel
theorem dX8_apart_29 : decode cX8_apart 29 = .ok (.aload_n 0, 1) := by decide +kernel
theorem dX8_apart_30 : decode cX8_apart 30 = .ok (.getfield 10, 3) := by decide +kernel
theorem dX8_apart_33 : decode cX8_apart 33 = .ok (.aload_n 0, 1) := by decide +kernel
theorem dX8_apart_34 : decode cX8_apart 34 = .ok (.getfield 54, 3) := by decide +kernel
theorem dX8_apart_37 : decode cX8_apart 37 = .ok (.iload_n 1, 1) := by decide +kernel
theorem dX8_apart_38 : decode cX8_apart 38 = .ok (.iload_n 2, 1) := by decide +kernel
theorem dX8_apart_39 : decode cX8_apart 39 = .ok (.invokevirtual 159, 3) := by decide +kernel
theorem dX8_apart_42 : decode cX8_apart 42 = .ok (.ireturn, 1) := by decide +kernel
set_option maxRecDepth 20000 in
theorem ggX8_search_X6_hasItem : GoodIn wsX8_search wsX6_hasItem := goodIn_r _ [9, 10, 68, 69, 70, 71, 72, 73, 74, 75] (by decide +kernel) (by decide +kernel)
set_option maxRecDepth 20000 in
theorem gX8_search_X6_hasItem : GoodIn wsX8_search (wsV RX8 114 RX6 yX6_hasItem wsX6_hasItem) := goodIn_app (goodIn_of _ (by decide +kernel)) ggX8_search_X6_hasItem
set_option maxRecDepth 20000 in
theorem ggX8_search_X7_walkFrom : GoodIn wsX8_search wsX7_walkFrom := goodIn_r _ [15, 16, 17, 18, 19, 20, 21, 22, 23, 8, 24, 10, 25, 26, 27, 28, 29, 30, 31, 32, 33, 34, 35, 36, 37, 38, 39, 40, 41, 42, 43, 44, 45, 46, 47, 48, 49, 50, 51, 52, 53, 54, 55, 56, 6, 7, 9, 65, 66, 67, 68, 69, 70, 71, 72, 73, 74, 75, 76, 77] (by decide +kernel) (by decide +kernel)
set_option maxRecDepth 20000 in
theorem gX8_search_X7_walkFrom : GoodIn wsX8_search (wsV RX8 92 RX7 yX7_walkFrom wsX7_walkFrom) := goodIn_app (goodIn_of _ (by decide +kernel)) ggX8_search_X7_walkFrom
theorem dX8_search_0 : decode cX8_search 0 = .ok (.aload_n 0, 1) := by decide +kernel
theorem dX8_search_1 : decode cX8_search 1 = .ok (.getfield 10, 3) := by decide +kernel
theorem dX8_search_4 : decode cX8_search 4 = .ok (.iload_n 1, 1) := by decide +kernel
theorem dX8_search_5 : decode cX8_search 5 = .ok (.invokevirtual 114, 3) := by decide +kernel
theorem dX8_search_8 : decode cX8_search 8 = .ok (.ifCond .eq 14, 3) := by decide +kernel
theorem dX8_search_11 : decode cX8_search 11 = .ok (.aload_n 0, 1) := by decide +kernel
theorem dX8_search_12 : decode cX8_search 12 = .ok (.getfield 10, 3) := by decide +kernel
theorem dX8_search_15 : decode cX8_search 15 = .ok (.iload_n 2, 1) := by decide +kernel
theorem dX8_search_16 : decode cX8_search 16 = .ok (.invokevirtual 114, 3) := by decide +kernel
theorem dX8_search_19 : decode cX8_search 19 = .ok (.ifCond .ne 6, 3) := by decide +kernel
theorem dX8_search_22 : decode cX8_search 22 = .ok (.ldc 118, 2) := by decide +kernel
theorem dX8_search_24 : decode cX8_search 24 = .ok (.ireturn, 1) := by decide +kernel
theorem dX8_search_25 : decode cX8_search 25 = .ok (.aload_n 0, 1) := by decide +kernel
theorem dX8_search_26 : decode cX8_search 26 = .ok (.getfield 47, 3) := by decide +kernel
theorem dX8_search_29 : decode cX8_search 29 = .ok (.aload_n 0, 1) := by decide +kernel
theorem dX8_search_30 : decode cX8_search 30 = .ok (.getfield 10, 3) := by decide +kernel
theorem dX8_search_33 : decode cX8_search 33 = .ok (.iload_n 1, 1) := by decide +kernel
theorem dX8_search_34 : decode cX8_search 34 = .ok (.invokevirtual 92, 3) := by decide +kernel
theorem dX8_search_37 : decode cX8_search 37 = .ok (.aload_n 0, 1) := by decide +kernel
theorem dX8_search_38 : decode cX8_search 38 = .ok (.getfield 47, 3) := by decide +kernel
theorem dX8_search_41 : decode cX8_search 41 = .ok (.getfield 163, 3) := by decide +kernel
theorem dX8_search_44 : decode cX8_search 44 = .ok (.iload_n 2, 1) := by decide +kernel
theorem dX8_search_45 : decode cX8_search 45 = .ok (.iaload, 1) := by decide +kernel
theorem dX8_search_46 : decode cX8_search 46 = .ok (.ireturn, 1) := by decide +kernel
set_option maxRecDepth 20000 in
theorem ggX8_items_X2_remember : GoodIn wsX8_items wsX2_remember := goodIn_r _ [9, 10, 11, 12, 13, 14, 15, 16, 17, 18, 19, 20, 21, 22, 23, 24, 25, 26, 27, 28, 29, 30, 31, 32, 33, 34, 35, 36, 37, 38, 39, 40, 41, 90, 91, 92, 82, 83, 84, 85, 86, 87, 88, 89, 93, 94] (by decide +kernel) (by decide +kernel)
set_option maxRecDepth 20000 in
theorem gX8_items_X2_remember : GoodIn wsX8_items (wsV RX8 166 RX2 yX2_remember wsX2_remember) := goodIn_app (goodIn_of _ (by decide +kernel)) ggX8_items_X2_remember
set_option maxRecDepth 20000 in
theorem ggX8_items_X6_startWith : GoodIn wsX8_items wsX6_startWith := goodIn_r _ [45, 22, 26, 31, 23, 24, 33, 25, 46, 47, 48, 49, 50, 51, 52, 20, 53, 54, 55, 56, 57, 32, 58, 59, 60, 61, 62, 63, 64, 65, 66, 67, 68, 69, 70, 71, 72, 37, 73, 39, 41, 82, 83, 84, 85, 86, 87, 88, 89, 93, 94] (by decide +kernel) (by decide +kernel)
set_option maxRecDepth 20000 in
theorem gX8_items_X6_startWith : GoodIn wsX8_items (wsV RX8 170 RX6 yX6_startWith wsX6_startWith) := goodIn_app (goodIn_of _ (by decide +kernel)) ggX8_items_X6_startWith
theorem dX8_items_0 : decode cX8_items 0 = .ok (.iload_n 1, 1) := by decide +kernel
theorem dX8_items_1 : decode cX8_items 1 = .ok (.iconst 1, 1) := by decide +kernel
theorem dX8_items_2 : decode cX8_items 2 = .ok (.if_icmp .lt 9, 3) := by decide +kernel
theorem dX8_items_5 : decode cX8_items 5 = .ok (.iload_n 1, 1) := by decide +kernel
theorem dX8_items_6 : decode cX8_items 6 = .ok (.bipush 12, 2) := by decide +kernel
theorem dX8_items_8 : decode cX8_items 8 = .ok (.if_icmp .le 6, 3) := by decide +kernel
theorem dX8_items_11 : decode cX8_items 11 = .ok (.ldc 113, 2) := by decide +kernel
theorem dX8_items_13 : decode cX8_items 13 = .ok (.ireturn, 1) := by decide +kernel
theorem dX8_items_14 : decode cX8_items 14 = .ok (.aload_n 0, 1) := by decide +kernel
theorem dX8_items_15 : decode cX8_items 15 = .ok (.getfield 10, 3) := by decide +kernel
theorem dX8_items_18 : decode cX8_items 18 = .ok (.getfield 65, 3) := by decide +kernel
theorem dX8_items_21 : decode cX8_items 21 = .ok (.istore_n 2, 1) := by decide +kernel
theorem dX8_items_22 : decode cX8_items 22 = .ok (.aload_n 0, 1) := by decide +kernel
theorem dX8_items_23 : decode cX8_items 23 = .ok (.getfield 19, 3) := by decide +kernel
theorem dX8_items_26 : decode cX8_items 26 = .ok (.aload_n 0, 1) := by decide +kernel
theorem dX8_items_27 : decode cX8_items 27 = .ok (.getfield 10, 3) := by decide +kernel
theorem dX8_items_30 : decode cX8_items 30 = .ok (.invokevirtual 166, 3) := by decide +kernel
theorem dX8_items_33 : decode cX8_items 33 = .ok (.aload_n 0, 1) := by decide +kernel
theorem dX8_items_34 : decode cX8_items 34 = .ok (.getfield 10, 3) := by decide +kernel
theorem dX8_items_37 : decode cX8_items 37 = .ok (.iload_n 1, 1) := by decide +kernel
theorem dX8_items_38 : decode cX8_items 38 = .ok (.invokevirtual 170, 3) := by decide +kernel
theorem dX8_items_41 : decode cX8_items 41 = .ok (.iload_n 2, 1) := by decide +kernel
theorem dX8_items_42 : decode cX8_items 42 = .ok (.ireturn, 1) := by decide +kernel
set_option maxRecDepth 20000 in
theorem ggX8_edge_X6_hasItem : GoodIn wsX8_edge wsX6_hasItem := goodIn_r _ [9, 10, 74, 75, 76, 77, 78, 79, 80, 81] (by decide +kernel) (by decide +kernel)
set_option maxRecDepth 20000 in
theorem gX8_edge_X6_hasItem : GoodIn wsX8_edge (wsV RX8 114 RX6 yX6_hasItem wsX6_hasItem) := goodIn_app (goodIn_of _ (by decide +kernel)) ggX8_edge_X6_hasItem
set_option maxRecDepth 20000 in
theorem ggX8_edge_X2_remember : GoodIn wsX8_edge wsX2_remember := goodIn_r _ [15, 16, 17, 18, 19, 20, 21, 22, 23, 24, 25, 8, 26, 10, 27, 28, 29, 30, 31, 32, 33, 34, 35, 36, 37, 38, 39, 40, 41, 42, 43, 44, 45, 82, 83, 84, 74, 75, 76, 77, 78, 79, 80, 81, 85, 86] (by decide +kernel) (by decide +kernel)
set_option maxRecDepth 20000 in
theorem gX8_edge_X2_remember : GoodIn wsX8_edge (wsV RX8 166 RX2 yX2_remember wsX2_remember) := goodIn_app (goodIn_of _ (by decide +kernel)) ggX8_edge_X2_remember
set_option maxRecDepth 20000 in
theorem ggX8_edge_X6_isEdge : GoodIn wsX8_edge wsX6_isEdge := goodIn_r _ [49, 35, 50, 6, 7, 8, 9, 10, 74, 75, 76, 77, 78, 79, 80, 81] (by decide +kernel) (by decide +kernel)
set_option maxRecDepth 20000 in
theorem gX8_edge_X6_isEdge : GoodIn wsX8_edge (wsV RX8 173 RX6 yX6_isEdge wsX6_isEdge) := goodIn_app (goodIn_of _ (by decide +kernel)) ggX8_edge_X6_isEdge
set_option maxRecDepth 20000 in
theorem ggX8_edge_X6_flipEdge : GoodIn wsX8_edge wsX6_flipEdge := goodIn_r _ [54, 35, 50, 6, 7, 8, 9, 10, 74, 75, 76, 77, 78, 79, 80, 81] (by decide +kernel) (by decide +kernel)
set_option maxRecDepth 20000 in
theorem gX8_edge_X6_flipEdge : GoodIn wsX8_edge (wsV RX8 177 RX6 yX6_flipEdge wsX6_flipEdge) := goodIn_app (goodIn_of _ (by decide +kernel)) ggX8_edge_X6_flipEdge
set_option maxRecDepth 20000 in
theorem ggX8_edge_X6_edgeCount : GoodIn wsX8_edge wsX6_edgeCount := goodIn_r _ [58, 10, 35, 59, 60, 61, 62, 63, 64, 65, 74, 75, 76, 77, 78, 79, 80, 81] (by decide +kernel) (by decide +kernel)
set_option maxRecDepth 20000 in
theorem gX8_edge_X6_edgeCount : GoodIn wsX8_edge (wsV RX8 78 RX6 yX6_edgeCount wsX6_edgeCount) := goodIn_app (goodIn_of _ (by decide +kernel)) ggX8_edge_X6_edgeCount
theorem dX8_edge_0 : decode cX8_edge 0 = .ok (.aload_n 0, 1) := by decide +kernel
theorem dX8_edge_1 : decode cX8_edge 1 = .ok (.getfield 10, 3) := by decide +kernel
theorem dX8_edge_4 : decode cX8_edge 4 = .ok (.iload_n 1, 1) := by decide +kernel
theorem dX8_edge_5 : decode cX8_edge 5 = .ok (.invokevirtual 114, 3) := by decide +kernel
theorem dX8_edge_8 : decode cX8_edge 8 = .ok (.ifCond .eq 19, 3) := by decide +kernel
theorem dX8_edge_11 : decode cX8_edge 11 = .ok (.aload_n 0, 1) := by decide +kernel
theorem dX8_edge_12 : decode cX8_edge 12 = .ok (.getfield 10, 3) := by decide +kernel
theorem dX8_edge_15 : decode cX8_edge 15 = .ok (.iload_n 2, 1) := by decide +kernel
theorem dX8_edge_16 : decode cX8_edge 16 = .ok (.invokevirtual 114, 3) := by decide +kernel
theorem dX8_edge_19 : decode cX8_edge 19 = .ok (.ifCond .eq 8, 3) := by decide +kernel
theorem dX8_edge_22 : decode cX8_edge 22 = .ok (.iload_n 1, 1) := by decide +kernel
theorem dX8_edge_23 : decode cX8_edge 23 = .ok (.iload_n 2, 1) := by decide +kernel
theorem dX8_edge_24 : decode cX8_edge 24 = .ok (.if_icmp .ne 6, 3) := by decide +kernel
theorem dX8_edge_27 : decode cX8_edge 27 = .ok (.ldc 118, 2) := by decide +kernel
theorem dX8_edge_29 : decode cX8_edge 29 = .ok (.ireturn, 1) := by decide +kernel
theorem dX8_edge_30 : decode cX8_edge 30 = .ok (.iload_n 3, 1) := by decide +kernel
theorem dX8_edge_31 : decode cX8_edge 31 = .ok (.ifCond .eq 11, 3) := by decide +kernel
theorem dX8_edge_34 : decode cX8_edge 34 = .ok (.iload_n 3, 1) := by decide +kernel
theorem dX8_edge_35 : decode cX8_edge 35 = .ok (.iconst 1, 1) := by decide +kernel
theorem dX8_edge_36 : decode cX8_edge 36 = .ok (.if_icmp .eq 6, 3) := by decide +kernel
theorem dX8_edge_39 : decode cX8_edge 39 = .ok (.ldc 113, 2) := by decide +kernel
theorem dX8_edge_41 : decode cX8_edge 41 = .ok (.ireturn, 1) := by decide +kernel
theorem dX8_edge_42 : decode cX8_edge 42 = .ok (.aload_n 0, 1) := by decide +kernel
theorem dX8_edge_43 : decode cX8_edge 43 = .ok (.getfield 19, 3) := by decide +kernel
theorem dX8_edge_46 : decode cX8_edge 46 = .ok (.aload_n 0, 1) := by decide +kernel
theorem dX8_edge_47 : decode cX8_edge 47 = .ok (.getfield 10, 3) := by decide +kernel
theorem dX8_edge_50 : decode cX8_edge 50 = .ok (.invokevirtual 166, 3) := by decide +kernel
theorem dX8_edge_53 : decode cX8_edge 53 = .ok (.aload_n 0, 1) := by decide +kernel
theorem dX8_edge_54 : decode cX8_edge 54 = .ok (.getfield 10, 3) := by decide +kernel
theorem dX8_edge_57 : decode cX8_edge 57 = .ok (.iload_n 1, 1) := by decide +kernel
theorem dX8_edge_58 : decode cX8_edge 58 = .ok (.iload_n 2, 1) := by decide +kernel
theorem dX8_edge_59 : decode cX8_edge 59 = .ok (.invokevirtual 173, 3) := by decide +kernel
theorem dX8_edge_62 : decode cX8_edge 62 = .ok (.iload_n 3, 1) := by decide +kernel
theorem dX8_edge_63 : decode cX8_edge 63 = .ok (.iconst 1, 1) := by decide +kernel
theorem dX8_edge_64 : decode cX8_edge 64 = .ok (.if_icmp .ne 7, 3) := by decide +kernel
theorem dX8_edge_67 : decode cX8_edge 67 = .ok (.iconst 1, 1) := by decide +kernel
theorem dX8_edge_68 : decode cX8_edge 68 = .ok (.goto 4, 3) := by decide +kernel
theorem dX8_edge_71 : decode cX8_edge 71 = .ok (.iconst 0, 1) := by decide +kernel
theorem dX8_edge_72 : decode cX8_edge 72 = .ok (.if_icmp .eq 12, 3) := by decide +kernel
theorem dX8_edge_75 : decode cX8_edge 75 = .ok (.aload_n 0, 1) := by decide +kernel
theorem dX8_edge_76 : decode cX8_edge 76 = .ok (.getfield 10, 3) := by decide +kernel
theorem dX8_edge_79 : decode cX8_edge 79 = .ok (.iload_n 1, 1) := by decide +kernel
theorem dX8_edge_80 : decode cX8_edge 80 = .ok (.iload_n 2, 1) := by decide +kernel
theorem dX8_edge_81 : decode cX8_edge 81 = .ok (.invokevirtual 177, 3) := by decide +kernel
theorem dX8_edge_84 : decode cX8_edge 84 = .ok (.aload_n 0, 1) := by decide +kernel
theorem dX8_edge_85 : decode cX8_edge 85 = .ok (.getfield 10, 3) := by decide +kernel
theorem dX8_edge_88 : decode cX8_edge 88 = .ok (.invokevirtual 78, 3) := by decide +kernel
theorem dX8_edge_91 : decode cX8_edge 91 = .ok (.ireturn, 1) := by decide +kernel
set_option maxRecDepth 20000 in
theorem ggX8_columns_X6_hasItem : GoodIn wsX8_columns wsX6_hasItem := goodIn_r _ [10, 11, 55, 56, 57, 58, 59, 60, 61, 62] (by decide +kernel) (by decide +kernel)
set_option maxRecDepth 20000 in
theorem gX8_columns_X6_hasItem : GoodIn wsX8_columns (wsV RX8 114 RX6 yX6_hasItem wsX6_hasItem) := goodIn_app (goodIn_of _ (by decide +kernel)) ggX8_columns_X6_hasItem
set_option maxRecDepth 20000 in
theorem ggX8_columns_X2_remember : GoodIn wsX8_columns wsX2_remember := goodIn_r _ [16, 17, 18, 19, 20, 21, 22, 23, 24, 25, 26, 9, 27, 11, 28, 29, 30, 31, 32, 33, 34, 35, 36, 37, 38, 39, 40, 41, 42, 43, 44, 45, 46, 63, 64, 65, 55, 56, 57, 58, 59, 60, 61, 62, 66, 67] (by decide +kernel) (by decide +kernel)
set_option maxRecDepth 20000 in
theorem gX8_columns_X2_remember : GoodIn wsX8_columns (wsV RX8 166 RX2 yX2_remember wsX2_remember) := goodIn_app (goodIn_of _ (by decide +kernel)) ggX8_columns_X2_remember
theorem dX8_columns_0 : decode cX8_columns 0 = .ok (.aload_n 0, 1) := by decide +kernel
theorem dX8_columns_1 : decode cX8_columns 1 = .ok (.getfield 10, 3) := by decide +kernel
theorem dX8_columns_4 : decode cX8_columns 4 = .ok (.iload_n 1, 1) := by decide +kernel
theorem dX8_columns_5 : decode cX8_columns 5 = .ok (.invokevirtual 114, 3) := by decide +kernel
theorem dX8_columns_8 : decode cX8_columns 8 = .ok (.ifCond .ne 6, 3) := by decide +kernel
theorem dX8_columns_11 : decode cX8_columns 11 = .ok (.ldc 118, 2) := by decide +kernel
theorem dX8_columns_13 : decode cX8_columns 13 = .ok (.ireturn, 1) := by decide +kernel
theorem dX8_columns_14 : decode cX8_columns 14 = .ok (.iload_n 2, 1) := by decide +kernel
theorem dX8_columns_15 : decode cX8_columns 15 = .ok (.ifCond .lt 10, 3) := by decide +kernel
theorem dX8_columns_18 : decode cX8_columns 18 = .ok (.iload_n 2, 1) := by decide +kernel
theorem dX8_columns_19 : decode cX8_columns 19 = .ok (.sipush 256, 3) := by decide +kernel
theorem dX8_columns_22 : decode cX8_columns 22 = .ok (.if_icmp .lt 6, 3) := by decide +kernel
theorem dX8_columns_25 : decode cX8_columns 25 = .ok (.ldc 113, 2) := by decide +kernel
theorem dX8_columns_27 : decode cX8_columns 27 = .ok (.ireturn, 1) := by decide +kernel
theorem dX8_columns_28 : decode cX8_columns 28 = .ok (.aload_n 0, 1) := by decide +kernel
theorem dX8_columns_29 : decode cX8_columns 29 = .ok (.getfield 10, 3) := by decide +kernel
theorem dX8_columns_32 : decode cX8_columns 32 = .ok (.getfield 119, 3) := by decide +kernel
theorem dX8_columns_35 : decode cX8_columns 35 = .ok (.iload_n 1, 1) := by decide +kernel
theorem dX8_columns_36 : decode cX8_columns 36 = .ok (.iaload, 1) := by decide +kernel
theorem dX8_columns_37 : decode cX8_columns 37 = .ok (.istore_n 3, 1) := by decide +kernel
theorem dX8_columns_38 : decode cX8_columns 38 = .ok (.aload_n 0, 1) := by decide +kernel
theorem dX8_columns_39 : decode cX8_columns 39 = .ok (.getfield 19, 3) := by decide +kernel
theorem dX8_columns_42 : decode cX8_columns 42 = .ok (.aload_n 0, 1) := by decide +kernel
theorem dX8_columns_43 : decode cX8_columns 43 = .ok (.getfield 10, 3) := by decide +kernel
theorem dX8_columns_46 : decode cX8_columns 46 = .ok (.invokevirtual 166, 3) := by decide +kernel
theorem dX8_columns_49 : decode cX8_columns 49 = .ok (.aload_n 0, 1) := by decide +kernel
theorem dX8_columns_50 : decode cX8_columns 50 = .ok (.getfield 10, 3) := by decide +kernel
theorem dX8_columns_53 : decode cX8_columns 53 = .ok (.getfield 119, 3) := by decide +kernel
theorem dX8_columns_56 : decode cX8_columns 56 = .ok (.iload_n 1, 1) := by decide +kernel
theorem dX8_columns_57 : decode cX8_columns 57 = .ok (.iload_n 2, 1) := by decide +kernel
theorem dX8_columns_58 : decode cX8_columns 58 = .ok (.iastore, 1) := by decide +kernel
theorem dX8_columns_59 : decode cX8_columns 59 = .ok (.iload_n 3, 1) := by decide +kernel
theorem dX8_columns_60 : decode cX8_columns 60 = .ok (.ireturn, 1) := by decide +kernel
set_option maxRecDepth 20000 in
theorem ggX8_letters_X2_remember : GoodIn wsX8_letters wsX2_remember := goodIn_r _ [9, 10, 11, 12, 13, 14, 15, 16, 17, 18, 19, 20, 21, 22, 23, 24, 25, 26, 27, 28, 29, 30, 31, 32, 33, 34, 35, 36, 37, 38, 39, 40, 41, 74, 75, 76, 66, 67, 68, 69, 70, 71, 72, 73, 77, 78] (by decide +kernel) (by decide +kernel)
set_option maxRecDepth 20000 in
theorem gX8_letters_X2_remember : GoodIn wsX8_letters (wsV RX8 166 RX2 yX2_remember wsX2_remember) := goodIn_app (goodIn_of _ (by decide +kernel)) ggX8_letters_X2_remember
set_option maxRecDepth 20000 in
theorem ggX8_letters_X6_takeLetters : GoodIn wsX8_letters wsX6_takeLetters := goodIn_r _ [45, 23, 22, 46, 47, 48, 20, 49, 32, 50, 51, 52, 53, 54, 55, 56, 57, 66, 67, 68, 69, 70, 71, 72, 73] (by decide +kernel) (by decide +kernel)
set_option maxRecDepth 20000 in
theorem gX8_letters_X6_takeLetters : GoodIn wsX8_letters (wsV RX8 181 RX6 yX6_takeLetters wsX6_takeLetters) := goodIn_app (goodIn_of _ (by decide +kernel)) ggX8_letters_X6_takeLetters
theorem dX8_letters_0 : decode cX8_letters 0 = .ok (.iload_n 1, 1) := by decide +kernel
theorem dX8_letters_1 : decode cX8_letters 1 = .ok (.iconst 1, 1) := by decide +kernel
theorem dX8_letters_2 : decode cX8_letters 2 = .ok (.if_icmp .lt 8, 3) := by decide +kernel
theorem dX8_letters_5 : decode cX8_letters 5 = .ok (.iload_n 1, 1) := by decide +kernel
theorem dX8_letters_6 : decode cX8_letters 6 = .ok (.iconst 3, 1) := by decide +kernel
theorem dX8_letters_7 : decode cX8_letters 7 = .ok (.if_icmp .le 6, 3) := by decide +kernel
theorem dX8_letters_10 : decode cX8_letters 10 = .ok (.ldc 113, 2) := by decide +kernel
theorem dX8_letters_12 : decode cX8_letters 12 = .ok (.ireturn, 1) := by decide +kernel
theorem dX8_letters_13 : decode cX8_letters 13 = .ok (.aload_n 0, 1) := by decide +kernel
theorem dX8_letters_14 : decode cX8_letters 14 = .ok (.getfield 10, 3) := by decide +kernel
theorem dX8_letters_17 : decode cX8_letters 17 = .ok (.getfield 82, 3) := by decide +kernel
theorem dX8_letters_20 : decode cX8_letters 20 = .ok (.istore_n 2, 1) := by decide +kernel
theorem dX8_letters_21 : decode cX8_letters 21 = .ok (.aload_n 0, 1) := by decide +kernel
theorem dX8_letters_22 : decode cX8_letters 22 = .ok (.getfield 19, 3) := by decide +kernel
theorem dX8_letters_25 : decode cX8_letters 25 = .ok (.aload_n 0, 1) := by decide +kernel
theorem dX8_letters_26 : decode cX8_letters 26 = .ok (.getfield 10, 3) := by decide +kernel
theorem dX8_letters_29 : decode cX8_letters 29 = .ok (.invokevirtual 166, 3) := by decide +kernel
theorem dX8_letters_32 : decode cX8_letters 32 = .ok (.aload_n 0, 1) := by decide +kernel
theorem dX8_letters_33 : decode cX8_letters 33 = .ok (.getfield 10, 3) := by decide +kernel
theorem dX8_letters_36 : decode cX8_letters 36 = .ok (.iload_n 1, 1) := by decide +kernel
theorem dX8_letters_37 : decode cX8_letters 37 = .ok (.invokevirtual 181, 3) := by decide +kernel
theorem dX8_letters_40 : decode cX8_letters 40 = .ok (.iload_n 2, 1) := by decide +kernel
theorem dX8_letters_41 : decode cX8_letters 41 = .ok (.ireturn, 1) := by decide +kernel
set_option maxRecDepth 20000 in
theorem ggX8_goes_X6_hasItem : GoodIn wsX8_goes wsX6_hasItem := goodIn_r _ [8, 9, 67, 68, 69, 70, 71, 72, 73, 74] (by decide +kernel) (by decide +kernel)
set_option maxRecDepth 20000 in
theorem gX8_goes_X6_hasItem : GoodIn wsX8_goes (wsV RX8 114 RX6 yX6_hasItem wsX6_hasItem) := goodIn_app (goodIn_of _ (by decide +kernel)) ggX8_goes_X6_hasItem
set_option maxRecDepth 20000 in
theorem ggX8_goes_X6_hasLetter : GoodIn wsX8_goes wsX6_hasLetter := goodIn_r _ [13, 14, 67, 68, 69, 70, 71, 72, 73, 74] (by decide +kernel) (by decide +kernel)
set_option maxRecDepth 20000 in
theorem gX8_goes_X6_hasLetter : GoodIn wsX8_goes (wsV RX8 138 RX6 yX6_hasLetter wsX6_hasLetter) := goodIn_app (goodIn_of _ (by decide +kernel)) ggX8_goes_X6_hasLetter
set_option maxRecDepth 20000 in
theorem ggX8_goes_X6_leadsTo : GoodIn wsX8_goes wsX6_leadsTo := goodIn_r _ [18, 19, 20, 5, 6, 7, 8, 9, 21, 11, 12, 13, 14, 67, 68, 69, 70, 71, 72, 73, 74] (by decide +kernel) (by decide +kernel)
set_option maxRecDepth 20000 in
theorem gX8_goes_X6_leadsTo : GoodIn wsX8_goes (wsV RX8 141 RX6 yX6_leadsTo wsX6_leadsTo) := goodIn_app (goodIn_of _ (by decide +kernel)) ggX8_goes_X6_leadsTo
set_option maxRecDepth 20000 in
theorem ggX8_goes_X2_remember : GoodIn wsX8_goes wsX2_remember := goodIn_r _ [26, 27, 28, 29, 30, 31, 32, 33, 34, 35, 36, 7, 37, 9, 14, 38, 39, 40, 41, 42, 43, 44, 45, 19, 46, 47, 48, 49, 50, 51, 52, 53, 54, 75, 76, 77, 67, 68, 69, 70, 71, 72, 73, 74, 78, 79] (by decide +kernel) (by decide +kernel)
set_option maxRecDepth 20000 in
theorem gX8_goes_X2_remember : GoodIn wsX8_goes (wsV RX8 166 RX2 yX2_remember wsX2_remember) := goodIn_app (goodIn_of _ (by decide +kernel)) ggX8_goes_X2_remember
set_option maxRecDepth 20000 in
theorem ggX8_goes_X6_lead : GoodIn wsX8_goes wsX6_lead := goodIn_r _ [58, 19, 20, 5, 6, 7, 8, 9, 21, 11, 12, 13, 14, 67, 68, 69, 70, 71, 72, 73, 74] (by decide +kernel) (by decide +kernel)
set_option maxRecDepth 20000 in
theorem gX8_goes_X6_lead : GoodIn wsX8_goes (wsV RX8 184 RX6 yX6_lead wsX6_lead) := goodIn_app (goodIn_of _ (by decide +kernel)) ggX8_goes_X6_lead
theorem dX8_goes_0 : decode cX8_goes 0 = .ok (.aload_n 0, 1) := by decide +kernel
theorem dX8_goes_1 : decode cX8_goes 1 = .ok (.getfield 10, 3) := by decide +kernel
theorem dX8_goes_4 : decode cX8_goes 4 = .ok (.iload_n 1, 1) := by decide +kernel
theorem dX8_goes_5 : decode cX8_goes 5 = .ok (.invokevirtual 114, 3) := by decide +kernel
theorem dX8_goes_8 : decode cX8_goes 8 = .ok (.ifCond .eq 25, 3) := by decide +kernel
theorem dX8_goes_11 : decode cX8_goes 11 = .ok (.aload_n 0, 1) := by decide +kernel
theorem dX8_goes_12 : decode cX8_goes 12 = .ok (.getfield 10, 3) := by decide +kernel
theorem dX8_goes_15 : decode cX8_goes 15 = .ok (.iload_n 2, 1) := by decide +kernel
theorem dX8_goes_16 : decode cX8_goes 16 = .ok (.invokevirtual 138, 3) := by decide +kernel
theorem dX8_goes_19 : decode cX8_goes 19 = .ok (.ifCond .eq 14, 3) := by decide +kernel
theorem dX8_goes_22 : decode cX8_goes 22 = .ok (.aload_n 0, 1) := by decide +kernel
theorem dX8_goes_23 : decode cX8_goes 23 = .ok (.getfield 10, 3) := by decide +kernel
theorem dX8_goes_26 : decode cX8_goes 26 = .ok (.iload_n 3, 1) := by decide +kernel
theorem dX8_goes_27 : decode cX8_goes 27 = .ok (.invokevirtual 114, 3) := by decide +kernel
theorem dX8_goes_30 : decode cX8_goes 30 = .ok (.ifCond .ne 6, 3) := by decide +kernel
theorem dX8_goes_33 : decode cX8_goes 33 = .ok (.ldc 118, 2) := by decide +kernel
theorem dX8_goes_35 : decode cX8_goes 35 = .ok (.ireturn, 1) := by decide +kernel
theorem dX8_goes_36 : decode cX8_goes 36 = .ok (.aload_n 0, 1) := by decide +kernel
theorem dX8_goes_37 : decode cX8_goes 37 = .ok (.getfield 10, 3) := by decide +kernel
theorem dX8_goes_40 : decode cX8_goes 40 = .ok (.iload_n 1, 1) := by decide +kernel
theorem dX8_goes_41 : decode cX8_goes 41 = .ok (.iload_n 2, 1) := by decide +kernel
theorem dX8_goes_42 : decode cX8_goes 42 = .ok (.invokevirtual 141, 3) := by decide +kernel
theorem dX8_goes_45 : decode cX8_goes 45 = .ok (.istore 4, 2) := by decide +kernel
theorem dX8_goes_47 : decode cX8_goes 47 = .ok (.aload_n 0, 1) := by decide +kernel
theorem dX8_goes_48 : decode cX8_goes 48 = .ok (.getfield 19, 3) := by decide +kernel
theorem dX8_goes_51 : decode cX8_goes 51 = .ok (.aload_n 0, 1) := by decide +kernel
theorem dX8_goes_52 : decode cX8_goes 52 = .ok (.getfield 10, 3) := by decide +kernel
theorem dX8_goes_55 : decode cX8_goes 55 = .ok (.invokevirtual 166, 3) := by decide +kernel
theorem dX8_goes_58 : decode cX8_goes 58 = .ok (.aload_n 0, 1) := by decide +kernel
theorem dX8_goes_59 : decode cX8_goes 59 = .ok (.getfield 10, 3) := by decide +kernel
theorem dX8_goes_62 : decode cX8_goes 62 = .ok (.iload_n 1, 1) := by decide +kernel
theorem dX8_goes_63 : decode cX8_goes 63 = .ok (.iload_n 2, 1) := by decide +kernel
theorem dX8_goes_64 : decode cX8_goes 64 = .ok (.iload_n 3, 1) := by decide +kernel
theorem dX8_goes_65 : decode cX8_goes 65 = .ok (.invokevirtual 184, 3) := by decide +kernel
theorem dX8_goes_68 : decode cX8_goes 68 = .ok (.iload 4, 2) := by decide +kernel
theorem dX8_goes_70 : decode cX8_goes 70 = .ok (.ireturn, 1) := by decide +kernel
set_option maxRecDepth 20000 in
theorem ggX8_finals_X6_hasItemsOf : GoodIn wsX8_finals wsX6_hasItemsOf := goodIn_r _ [9, 10, 11, 12, 8, 13, 14, 58, 59, 60, 61, 62, 63, 64, 65] (by decide +kernel) (by decide +kernel)
set_option maxRecDepth 20000 in
theorem gX8_finals_X6_hasItemsOf : GoodIn wsX8_finals (wsV RX8 188 RX6 yX6_hasItemsOf wsX6_hasItemsOf) := goodIn_app (goodIn_of _ (by decide +kernel)) ggX8_finals_X6_hasItemsOf
set_option maxRecDepth 20000 in
theorem ggX8_finals_X2_remember : GoodIn wsX8_finals wsX2_remember := goodIn_r _ [19, 20, 21, 22, 23, 24, 25, 26, 27, 28, 29, 8, 30, 14, 31, 32, 33, 34, 35, 36, 37, 38, 39, 40, 41, 42, 43, 44, 45, 46, 47, 48, 49, 66, 67, 68, 58, 59, 60, 61, 62, 63, 64, 65, 69, 70] (by decide +kernel) (by decide +kernel)
set_option maxRecDepth 20000 in
theorem gX8_finals_X2_remember : GoodIn wsX8_finals (wsV RX8 166 RX2 yX2_remember wsX2_remember) := goodIn_app (goodIn_of _ (by decide +kernel)) ggX8_finals_X2_remember
theorem dX8_finals_0 : decode cX8_finals 0 = .ok (.aload_n 0, 1) := by decide +kernel
theorem dX8_finals_1 : decode cX8_finals 1 = .ok (.getfield 10, 3) := by decide +kernel
theorem dX8_finals_4 : decode cX8_finals 4 = .ok (.iload_n 1, 1) := by decide +kernel
theorem dX8_finals_5 : decode cX8_finals 5 = .ok (.invokevirtual 188, 3) := by decide +kernel
theorem dX8_finals_8 : decode cX8_finals 8 = .ok (.ifCond .ne 6, 3) := by decide +kernel
theorem dX8_finals_11 : decode cX8_finals 11 = .ok (.ldc 118, 2) := by decide +kernel
theorem dX8_finals_13 : decode cX8_finals 13 = .ok (.ireturn, 1) := by decide +kernel
theorem dX8_finals_14 : decode cX8_finals 14 = .ok (.aload_n 0, 1) := by decide +kernel
theorem dX8_finals_15 : decode cX8_finals 15 = .ok (.getfield 10, 3) := by decide +kernel
theorem dX8_finals_18 : decode cX8_finals 18 = .ok (.getfield 85, 3) := by decide +kernel
theorem dX8_finals_21 : decode cX8_finals 21 = .ok (.istore_n 2, 1) := by decide +kernel
theorem dX8_finals_22 : decode cX8_finals 22 = .ok (.aload_n 0, 1) := by decide +kernel
theorem dX8_finals_23 : decode cX8_finals 23 = .ok (.getfield 19, 3) := by decide +kernel
theorem dX8_finals_26 : decode cX8_finals 26 = .ok (.aload_n 0, 1) := by decide +kernel
theorem dX8_finals_27 : decode cX8_finals 27 = .ok (.getfield 10, 3) := by decide +kernel
theorem dX8_finals_30 : decode cX8_finals 30 = .ok (.invokevirtual 166, 3) := by decide +kernel
theorem dX8_finals_33 : decode cX8_finals 33 = .ok (.aload_n 0, 1) := by decide +kernel
theorem dX8_finals_34 : decode cX8_finals 34 = .ok (.getfield 10, 3) := by decide +kernel
theorem dX8_finals_37 : decode cX8_finals 37 = .ok (.iload_n 1, 1) := by decide +kernel
theorem dX8_finals_38 : decode cX8_finals 38 = .ok (.putfield 85, 3) := by decide +kernel
theorem dX8_finals_41 : decode cX8_finals 41 = .ok (.iload_n 2, 1) := by decide +kernel
theorem dX8_finals_42 : decode cX8_finals 42 = .ok (.ireturn, 1) := by decide +kernel
set_option maxRecDepth 20000 in
theorem ggX8_begin_X2_remember : GoodIn wsX8_begin wsX2_remember := goodIn_r _ [10, 11, 12, 13, 14, 15, 16, 17, 18, 19, 20, 21, 22, 23, 24, 25, 26, 27, 28, 29, 30, 31, 32, 33, 34, 35, 36, 37, 38, 39, 40, 41, 42, 69, 70, 71, 59, 60, 61, 62, 63, 64, 65, 66, 67, 68] (by decide +kernel) (by decide +kernel)
set_option maxRecDepth 20000 in
theorem gX8_begin_X2_remember : GoodIn wsX8_begin (wsV RX8 166 RX2 yX2_remember wsX2_remember) := goodIn_app (goodIn_of _ (by decide +kernel)) ggX8_begin_X2_remember
set_option maxRecDepth 20000 in
theorem ggX8_begin_X6_all : GoodIn wsX8_begin wsX6_all := goodIn_r _ [46, 23, 59, 60, 61, 62, 63, 64, 65, 66] (by decide +kernel) (by decide +kernel)
set_option maxRecDepth 20000 in
theorem gX8_begin_X6_all : GoodIn wsX8_begin (wsV RX8 191 RX6 yX6_all wsX6_all) := goodIn_app (goodIn_of _ (by decide +kernel)) ggX8_begin_X6_all
set_option maxRecDepth 20000 in
theorem ggX8_begin_X5_gather : GoodIn wsX8_begin wsX5_gather := goodIn_r _ [50, 40, 42, 67, 68] (by decide +kernel) (by decide +kernel)
set_option maxRecDepth 20000 in
theorem gX8_begin_X5_gather : GoodIn wsX8_begin (wsV RX8 194 RX5 yX5_gather wsX5_gather) := goodIn_app (goodIn_of _ (by decide +kernel)) ggX8_begin_X5_gather
theorem dX8_begin_0 : decode cX8_begin 0 = .ok (.aload_n 0, 1) := by decide +kernel
theorem dX8_begin_1 : decode cX8_begin 1 = .ok (.getfield 10, 3) := by decide +kernel
theorem dX8_begin_4 : decode cX8_begin 4 = .ok (.getfield 69, 3) := by decide +kernel
theorem dX8_begin_7 : decode cX8_begin 7 = .ok (.getfield 72, 3) := by decide +kernel
theorem dX8_begin_10 : decode cX8_begin 10 = .ok (.istore_n 1, 1) := by decide +kernel
theorem dX8_begin_11 : decode cX8_begin 11 = .ok (.aload_n 0, 1) := by decide +kernel
theorem dX8_begin_12 : decode cX8_begin 12 = .ok (.getfield 19, 3) := by decide +kernel
theorem dX8_begin_15 : decode cX8_begin 15 = .ok (.aload_n 0, 1) := by decide +kernel
theorem dX8_begin_16 : decode cX8_begin 16 = .ok (.getfield 10, 3) := by decide +kernel
theorem dX8_begin_19 : decode cX8_begin 19 = .ok (.invokevirtual 166, 3) := by decide +kernel
theorem dX8_begin_22 : decode cX8_begin 22 = .ok (.aload_n 0, 1) := by decide +kernel
theorem dX8_begin_23 : decode cX8_begin 23 = .ok (.getfield 10, 3) := by decide +kernel
theorem dX8_begin_26 : decode cX8_begin 26 = .ok (.getfield 69, 3) := by decide +kernel
theorem dX8_begin_29 : decode cX8_begin 29 = .ok (.aload_n 0, 1) := by decide +kernel
theorem dX8_begin_30 : decode cX8_begin 30 = .ok (.getfield 10, 3) := by decide +kernel
theorem dX8_begin_33 : decode cX8_begin 33 = .ok (.invokevirtual 191, 3) := by decide +kernel
theorem dX8_begin_36 : decode cX8_begin 36 = .ok (.invokevirtual 194, 3) := by decide +kernel
theorem dX8_begin_39 : decode cX8_begin 39 = .ok (.aload_n 0, 1) := by decide +kernel
theorem dX8_begin_40 : decode cX8_begin 40 = .ok (.getfield 10, 3) := by decide +kernel
theorem dX8_begin_43 : decode cX8_begin 43 = .ok (.iconst 0, 1) := by decide +kernel
theorem dX8_begin_44 : decode cX8_begin 44 = .ok (.putfield 75, 3) := by decide +kernel
theorem dX8_begin_47 : decode cX8_begin 47 = .ok (.iload_n 1, 1) := by decide +kernel
theorem dX8_begin_48 : decode cX8_begin 48 = .ok (.ireturn, 1) := by decide +kernel
set_option maxRecDepth 20000 in
theorem ggX8_split_X6_hasItemsOf : GoodIn wsX8_split wsX6_hasItemsOf := goodIn_r _ [7, 8, 9, 10, 6, 11, 12, 80, 81, 82, 83, 84, 85, 86, 87] (by decide +kernel) (by decide +kernel)
set_option maxRecDepth 20000 in
theorem gX8_split_X6_hasItemsOf : GoodIn wsX8_split (wsV RX8 188 RX6 yX6_hasItemsOf wsX6_hasItemsOf) := goodIn_app (goodIn_of _ (by decide +kernel)) ggX8_split_X6_hasItemsOf
