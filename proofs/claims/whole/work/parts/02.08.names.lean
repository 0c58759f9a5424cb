theorem dX9_apart_80 : decode cX9_apart 80 = .ok (.if_icmp .ge 166, 3) := by decide +kernel
theorem dX9_apart_83 : decode cX9_apart 83 = .ok (.aload_n 0, 1) := by decide +kernel
theorem dX9_apart_84 : decode cX9_apart 84 = .ok (.getfield 41, 3) := by decide +kernel
theorem dX9_apart_87 : decode cX9_apart 87 = .ok (.iload 4, 2) := by decide +kernel
theorem dX9_apart_89 : decode cX9_apart 89 = .ok (.iaload, 1) := by decide +kernel
theorem dX9_apart_90 : decode cX9_apart 90 = .ok (.bipush 12, 2) := by decide +kernel
theorem dX9_apart_92 : decode cX9_apart 92 = .ok (.idiv, 1) := by decide +kernel
theorem dX9_apart_93 : decode cX9_apart 93 = .ok (.istore 5, 2) := by decide +kernel
theorem dX9_apart_95 : decode cX9_apart 95 = .ok (.aload_n 0, 1) := by decide +kernel
theorem dX9_apart_96 : decode cX9_apart 96 = .ok (.getfield 41, 3) := by decide +kernel
theorem dX9_apart_99 : decode cX9_apart 99 = .ok (.iload 4, 2) := by decide +kernel
theorem dX9_apart_101 : decode cX9_apart 101 = .ok (.iaload, 1) := by decide +kernel
theorem dX9_apart_102 : decode cX9_apart 102 = .ok (.bipush 12, 2) := by decide +kernel
theorem dX9_apart_104 : decode cX9_apart 104 = .ok (.irem, 1) := by decide +kernel
theorem dX9_apart_105 : decode cX9_apart 105 = .ok (.istore 6, 2) := by decide +kernel
theorem dX9_apart_107 : decode cX9_apart 107 = .ok (.aload_n 0, 1) := by decide +kernel
theorem dX9_apart_108 : decode cX9_apart 108 = .ok (.getfield 7, 3) := by decide +kernel
theorem dX9_apart_111 : decode cX9_apart 111 = .ok (.iconst 2, 1) := by decide +kernel
theorem dX9_apart_112 : decode cX9_apart 112 = .ok (.iaload, 1) := by decide +kernel
theorem dX9_apart_113 : decode cX9_apart 113 = .ok (.iload 5, 2) := by decide +kernel
theorem dX9_apart_115 : decode cX9_apart 115 = .ok (.invokestatic 69, 3) := by decide +kernel
theorem dX9_apart_118 : decode cX9_apart 118 = .ok (.aload_n 0, 1) := by decide +kernel
theorem dX9_apart_119 : decode cX9_apart 119 = .ok (.getfield 7, 3) := by decide +kernel
theorem dX9_apart_122 : decode cX9_apart 122 = .ok (.iconst 2, 1) := by decide +kernel
theorem dX9_apart_123 : decode cX9_apart 123 = .ok (.iaload, 1) := by decide +kernel
theorem dX9_apart_124 : decode cX9_apart 124 = .ok (.iload 6, 2) := by decide +kernel
theorem dX9_apart_126 : decode cX9_apart 126 = .ok (.invokestatic 69, 3) := by decide +kernel
theorem dX9_apart_129 : decode cX9_apart 129 = .ok (.if_icmp .eq 11, 3) := by decide +kernel
theorem dX9_apart_132 : decode cX9_apart 132 = .ok (.aload_n 0, 1) := by decide +kernel
theorem dX9_apart_133 : decode cX9_apart 133 = .ok (.getfield 44, 3) := by decide +kernel
theorem dX9_apart_136 : decode cX9_apart 136 = .ok (.iload 4, 2) := by decide +kernel
theorem dX9_apart_138 : decode cX9_apart 138 = .ok (.iaload, 1) := by decide +kernel
theorem dX9_apart_139 : decode cX9_apart 139 = .ok (.ireturn, 1) := by decide +kernel
theorem dX9_apart_140 : decode cX9_apart 140 = .ok (.iconst 0, 1) := by decide +kernel
theorem dX9_apart_141 : decode cX9_apart 141 = .ok (.istore 7, 2) := by decide +kernel
theorem dX9_apart_143 : decode cX9_apart 143 = .ok (.iload 7, 2) := by decide +kernel
theorem dX9_apart_145 : decode cX9_apart 145 = .ok (.aload_n 0, 1) := by decide +kernel
theorem dX9_apart_146 : decode cX9_apart 146 = .ok (.getfield 7, 3) := by decide +kernel
theorem dX9_apart_149 : decode cX9_apart 149 = .ok (.iconst 1, 1) := by decide +kernel
theorem dX9_apart_150 : decode cX9_apart 150 = .ok (.iaload, 1) := by decide +kernel
theorem dX9_apart_151 : decode cX9_apart 151 = .ok (.if_icmp .ge 89, 3) := by decide +kernel
theorem dX9_apart_154 : decode cX9_apart 154 = .ok (.bipush 12, 2) := by decide +kernel
theorem dX9_apart_156 : decode cX9_apart 156 = .ok (.aload_n 0, 1) := by decide +kernel
theorem dX9_apart_157 : decode cX9_apart 157 = .ok (.getfield 7, 3) := by decide +kernel
theorem dX9_apart_160 : decode cX9_apart 160 = .ok (.bipush 28, 2) := by decide +kernel
theorem dX9_apart_162 : decode cX9_apart 162 = .ok (.iconst 3, 1) := by decide +kernel
theorem dX9_apart_163 : decode cX9_apart 163 = .ok (.iload 5, 2) := by decide +kernel
theorem dX9_apart_165 : decode cX9_apart 165 = .ok (.imul, 1) := by decide +kernel
theorem dX9_apart_166 : decode cX9_apart 166 = .ok (.iadd, 1) := by decide +kernel
theorem dX9_apart_167 : decode cX9_apart 167 = .ok (.iload 7, 2) := by decide +kernel
theorem dX9_apart_169 : decode cX9_apart 169 = .ok (.iadd, 1) := by decide +kernel
theorem dX9_apart_170 : decode cX9_apart 170 = .ok (.iaload, 1) := by decide +kernel
theorem dX9_apart_171 : decode cX9_apart 171 = .ok (.imul, 1) := by decide +kernel
theorem dX9_apart_172 : decode cX9_apart 172 = .ok (.aload_n 0, 1) := by decide +kernel
theorem dX9_apart_173 : decode cX9_apart 173 = .ok (.getfield 7, 3) := by decide +kernel
theorem dX9_apart_176 : decode cX9_apart 176 = .ok (.bipush 28, 2) := by decide +kernel
theorem dX9_apart_178 : decode cX9_apart 178 = .ok (.iconst 3, 1) := by decide +kernel
theorem dX9_apart_179 : decode cX9_apart 179 = .ok (.iload 6, 2) := by decide +kernel
theorem dX9_apart_181 : decode cX9_apart 181 = .ok (.imul, 1) := by decide +kernel
theorem dX9_apart_182 : decode cX9_apart 182 = .ok (.iadd, 1) := by decide +kernel
theorem dX9_apart_183 : decode cX9_apart 183 = .ok (.iload 7, 2) := by decide +kernel
theorem dX9_apart_185 : decode cX9_apart 185 = .ok (.iadd, 1) := by decide +kernel
theorem dX9_apart_186 : decode cX9_apart 186 = .ok (.iaload, 1) := by decide +kernel
theorem dX9_apart_187 : decode cX9_apart 187 = .ok (.iadd, 1) := by decide +kernel
theorem dX9_apart_188 : decode cX9_apart 188 = .ok (.istore 8, 2) := by decide +kernel
theorem dX9_apart_190 : decode cX9_apart 190 = .ok (.aload_n 0, 1) := by decide +kernel
theorem dX9_apart_191 : decode cX9_apart 191 = .ok (.getfield 47, 3) := by decide +kernel
theorem dX9_apart_194 : decode cX9_apart 194 = .ok (.iload 8, 2) := by decide +kernel
theorem dX9_apart_196 : decode cX9_apart 196 = .ok (.baload, 1) := by decide +kernel
theorem dX9_apart_197 : decode cX9_apart 197 = .ok (.ifCond .ne 37, 3) := by decide +kernel
theorem dX9_apart_200 : decode cX9_apart 200 = .ok (.aload_n 0, 1) := by decide +kernel
theorem dX9_apart_201 : decode cX9_apart 201 = .ok (.getfield 47, 3) := by decide +kernel
theorem dX9_apart_204 : decode cX9_apart 204 = .ok (.iload 8, 2) := by decide +kernel
theorem dX9_apart_206 : decode cX9_apart 206 = .ok (.iconst 1, 1) := by decide +kernel
theorem dX9_apart_207 : decode cX9_apart 207 = .ok (.bastore, 1) := by decide +kernel
theorem dX9_apart_208 : decode cX9_apart 208 = .ok (.aload_n 0, 1) := by decide +kernel
theorem dX9_apart_209 : decode cX9_apart 209 = .ok (.getfield 41, 3) := by decide +kernel
theorem dX9_apart_212 : decode cX9_apart 212 = .ok (.iload_n 3, 1) := by decide +kernel
theorem dX9_apart_213 : decode cX9_apart 213 = .ok (.iload 8, 2) := by decide +kernel
theorem dX9_apart_215 : decode cX9_apart 215 = .ok (.iastore, 1) := by decide +kernel
theorem dX9_apart_216 : decode cX9_apart 216 = .ok (.aload_n 0, 1) := by decide +kernel
theorem dX9_apart_217 : decode cX9_apart 217 = .ok (.getfield 44, 3) := by decide +kernel
theorem dX9_apart_220 : decode cX9_apart 220 = .ok (.iload_n 3, 1) := by decide +kernel
theorem dX9_apart_221 : decode cX9_apart 221 = .ok (.aload_n 0, 1) := by decide +kernel
theorem dX9_apart_222 : decode cX9_apart 222 = .ok (.getfield 44, 3) := by decide +kernel
theorem dX9_apart_225 : decode cX9_apart 225 = .ok (.iload 4, 2) := by decide +kernel
theorem dX9_apart_227 : decode cX9_apart 227 = .ok (.iaload, 1) := by decide +kernel
theorem dX9_apart_228 : decode cX9_apart 228 = .ok (.iconst 1, 1) := by decide +kernel
theorem dX9_apart_229 : decode cX9_apart 229 = .ok (.iadd, 1) := by decide +kernel
theorem dX9_apart_230 : decode cX9_apart 230 = .ok (.iastore, 1) := by decide +kernel
theorem dX9_apart_231 : decode cX9_apart 231 = .ok (.iinc 3 1, 3) := by decide +kernel
theorem dX9_apart_234 : decode cX9_apart 234 = .ok (.iinc 7 1, 3) := by decide +kernel
theorem dX9_apart_237 : decode cX9_apart 237 = .ok (.goto (-94), 3) := by decide +kernel
theorem dX9_apart_240 : decode cX9_apart 240 = .ok (.iinc 4 1, 3) := by decide +kernel
theorem dX9_apart_243 : decode cX9_apart 243 = .ok (.goto (-166), 3) := by decide +kernel
theorem dX9_apart_246 : decode cX9_apart 246 = .ok (.iconst (-1), 1) := by decide +kernel
theorem dX9_apart_247 : decode cX9_apart 247 = .ok (.ireturn, 1) := by decide +kernel
set_option maxRecDepth 20000 in
theorem ggX9_leastOf_X9_has : GoodIn wsX9_leastOf wsX9_has := goodIn_r _ [4] (by decide +kernel) (by decide +kernel)
set_option maxRecDepth 20000 in
theorem gX9_leastOf_X9_has : GoodIn wsX9_leastOf (va_wsS RX9 69 yX9_has wsX9_has) := goodIn_app (goodIn_of _ (by decide +kernel)) ggX9_leastOf_X9_has
theorem dX9_leastOf_0 : decode cX9_leastOf 0 = .ok (.iconst 0, 1) := by decide +kernel
theorem dX9_leastOf_1 : decode cX9_leastOf 1 = .ok (.istore_n 2, 1) := by decide +kernel
theorem dX9_leastOf_2 : decode cX9_leastOf 2 = .ok (.iload_n 1, 1) := by decide +kernel
theorem dX9_leastOf_3 : decode cX9_leastOf 3 = .ok (.iload_n 2, 1) := by decide +kernel
theorem dX9_leastOf_4 : decode cX9_leastOf 4 = .ok (.invokestatic 69, 3) := by decide +kernel
theorem dX9_leastOf_7 : decode cX9_leastOf 7 = .ok (.ifCond .ne 9, 3) := by decide +kernel
theorem dX9_leastOf_10 : decode cX9_leastOf 10 = .ok (.iinc 2 1, 3) := by decide +kernel
theorem dX9_leastOf_13 : decode cX9_leastOf 13 = .ok (.goto (-11), 3) := by decide +kernel
theorem dX9_leastOf_16 : decode cX9_leastOf 16 = .ok (.iload_n 2, 1) := by decide +kernel
theorem dX9_leastOf_17 : decode cX9_leastOf 17 = .ok (.ireturn, 1) := by decide +kernel
set_option maxRecDepth 20000 in
theorem ggX9_searches_X9_membersOf : GoodIn wsX9_searches wsX9_membersOf := goodIn_r _ [8, 2, 32, 33, 34, 35, 36, 37, 38, 39, 40, 41, 42, 43, 44, 45, 46, 47, 48] (by decide +kernel) (by decide +kernel)
set_option maxRecDepth 20000 in
theorem gX9_searches_X9_membersOf : GoodIn wsX9_searches (wsV RX9 77 RX9 yX9_membersOf wsX9_membersOf) := goodIn_app (goodIn_of _ (by decide +kernel)) ggX9_searches_X9_membersOf
set_option maxRecDepth 20000 in
theorem ggX9_searches_X9_leastOf : GoodIn wsX9_searches wsX9_leastOf := goodIn_r _ [12, 13, 14, 7, 15] (by decide +kernel) (by decide +kernel)
set_option maxRecDepth 20000 in
theorem gX9_searches_X9_leastOf : GoodIn wsX9_searches (wsV RX9 133 RX9 yX9_leastOf wsX9_leastOf) := goodIn_app (goodIn_of _ (by decide +kernel)) ggX9_searches_X9_leastOf
set_option maxRecDepth 20000 in
theorem ggX9_searches_X9_splits : GoodIn wsX9_searches wsX9_splits := goodIn_r _ [19, 20, 21, 22, 23, 7, 24, 2, 25, 26, 27, 4, 5, 6, 8, 28, 29, 30, 31, 13, 14, 15, 32, 33, 34, 35, 36, 37, 38, 39, 40, 41, 42, 43, 44, 45, 46, 47, 48] (by decide +kernel) (by decide +kernel)
set_option maxRecDepth 20000 in
theorem gX9_searches_X9_splits : GoodIn wsX9_searches (wsV RX9 124 RX9 yX9_splits wsX9_splits) := goodIn_app (goodIn_of _ (by decide +kernel)) ggX9_searches_X9_splits
theorem dX9_searches_0 : decode cX9_searches 0 = .ok (.iconst 0, 1) := by decide +kernel
theorem dX9_searches_1 : decode cX9_searches 1 = .ok (.istore_n 2, 1) := by decide +kernel
theorem dX9_searches_2 : decode cX9_searches 2 = .ok (.iload_n 2, 1) := by decide +kernel
theorem dX9_searches_3 : decode cX9_searches 3 = .ok (.bipush 12, 2) := by decide +kernel
theorem dX9_searches_5 : decode cX9_searches 5 = .ok (.if_icmp .ge 25, 3) := by decide +kernel
theorem dX9_searches_8 : decode cX9_searches 8 = .ok (.aload_n 0, 1) := by decide +kernel
theorem dX9_searches_9 : decode cX9_searches 9 = .ok (.getfield 38, 3) := by decide +kernel
theorem dX9_searches_12 : decode cX9_searches 12 = .ok (.iload_n 2, 1) := by decide +kernel
theorem dX9_searches_13 : decode cX9_searches 13 = .ok (.iload_n 2, 1) := by decide +kernel
theorem dX9_searches_14 : decode cX9_searches 14 = .ok (.iload_n 1, 1) := by decide +kernel
theorem dX9_searches_15 : decode cX9_searches 15 = .ok (.if_icmp .ne 7, 3) := by decide +kernel
theorem dX9_searches_18 : decode cX9_searches 18 = .ok (.iconst 0, 1) := by decide +kernel
theorem dX9_searches_19 : decode cX9_searches 19 = .ok (.goto 4, 3) := by decide +kernel
theorem dX9_searches_22 : decode cX9_searches 22 = .ok (.iconst 1, 1) := by decide +kernel
theorem dX9_searches_23 : decode cX9_searches 23 = .ok (.iastore, 1) := by decide +kernel
theorem dX9_searches_24 : decode cX9_searches 24 = .ok (.iinc 2 1, 3) := by decide +kernel
theorem dX9_searches_27 : decode cX9_searches 27 = .ok (.goto (-25), 3) := by decide +kernel
theorem dX9_searches_30 : decode cX9_searches 30 = .ok (.iconst 0, 1) := by decide +kernel
theorem dX9_searches_31 : decode cX9_searches 31 = .ok (.istore_n 2, 1) := by decide +kernel
theorem dX9_searches_32 : decode cX9_searches 32 = .ok (.iload_n 2, 1) := by decide +kernel
theorem dX9_searches_33 : decode cX9_searches 33 = .ok (.aload_n 0, 1) := by decide +kernel
theorem dX9_searches_34 : decode cX9_searches 34 = .ok (.getfield 7, 3) := by decide +kernel
theorem dX9_searches_37 : decode cX9_searches 37 = .ok (.iconst 0, 1) := by decide +kernel
theorem dX9_searches_38 : decode cX9_searches 38 = .ok (.iaload, 1) := by decide +kernel
theorem dX9_searches_39 : decode cX9_searches 39 = .ok (.if_icmp .ge 81, 3) := by decide +kernel
theorem dX9_searches_42 : decode cX9_searches 42 = .ok (.iconst 0, 1) := by decide +kernel
theorem dX9_searches_43 : decode cX9_searches 43 = .ok (.istore_n 3, 1) := by decide +kernel
theorem dX9_searches_44 : decode cX9_searches 44 = .ok (.aload_n 0, 1) := by decide +kernel
theorem dX9_searches_45 : decode cX9_searches 45 = .ok (.aload_n 0, 1) := by decide +kernel
theorem dX9_searches_46 : decode cX9_searches 46 = .ok (.getfield 38, 3) := by decide +kernel
theorem dX9_searches_49 : decode cX9_searches 49 = .ok (.iconst 0, 1) := by decide +kernel
theorem dX9_searches_50 : decode cX9_searches 50 = .ok (.iload_n 3, 1) := by decide +kernel
theorem dX9_searches_51 : decode cX9_searches 51 = .ok (.invokevirtual 77, 3) := by decide +kernel
theorem dX9_searches_54 : decode cX9_searches 54 = .ok (.ifCond .ne 9, 3) := by decide +kernel
theorem dX9_searches_57 : decode cX9_searches 57 = .ok (.iinc 3 1, 3) := by decide +kernel
theorem dX9_searches_60 : decode cX9_searches 60 = .ok (.goto (-16), 3) := by decide +kernel
theorem dX9_searches_63 : decode cX9_searches 63 = .ok (.aload_n 0, 1) := by decide +kernel
theorem dX9_searches_64 : decode cX9_searches 64 = .ok (.aload_n 0, 1) := by decide +kernel
theorem dX9_searches_65 : decode cX9_searches 65 = .ok (.aload_n 0, 1) := by decide +kernel
theorem dX9_searches_66 : decode cX9_searches 66 = .ok (.getfield 38, 3) := by decide +kernel
theorem dX9_searches_69 : decode cX9_searches 69 = .ok (.iconst 0, 1) := by decide +kernel
theorem dX9_searches_70 : decode cX9_searches 70 = .ok (.iload_n 3, 1) := by decide +kernel
theorem dX9_searches_71 : decode cX9_searches 71 = .ok (.invokevirtual 77, 3) := by decide +kernel
theorem dX9_searches_74 : decode cX9_searches 74 = .ok (.invokevirtual 133, 3) := by decide +kernel
theorem dX9_searches_77 : decode cX9_searches 77 = .ok (.istore 4, 2) := by decide +kernel
theorem dX9_searches_79 : decode cX9_searches 79 = .ok (.aload_n 0, 1) := by decide +kernel
theorem dX9_searches_80 : decode cX9_searches 80 = .ok (.getfield 50, 3) := by decide +kernel
theorem dX9_searches_83 : decode cX9_searches 83 = .ok (.iload_n 2, 1) := by decide +kernel
theorem dX9_searches_84 : decode cX9_searches 84 = .ok (.iload 4, 2) := by decide +kernel
theorem dX9_searches_86 : decode cX9_searches 86 = .ok (.iastore, 1) := by decide +kernel
theorem dX9_searches_87 : decode cX9_searches 87 = .ok (.aload_n 0, 1) := by decide +kernel
theorem dX9_searches_88 : decode cX9_searches 88 = .ok (.getfield 38, 3) := by decide +kernel
theorem dX9_searches_91 : decode cX9_searches 91 = .ok (.iload 4, 2) := by decide +kernel
theorem dX9_searches_93 : decode cX9_searches 93 = .ok (.iconst (-1), 1) := by decide +kernel
theorem dX9_searches_94 : decode cX9_searches 94 = .ok (.iastore, 1) := by decide +kernel
theorem dX9_searches_95 : decode cX9_searches 95 = .ok (.aload_n 0, 1) := by decide +kernel
theorem dX9_searches_96 : decode cX9_searches 96 = .ok (.aload_n 0, 1) := by decide +kernel
theorem dX9_searches_97 : decode cX9_searches 97 = .ok (.getfield 38, 3) := by decide +kernel
theorem dX9_searches_100 : decode cX9_searches 100 = .ok (.iconst 0, 1) := by decide +kernel
theorem dX9_searches_101 : decode cX9_searches 101 = .ok (.aload_n 0, 1) := by decide +kernel
theorem dX9_searches_102 : decode cX9_searches 102 = .ok (.getfield 7, 3) := by decide +kernel
theorem dX9_searches_105 : decode cX9_searches 105 = .ok (.bipush 16, 2) := by decide +kernel
theorem dX9_searches_107 : decode cX9_searches 107 = .ok (.iload 4, 2) := by decide +kernel
theorem dX9_searches_109 : decode cX9_searches 109 = .ok (.iadd, 1) := by decide +kernel
theorem dX9_searches_110 : decode cX9_searches 110 = .ok (.iaload, 1) := by decide +kernel
theorem dX9_searches_111 : decode cX9_searches 111 = .ok (.invokevirtual 124, 3) := by decide +kernel
theorem dX9_searches_114 : decode cX9_searches 114 = .ok (.iinc 2 1, 3) := by decide +kernel
theorem dX9_searches_117 : decode cX9_searches 117 = .ok (.goto (-85), 3) := by decide +kernel
theorem dX9_searches_120 : decode cX9_searches 120 = .ok (.return_, 1) := by decide +kernel
set_option maxRecDepth 20000 in
theorem ggX9_search_X9_isItem : GoodIn wsX9_search wsX9_isItem := goodIn_r _ [7, 8, 9, 10, 6, 11, 44, 45, 46, 47, 48, 49, 50, 51, 52, 53, 54, 55, 56, 57, 58, 59, 60] (by decide +kernel) (by decide +kernel)
set_option maxRecDepth 20000 in
theorem gX9_search_X9_isItem : GoodIn wsX9_search (wsV RX9 89 RX9 yX9_isItem wsX9_isItem) := goodIn_app (goodIn_of _ (by decide +kernel)) ggX9_search_X9_isItem
set_option maxRecDepth 20000 in
theorem ggX9_search_X9_searches : GoodIn wsX9_search wsX9_searches := goodIn_r _ [15, 16, 8, 2, 17, 18, 19, 6, 20, 21, 22, 23, 24, 25, 26, 27, 28, 29, 30, 31, 32, 33, 34, 35, 36, 37, 38, 39, 40, 41, 42, 43, 44, 45, 46, 47, 48, 49, 50, 51, 52, 53, 54, 55, 56, 57, 58, 59, 60] (by decide +kernel) (by decide +kernel)
set_option maxRecDepth 20000 in
theorem gX9_search_X9_searches : GoodIn wsX9_search (wsV RX9 136 RX9 yX9_searches wsX9_searches) := goodIn_app (goodIn_of _ (by decide +kernel)) ggX9_search_X9_searches
theorem dX9_search_0 : decode cX9_search 0 = .ok (.aload_n 0, 1) := by decide +kernel
theorem dX9_search_1 : decode cX9_search 1 = .ok (.iload_n 1, 1) := by decide +kernel
theorem dX9_search_2 : decode cX9_search 2 = .ok (.invokevirtual 89, 3) := by decide +kernel
theorem dX9_search_5 : decode cX9_search 5 = .ok (.ifCond .eq 11, 3) := by decide +kernel
theorem dX9_search_8 : decode cX9_search 8 = .ok (.aload_n 0, 1) := by decide +kernel
theorem dX9_search_9 : decode cX9_search 9 = .ok (.iload_n 2, 1) := by decide +kernel
theorem dX9_search_10 : decode cX9_search 10 = .ok (.invokevirtual 89, 3) := by decide +kernel
theorem dX9_search_13 : decode cX9_search 13 = .ok (.ifCond .ne 6, 3) := by decide +kernel
theorem dX9_search_16 : decode cX9_search 16 = .ok (.ldc 93, 2) := by decide +kernel
theorem dX9_search_18 : decode cX9_search 18 = .ok (.ireturn, 1) := by decide +kernel
theorem dX9_search_19 : decode cX9_search 19 = .ok (.aload_n 0, 1) := by decide +kernel
theorem dX9_search_20 : decode cX9_search 20 = .ok (.iload_n 1, 1) := by decide +kernel
theorem dX9_search_21 : decode cX9_search 21 = .ok (.invokevirtual 136, 3) := by decide +kernel
theorem dX9_search_24 : decode cX9_search 24 = .ok (.aload_n 0, 1) := by decide +kernel
theorem dX9_search_25 : decode cX9_search 25 = .ok (.getfield 50, 3) := by decide +kernel
theorem dX9_search_28 : decode cX9_search 28 = .ok (.iload_n 2, 1) := by decide +kernel
theorem dX9_search_29 : decode cX9_search 29 = .ok (.iaload, 1) := by decide +kernel
theorem dX9_search_30 : decode cX9_search 30 = .ok (.ireturn, 1) := by decide +kernel
set_option maxRecDepth 20000 in
theorem ggX9_faultNow_X9_searches : GoodIn wsX9_faultNow wsX9_searches := goodIn_r _ [7, 8, 1, 2, 9, 10, 11, 6, 12, 13, 14, 15, 16, 17, 18, 19, 20, 21, 22, 23, 24, 25, 26, 27, 28, 29, 30, 31, 32, 33, 34, 35, 36, 37, 38, 39, 40, 41, 42, 43, 44, 45, 46, 47, 48, 49, 50, 51, 52] (by decide +kernel) (by decide +kernel)
set_option maxRecDepth 20000 in
theorem gX9_faultNow_X9_searches : GoodIn wsX9_faultNow (wsV RX9 136 RX9 yX9_searches wsX9_searches) := goodIn_app (goodIn_of _ (by decide +kernel)) ggX9_faultNow_X9_searches
set_option maxRecDepth 20000 in
theorem ggX9_faultNow_X9_has : GoodIn wsX9_faultNow wsX9_has := goodIn_r _ [19] (by decide +kernel) (by decide +kernel)
set_option maxRecDepth 20000 in
theorem gX9_faultNow_X9_has : GoodIn wsX9_faultNow (va_wsS RX9 69 yX9_has wsX9_has) := goodIn_app (goodIn_of _ (by decide +kernel)) ggX9_faultNow_X9_has
theorem dX9_faultNow_0 : decode cX9_faultNow 0 = .ok (.aload_n 0, 1) := by decide +kernel
theorem dX9_faultNow_1 : decode cX9_faultNow 1 = .ok (.iconst 0, 1) := by decide +kernel
theorem dX9_faultNow_2 : decode cX9_faultNow 2 = .ok (.invokevirtual 136, 3) := by decide +kernel
theorem dX9_faultNow_5 : decode cX9_faultNow 5 = .ok (.iconst 0, 1) := by decide +kernel
theorem dX9_faultNow_6 : decode cX9_faultNow 6 = .ok (.istore_n 1, 1) := by decide +kernel
theorem dX9_faultNow_7 : decode cX9_faultNow 7 = .ok (.iconst 0, 1) := by decide +kernel
theorem dX9_faultNow_8 : decode cX9_faultNow 8 = .ok (.istore_n 2, 1) := by decide +kernel
theorem dX9_faultNow_9 : decode cX9_faultNow 9 = .ok (.iload_n 2, 1) := by decide +kernel
theorem dX9_faultNow_10 : decode cX9_faultNow 10 = .ok (.aload_n 0, 1) := by decide +kernel
theorem dX9_faultNow_11 : decode cX9_faultNow 11 = .ok (.getfield 7, 3) := by decide +kernel
theorem dX9_faultNow_14 : decode cX9_faultNow 14 = .ok (.iconst 0, 1) := by decide +kernel
theorem dX9_faultNow_15 : decode cX9_faultNow 15 = .ok (.iaload, 1) := by decide +kernel
theorem dX9_faultNow_16 : decode cX9_faultNow 16 = .ok (.if_icmp .ge 115, 3) := by decide +kernel
theorem dX9_faultNow_19 : decode cX9_faultNow 19 = .ok (.aload_n 0, 1) := by decide +kernel
theorem dX9_faultNow_20 : decode cX9_faultNow 20 = .ok (.getfield 50, 3) := by decide +kernel
theorem dX9_faultNow_23 : decode cX9_faultNow 23 = .ok (.iload_n 2, 1) := by decide +kernel
theorem dX9_faultNow_24 : decode cX9_faultNow 24 = .ok (.iaload, 1) := by decide +kernel
theorem dX9_faultNow_25 : decode cX9_faultNow 25 = .ok (.istore_n 3, 1) := by decide +kernel
theorem dX9_faultNow_26 : decode cX9_faultNow 26 = .ok (.aload_n 0, 1) := by decide +kernel
theorem dX9_faultNow_27 : decode cX9_faultNow 27 = .ok (.getfield 7, 3) := by decide +kernel
theorem dX9_faultNow_30 : decode cX9_faultNow 30 = .ok (.bipush 16, 2) := by decide +kernel
theorem dX9_faultNow_32 : decode cX9_faultNow 32 = .ok (.iload_n 3, 1) := by decide +kernel
theorem dX9_faultNow_33 : decode cX9_faultNow 33 = .ok (.iadd, 1) := by decide +kernel
theorem dX9_faultNow_34 : decode cX9_faultNow 34 = .ok (.iaload, 1) := by decide +kernel
theorem dX9_faultNow_35 : decode cX9_faultNow 35 = .ok (.iload_n 1, 1) := by decide +kernel
theorem dX9_faultNow_36 : decode cX9_faultNow 36 = .ok (.iand, 1) := by decide +kernel
theorem dX9_faultNow_37 : decode cX9_faultNow 37 = .ok (.istore 4, 2) := by decide +kernel
theorem dX9_faultNow_39 : decode cX9_faultNow 39 = .ok (.iconst (-1), 1) := by decide +kernel
theorem dX9_faultNow_40 : decode cX9_faultNow 40 = .ok (.istore 5, 2) := by decide +kernel
theorem dX9_faultNow_42 : decode cX9_faultNow 42 = .ok (.iconst 0, 1) := by decide +kernel
theorem dX9_faultNow_43 : decode cX9_faultNow 43 = .ok (.istore 6, 2) := by decide +kernel
theorem dX9_faultNow_45 : decode cX9_faultNow 45 = .ok (.iload 6, 2) := by decide +kernel
theorem dX9_faultNow_47 : decode cX9_faultNow 47 = .ok (.iload_n 2, 1) := by decide +kernel
theorem dX9_faultNow_48 : decode cX9_faultNow 48 = .ok (.if_icmp .ge 38, 3) := by decide +kernel
theorem dX9_faultNow_51 : decode cX9_faultNow 51 = .ok (.iload 4, 2) := by decide +kernel
theorem dX9_faultNow_53 : decode cX9_faultNow 53 = .ok (.aload_n 0, 1) := by decide +kernel
theorem dX9_faultNow_54 : decode cX9_faultNow 54 = .ok (.getfield 50, 3) := by decide +kernel
theorem dX9_faultNow_57 : decode cX9_faultNow 57 = .ok (.iload 6, 2) := by decide +kernel
theorem dX9_faultNow_59 : decode cX9_faultNow 59 = .ok (.iaload, 1) := by decide +kernel
theorem dX9_faultNow_60 : decode cX9_faultNow 60 = .ok (.invokestatic 69, 3) := by decide +kernel
theorem dX9_faultNow_63 : decode cX9_faultNow 63 = .ok (.ifCond .eq 13, 3) := by decide +kernel
theorem dX9_faultNow_66 : decode cX9_faultNow 66 = .ok (.aload_n 0, 1) := by decide +kernel
theorem dX9_faultNow_67 : decode cX9_faultNow 67 = .ok (.getfield 50, 3) := by decide +kernel
theorem dX9_faultNow_70 : decode cX9_faultNow 70 = .ok (.iload 6, 2) := by decide +kernel
theorem dX9_faultNow_72 : decode cX9_faultNow 72 = .ok (.iaload, 1) := by decide +kernel
theorem dX9_faultNow_73 : decode cX9_faultNow 73 = .ok (.goto 5, 3) := by decide +kernel
theorem dX9_faultNow_76 : decode cX9_faultNow 76 = .ok (.iload 5, 2) := by decide +kernel
theorem dX9_faultNow_78 : decode cX9_faultNow 78 = .ok (.istore 5, 2) := by decide +kernel
theorem dX9_faultNow_80 : decode cX9_faultNow 80 = .ok (.iinc 6 1, 3) := by decide +kernel
theorem dX9_faultNow_83 : decode cX9_faultNow 83 = .ok (.goto (-38), 3) := by decide +kernel
theorem dX9_faultNow_86 : decode cX9_faultNow 86 = .ok (.iload 5, 2) := by decide +kernel
theorem dX9_faultNow_88 : decode cX9_faultNow 88 = .ok (.iconst (-1), 1) := by decide +kernel
theorem dX9_faultNow_89 : decode cX9_faultNow 89 = .ok (.if_icmp .eq 30, 3) := by decide +kernel
theorem dX9_faultNow_92 : decode cX9_faultNow 92 = .ok (.iload 4, 2) := by decide +kernel
theorem dX9_faultNow_94 : decode cX9_faultNow 94 = .ok (.iconst 1, 1) := by decide +kernel
theorem dX9_faultNow_95 : decode cX9_faultNow 95 = .ok (.iload 5, 2) := by decide +kernel
theorem dX9_faultNow_97 : decode cX9_faultNow 97 = .ok (.ishl, 1) := by decide +kernel
theorem dX9_faultNow_98 : decode cX9_faultNow 98 = .ok (.iconst (-1), 1) := by decide +kernel
theorem dX9_faultNow_99 : decode cX9_faultNow 99 = .ok (.ixor, 1) := by decide +kernel
theorem dX9_faultNow_100 : decode cX9_faultNow 100 = .ok (.iand, 1) := by decide +kernel
theorem dX9_faultNow_101 : decode cX9_faultNow 101 = .ok (.aload_n 0, 1) := by decide +kernel
theorem dX9_faultNow_102 : decode cX9_faultNow 102 = .ok (.getfield 7, 3) := by decide +kernel
theorem dX9_faultNow_105 : decode cX9_faultNow 105 = .ok (.bipush 16, 2) := by decide +kernel
theorem dX9_faultNow_107 : decode cX9_faultNow 107 = .ok (.iload 5, 2) := by decide +kernel
theorem dX9_faultNow_109 : decode cX9_faultNow 109 = .ok (.iadd, 1) := by decide +kernel
theorem dX9_faultNow_110 : decode cX9_faultNow 110 = .ok (.iaload, 1) := by decide +kernel
theorem dX9_faultNow_111 : decode cX9_faultNow 111 = .ok (.iconst (-1), 1) := by decide +kernel
theorem dX9_faultNow_112 : decode cX9_faultNow 112 = .ok (.ixor, 1) := by decide +kernel
theorem dX9_faultNow_113 : decode cX9_faultNow 113 = .ok (.iand, 1) := by decide +kernel
theorem dX9_faultNow_114 : decode cX9_faultNow 114 = .ok (.ifCond .eq 5, 3) := by decide +kernel
theorem dX9_faultNow_117 : decode cX9_faultNow 117 = .ok (.iload_n 3, 1) := by decide +kernel
theorem dX9_faultNow_118 : decode cX9_faultNow 118 = .ok (.ireturn, 1) := by decide +kernel
theorem dX9_faultNow_119 : decode cX9_faultNow 119 = .ok (.iload_n 1, 1) := by decide +kernel
theorem dX9_faultNow_120 : decode cX9_faultNow 120 = .ok (.iconst 1, 1) := by decide +kernel
theorem dX9_faultNow_121 : decode cX9_faultNow 121 = .ok (.iload_n 3, 1) := by decide +kernel
theorem dX9_faultNow_122 : decode cX9_faultNow 122 = .ok (.ishl, 1) := by decide +kernel
theorem dX9_faultNow_123 : decode cX9_faultNow 123 = .ok (.ior, 1) := by decide +kernel
theorem dX9_faultNow_124 : decode cX9_faultNow 124 = .ok (.istore_n 1, 1) := by decide +kernel
theorem dX9_faultNow_125 : decode cX9_faultNow 125 = .ok (.iinc 2 1, 3) := by decide +kernel
theorem dX9_faultNow_128 : decode cX9_faultNow 128 = .ok (.goto (-119), 3) := by decide +kernel
theorem dX9_faultNow_131 : decode cX9_faultNow 131 = .ok (.iconst (-1), 1) := by decide +kernel
theorem dX9_faultNow_132 : decode cX9_faultNow 132 = .ok (.ireturn, 1) := by decide +kernel
set_option maxRecDepth 20000 in
theorem ggX9_cliqueNow_X9_faultNow : GoodIn wsX9_cliqueNow wsX9_faultNow := goodIn_r _ [6, 1, 7, 8, 9, 10, 5, 11, 12, 13, 14, 15, 16, 17, 18, 19, 20, 21, 22, 23, 24, 25, 26, 27, 28, 29, 30, 31, 32, 33, 34, 35, 36, 37, 38, 39, 43, 44, 45, 46, 47, 48, 49, 50, 51, 52, 53, 54, 55, 56, 57, 58, 59] (by decide +kernel) (by decide +kernel)
set_option maxRecDepth 20000 in
theorem gX9_cliqueNow_X9_faultNow : GoodIn wsX9_cliqueNow (wsV RX9 139 RX9 yX9_faultNow wsX9_faultNow) := goodIn_app (goodIn_of _ (by decide +kernel)) ggX9_cliqueNow_X9_faultNow
set_option maxRecDepth 20000 in
theorem ggX9_cliqueNow_X9_has : GoodIn wsX9_cliqueNow wsX9_has := goodIn_r _ [23] (by decide +kernel) (by decide +kernel)
set_option maxRecDepth 20000 in
theorem gX9_cliqueNow_X9_has : GoodIn wsX9_cliqueNow (va_wsS RX9 69 yX9_has wsX9_has) := goodIn_app (goodIn_of _ (by decide +kernel)) ggX9_cliqueNow_X9_has
set_option maxRecDepth 20000 in
theorem ggX9_cliqueNow_X9_sizeOf : GoodIn wsX9_cliqueNow wsX9_sizeOf := goodIn_r _ [42] (by decide +kernel) (by decide +kernel)
set_option maxRecDepth 20000 in
theorem gX9_cliqueNow_X9_sizeOf : GoodIn wsX9_cliqueNow (va_wsS RX9 85 yX9_sizeOf wsX9_sizeOf) := goodIn_app (goodIn_of _ (by decide +kernel)) ggX9_cliqueNow_X9_sizeOf
theorem dX9_cliqueNow_0 : decode cX9_cliqueNow 0 = .ok (.aload_n 0, 1) := by decide +kernel
theorem dX9_cliqueNow_1 : decode cX9_cliqueNow 1 = .ok (.invokevirtual 139, 3) := by decide +kernel
theorem dX9_cliqueNow_4 : decode cX9_cliqueNow 4 = .ok (.iconst (-1), 1) := by decide +kernel
theorem dX9_cliqueNow_5 : decode cX9_cliqueNow 5 = .ok (.if_icmp .eq 5, 3) := by decide +kernel
theorem dX9_cliqueNow_8 : decode cX9_cliqueNow 8 = .ok (.iconst (-1), 1) := by decide +kernel
theorem dX9_cliqueNow_9 : decode cX9_cliqueNow 9 = .ok (.ireturn, 1) := by decide +kernel
theorem dX9_cliqueNow_10 : decode cX9_cliqueNow 10 = .ok (.iconst 0, 1) := by decide +kernel
theorem dX9_cliqueNow_11 : decode cX9_cliqueNow 11 = .ok (.istore_n 1, 1) := by decide +kernel
theorem dX9_cliqueNow_12 : decode cX9_cliqueNow 12 = .ok (.iconst 0, 1) := by decide +kernel
theorem dX9_cliqueNow_13 : decode cX9_cliqueNow 13 = .ok (.istore_n 2, 1) := by decide +kernel
theorem dX9_cliqueNow_14 : decode cX9_cliqueNow 14 = .ok (.iload_n 2, 1) := by decide +kernel
theorem dX9_cliqueNow_15 : decode cX9_cliqueNow 15 = .ok (.iconst 1, 1) := by decide +kernel
theorem dX9_cliqueNow_16 : decode cX9_cliqueNow 16 = .ok (.aload_n 0, 1) := by decide +kernel
theorem dX9_cliqueNow_17 : decode cX9_cliqueNow 17 = .ok (.getfield 7, 3) := by decide +kernel
theorem dX9_cliqueNow_20 : decode cX9_cliqueNow 20 = .ok (.iconst 0, 1) := by decide +kernel
theorem dX9_cliqueNow_21 : decode cX9_cliqueNow 21 = .ok (.iaload, 1) := by decide +kernel
theorem dX9_cliqueNow_22 : decode cX9_cliqueNow 22 = .ok (.ishl, 1) := by decide +kernel
theorem dX9_cliqueNow_23 : decode cX9_cliqueNow 23 = .ok (.if_icmp .ge 95, 3) := by decide +kernel
theorem dX9_cliqueNow_26 : decode cX9_cliqueNow 26 = .ok (.iconst 1, 1) := by decide +kernel
theorem dX9_cliqueNow_27 : decode cX9_cliqueNow 27 = .ok (.istore_n 3, 1) := by decide +kernel
theorem dX9_cliqueNow_28 : decode cX9_cliqueNow 28 = .ok (.iconst 0, 1) := by decide +kernel
theorem dX9_cliqueNow_29 : decode cX9_cliqueNow 29 = .ok (.istore 4, 2) := by decide +kernel
theorem dX9_cliqueNow_31 : decode cX9_cliqueNow 31 = .ok (.iload 4, 2) := by decide +kernel
theorem dX9_cliqueNow_33 : decode cX9_cliqueNow 33 = .ok (.aload_n 0, 1) := by decide +kernel
theorem dX9_cliqueNow_34 : decode cX9_cliqueNow 34 = .ok (.getfield 7, 3) := by decide +kernel
theorem dX9_cliqueNow_37 : decode cX9_cliqueNow 37 = .ok (.iconst 0, 1) := by decide +kernel
theorem dX9_cliqueNow_38 : decode cX9_cliqueNow 38 = .ok (.iaload, 1) := by decide +kernel
theorem dX9_cliqueNow_39 : decode cX9_cliqueNow 39 = .ok (.if_icmp .ge 52, 3) := by decide +kernel
theorem dX9_cliqueNow_42 : decode cX9_cliqueNow 42 = .ok (.iload_n 3, 1) := by decide +kernel
theorem dX9_cliqueNow_43 : decode cX9_cliqueNow 43 = .ok (.ifCond .eq 48, 3) := by decide +kernel
theorem dX9_cliqueNow_46 : decode cX9_cliqueNow 46 = .ok (.iload_n 2, 1) := by decide +kernel
theorem dX9_cliqueNow_47 : decode cX9_cliqueNow 47 = .ok (.iload 4, 2) := by decide +kernel
theorem dX9_cliqueNow_49 : decode cX9_cliqueNow 49 = .ok (.invokestatic 69, 3) := by decide +kernel
theorem dX9_cliqueNow_52 : decode cX9_cliqueNow 52 = .ok (.ifCond .eq 27, 3) := by decide +kernel
theorem dX9_cliqueNow_55 : decode cX9_cliqueNow 55 = .ok (.iload_n 2, 1) := by decide +kernel
theorem dX9_cliqueNow_56 : decode cX9_cliqueNow 56 = .ok (.iconst 1, 1) := by decide +kernel
theorem dX9_cliqueNow_57 : decode cX9_cliqueNow 57 = .ok (.iload 4, 2) := by decide +kernel
theorem dX9_cliqueNow_59 : decode cX9_cliqueNow 59 = .ok (.ishl, 1) := by decide +kernel
theorem dX9_cliqueNow_60 : decode cX9_cliqueNow 60 = .ok (.iconst (-1), 1) := by decide +kernel
theorem dX9_cliqueNow_61 : decode cX9_cliqueNow 61 = .ok (.ixor, 1) := by decide +kernel
theorem dX9_cliqueNow_62 : decode cX9_cliqueNow 62 = .ok (.iand, 1) := by decide +kernel
theorem dX9_cliqueNow_63 : decode cX9_cliqueNow 63 = .ok (.aload_n 0, 1) := by decide +kernel
theorem dX9_cliqueNow_64 : decode cX9_cliqueNow 64 = .ok (.getfield 7, 3) := by decide +kernel
theorem dX9_cliqueNow_67 : decode cX9_cliqueNow 67 = .ok (.bipush 16, 2) := by decide +kernel
theorem dX9_cliqueNow_69 : decode cX9_cliqueNow 69 = .ok (.iload 4, 2) := by decide +kernel
theorem dX9_cliqueNow_71 : decode cX9_cliqueNow 71 = .ok (.iadd, 1) := by decide +kernel
theorem dX9_cliqueNow_72 : decode cX9_cliqueNow 72 = .ok (.iaload, 1) := by decide +kernel
theorem dX9_cliqueNow_73 : decode cX9_cliqueNow 73 = .ok (.iconst (-1), 1) := by decide +kernel
theorem dX9_cliqueNow_74 : decode cX9_cliqueNow 74 = .ok (.ixor, 1) := by decide +kernel
theorem dX9_cliqueNow_75 : decode cX9_cliqueNow 75 = .ok (.iand, 1) := by decide +kernel
theorem dX9_cliqueNow_76 : decode cX9_cliqueNow 76 = .ok (.ifCond .ne 7, 3) := by decide +kernel
theorem dX9_cliqueNow_79 : decode cX9_cliqueNow 79 = .ok (.iconst 1, 1) := by decide +kernel
theorem dX9_cliqueNow_80 : decode cX9_cliqueNow 80 = .ok (.goto 4, 3) := by decide +kernel
theorem dX9_cliqueNow_83 : decode cX9_cliqueNow 83 = .ok (.iconst 0, 1) := by decide +kernel
theorem dX9_cliqueNow_84 : decode cX9_cliqueNow 84 = .ok (.istore_n 3, 1) := by decide +kernel
theorem dX9_cliqueNow_85 : decode cX9_cliqueNow 85 = .ok (.iinc 4 1, 3) := by decide +kernel
theorem dX9_cliqueNow_88 : decode cX9_cliqueNow 88 = .ok (.goto (-57), 3) := by decide +kernel
theorem dX9_cliqueNow_91 : decode cX9_cliqueNow 91 = .ok (.iload_n 3, 1) := by decide +kernel
theorem dX9_cliqueNow_92 : decode cX9_cliqueNow 92 = .ok (.ifCond .eq 18, 3) := by decide +kernel
theorem dX9_cliqueNow_95 : decode cX9_cliqueNow 95 = .ok (.iload_n 2, 1) := by decide +kernel
theorem dX9_cliqueNow_96 : decode cX9_cliqueNow 96 = .ok (.invokestatic 85, 3) := by decide +kernel
theorem dX9_cliqueNow_99 : decode cX9_cliqueNow 99 = .ok (.iload_n 1, 1) := by decide +kernel
theorem dX9_cliqueNow_100 : decode cX9_cliqueNow 100 = .ok (.if_icmp .le 10, 3) := by decide +kernel
theorem dX9_cliqueNow_103 : decode cX9_cliqueNow 103 = .ok (.iload_n 2, 1) := by decide +kernel
theorem dX9_cliqueNow_104 : decode cX9_cliqueNow 104 = .ok (.invokestatic 85, 3) := by decide +kernel
theorem dX9_cliqueNow_107 : decode cX9_cliqueNow 107 = .ok (.goto 4, 3) := by decide +kernel
theorem dX9_cliqueNow_110 : decode cX9_cliqueNow 110 = .ok (.iload_n 1, 1) := by decide +kernel
theorem dX9_cliqueNow_111 : decode cX9_cliqueNow 111 = .ok (.istore_n 1, 1) := by decide +kernel
theorem dX9_cliqueNow_112 : decode cX9_cliqueNow 112 = .ok (.iinc 2 1, 3) := by decide +kernel
theorem dX9_cliqueNow_115 : decode cX9_cliqueNow 115 = .ok (.goto (-101), 3) := by decide +kernel
theorem dX9_cliqueNow_118 : decode cX9_cliqueNow 118 = .ok (.iload_n 1, 1) := by decide +kernel
theorem dX9_cliqueNow_119 : decode cX9_cliqueNow 119 = .ok (.ireturn, 1) := by decide +kernel
set_option maxRecDepth 20000 in
theorem ggX9_edgesNow_X9_sizeOf : GoodIn wsX9_edgesNow wsX9_sizeOf := goodIn_r _ [5] (by decide +kernel) (by decide +kernel)
set_option maxRecDepth 20000 in
theorem gX9_edgesNow_X9_sizeOf : GoodIn wsX9_edgesNow (va_wsS RX9 85 yX9_sizeOf wsX9_sizeOf) := goodIn_app (goodIn_of _ (by decide +kernel)) ggX9_edgesNow_X9_sizeOf
theorem dX9_edgesNow_0 : decode cX9_edgesNow 0 = .ok (.iconst 0, 1) := by decide +kernel
theorem dX9_edgesNow_1 : decode cX9_edgesNow 1 = .ok (.istore_n 1, 1) := by decide +kernel
theorem dX9_edgesNow_2 : decode cX9_edgesNow 2 = .ok (.iconst 0, 1) := by decide +kernel
theorem dX9_edgesNow_3 : decode cX9_edgesNow 3 = .ok (.istore_n 2, 1) := by decide +kernel
theorem dX9_edgesNow_4 : decode cX9_edgesNow 4 = .ok (.iload_n 2, 1) := by decide +kernel
theorem dX9_edgesNow_5 : decode cX9_edgesNow 5 = .ok (.aload_n 0, 1) := by decide +kernel
theorem dX9_edgesNow_6 : decode cX9_edgesNow 6 = .ok (.getfield 7, 3) := by decide +kernel
theorem dX9_edgesNow_9 : decode cX9_edgesNow 9 = .ok (.iconst 0, 1) := by decide +kernel
theorem dX9_edgesNow_10 : decode cX9_edgesNow 10 = .ok (.iaload, 1) := by decide +kernel
theorem dX9_edgesNow_11 : decode cX9_edgesNow 11 = .ok (.if_icmp .ge 24, 3) := by decide +kernel
theorem dX9_edgesNow_14 : decode cX9_edgesNow 14 = .ok (.iload_n 1, 1) := by decide +kernel
theorem dX9_edgesNow_15 : decode cX9_edgesNow 15 = .ok (.aload_n 0, 1) := by decide +kernel
theorem dX9_edgesNow_16 : decode cX9_edgesNow 16 = .ok (.getfield 7, 3) := by decide +kernel
theorem dX9_edgesNow_19 : decode cX9_edgesNow 19 = .ok (.bipush 16, 2) := by decide +kernel
theorem dX9_edgesNow_21 : decode cX9_edgesNow 21 = .ok (.iload_n 2, 1) := by decide +kernel
theorem dX9_edgesNow_22 : decode cX9_edgesNow 22 = .ok (.iadd, 1) := by decide +kernel
theorem dX9_edgesNow_23 : decode cX9_edgesNow 23 = .ok (.iaload, 1) := by decide +kernel
theorem dX9_edgesNow_24 : decode cX9_edgesNow 24 = .ok (.invokestatic 85, 3) := by decide +kernel
theorem dX9_edgesNow_27 : decode cX9_edgesNow 27 = .ok (.iadd, 1) := by decide +kernel
theorem dX9_edgesNow_28 : decode cX9_edgesNow 28 = .ok (.istore_n 1, 1) := by decide +kernel
theorem dX9_edgesNow_29 : decode cX9_edgesNow 29 = .ok (.iinc 2 1, 3) := by decide +kernel
theorem dX9_edgesNow_32 : decode cX9_edgesNow 32 = .ok (.goto (-28), 3) := by decide +kernel
theorem dX9_edgesNow_35 : decode cX9_edgesNow 35 = .ok (.iload_n 1, 1) := by decide +kernel
theorem dX9_edgesNow_36 : decode cX9_edgesNow 36 = .ok (.iconst 2, 1) := by decide +kernel
theorem dX9_edgesNow_37 : decode cX9_edgesNow 37 = .ok (.idiv, 1) := by decide +kernel
theorem dX9_edgesNow_38 : decode cX9_edgesNow 38 = .ok (.ireturn, 1) := by decide +kernel
set_option maxRecDepth 20000 in
theorem ggX9_wrongNow_X9_isItem : GoodIn wsX9_wrongNow wsX9_isItem := goodIn_r _ [9, 3, 10, 11, 8, 12, 13, 14, 15, 16, 17, 18, 19, 20, 21, 22, 23, 24, 25, 26, 27, 28, 29] (by decide +kernel) (by decide +kernel)
set_option maxRecDepth 20000 in
theorem gX9_wrongNow_X9_isItem : GoodIn wsX9_wrongNow (wsV RX9 89 RX9 yX9_isItem wsX9_isItem) := goodIn_app (goodIn_of _ (by decide +kernel)) ggX9_wrongNow_X9_isItem
theorem dX9_wrongNow_0 : decode cX9_wrongNow 0 = .ok (.iconst 0, 1) := by decide +kernel
theorem dX9_wrongNow_1 : decode cX9_wrongNow 1 = .ok (.istore_n 1, 1) := by decide +kernel
theorem dX9_wrongNow_2 : decode cX9_wrongNow 2 = .ok (.iload_n 1, 1) := by decide +kernel
theorem dX9_wrongNow_3 : decode cX9_wrongNow 3 = .ok (.aload_n 0, 1) := by decide +kernel
theorem dX9_wrongNow_4 : decode cX9_wrongNow 4 = .ok (.getfield 143, 3) := by decide +kernel
theorem dX9_wrongNow_7 : decode cX9_wrongNow 7 = .ok (.if_icmp .ge 47, 3) := by decide +kernel
theorem dX9_wrongNow_10 : decode cX9_wrongNow 10 = .ok (.aload_n 0, 1) := by decide +kernel
theorem dX9_wrongNow_11 : decode cX9_wrongNow 11 = .ok (.aload_n 0, 1) := by decide +kernel
theorem dX9_wrongNow_12 : decode cX9_wrongNow 12 = .ok (.getfield 23, 3) := by decide +kernel
theorem dX9_wrongNow_15 : decode cX9_wrongNow 15 = .ok (.iload_n 1, 1) := by decide +kernel
theorem dX9_wrongNow_16 : decode cX9_wrongNow 16 = .ok (.iaload, 1) := by decide +kernel
theorem dX9_wrongNow_17 : decode cX9_wrongNow 17 = .ok (.invokevirtual 89, 3) := by decide +kernel
theorem dX9_wrongNow_20 : decode cX9_wrongNow 20 = .ok (.ifCond .eq 26, 3) := by decide +kernel
theorem dX9_wrongNow_23 : decode cX9_wrongNow 23 = .ok (.aload_n 0, 1) := by decide +kernel
theorem dX9_wrongNow_24 : decode cX9_wrongNow 24 = .ok (.getfield 7, 3) := by decide +kernel
theorem dX9_wrongNow_27 : decode cX9_wrongNow 27 = .ok (.bipush 64, 2) := by decide +kernel
theorem dX9_wrongNow_29 : decode cX9_wrongNow 29 = .ok (.aload_n 0, 1) := by decide +kernel
theorem dX9_wrongNow_30 : decode cX9_wrongNow 30 = .ok (.getfield 23, 3) := by decide +kernel
theorem dX9_wrongNow_33 : decode cX9_wrongNow 33 = .ok (.iload_n 1, 1) := by decide +kernel
theorem dX9_wrongNow_34 : decode cX9_wrongNow 34 = .ok (.iaload, 1) := by decide +kernel
theorem dX9_wrongNow_35 : decode cX9_wrongNow 35 = .ok (.iadd, 1) := by decide +kernel
theorem dX9_wrongNow_36 : decode cX9_wrongNow 36 = .ok (.iaload, 1) := by decide +kernel
theorem dX9_wrongNow_37 : decode cX9_wrongNow 37 = .ok (.aload_n 0, 1) := by decide +kernel
theorem dX9_wrongNow_38 : decode cX9_wrongNow 38 = .ok (.getfield 26, 3) := by decide +kernel
theorem dX9_wrongNow_41 : decode cX9_wrongNow 41 = .ok (.iload_n 1, 1) := by decide +kernel
theorem dX9_wrongNow_42 : decode cX9_wrongNow 42 = .ok (.iaload, 1) := by decide +kernel
theorem dX9_wrongNow_43 : decode cX9_wrongNow 43 = .ok (.if_icmp .eq 5, 3) := by decide +kernel
theorem dX9_wrongNow_46 : decode cX9_wrongNow 46 = .ok (.iload_n 1, 1) := by decide +kernel
theorem dX9_wrongNow_47 : decode cX9_wrongNow 47 = .ok (.ireturn, 1) := by decide +kernel
theorem dX9_wrongNow_48 : decode cX9_wrongNow 48 = .ok (.iinc 1 1, 3) := by decide +kernel
theorem dX9_wrongNow_51 : decode cX9_wrongNow 51 = .ok (.goto (-49), 3) := by decide +kernel
theorem dX9_wrongNow_54 : decode cX9_wrongNow 54 = .ok (.iconst (-1), 1) := by decide +kernel
theorem dX9_wrongNow_55 : decode cX9_wrongNow 55 = .ok (.ireturn, 1) := by decide +kernel
set_option maxRecDepth 20000 in
theorem ggX9_told_X9_classes : GoodIn wsX9_told wsX9_classes := goodIn_r _ [10, 1, 110, 111, 112, 113, 114, 115, 116, 117, 118, 119, 120, 121, 122, 123, 124, 125, 126] (by decide +kernel) (by decide +kernel)
set_option maxRecDepth 20000 in
theorem gX9_told_X9_classes : GoodIn wsX9_told (wsV RX9 73 RX9 yX9_classes wsX9_classes) := goodIn_app (goodIn_of _ (by decide +kernel)) ggX9_told_X9_classes
set_option maxRecDepth 20000 in
theorem ggX9_told_X9_edgesNow : GoodIn wsX9_told wsX9_edgesNow := goodIn_r _ [14, 1, 15, 16, 9, 17, 110, 111, 112, 113, 114, 115, 116, 117, 118, 119, 120, 121, 122, 123, 124, 125, 126] (by decide +kernel) (by decide +kernel)
set_option maxRecDepth 20000 in
theorem gX9_told_X9_edgesNow : GoodIn wsX9_told (wsV RX9 146 RX9 yX9_edgesNow wsX9_edgesNow) := goodIn_app (goodIn_of _ (by decide +kernel)) ggX9_told_X9_edgesNow
set_option maxRecDepth 20000 in
theorem ggX9_told_X9_refinedMany : GoodIn wsX9_told wsX9_refinedMany := goodIn_r _ [21, 22, 23, 24, 25, 9, 26, 27, 28, 29, 30, 1, 31, 32, 33, 34, 35, 36, 37, 38, 39, 40, 41, 42, 43, 44, 15, 16, 17, 45, 46, 47, 48, 49, 50, 51, 52, 53, 54, 55, 56, 57, 58, 59, 60, 61, 62, 63, 64, 65, 66, 67, 68, 69, 70, 71, 72, 73, 74, 75, 76, 77, 78, 79, 6, 7, 8, 10, 110, 111, 112, 113, 114, 115, 116, 117, 118, 119, 120, 121, 122, 123, 124, 125, 126] (by decide +kernel) (by decide +kernel)
set_option maxRecDepth 20000 in
theorem gX9_told_X9_refinedMany : GoodIn wsX9_told (wsV RX9 149 RX9 yX9_refinedMany wsX9_refinedMany) := goodIn_app (goodIn_of _ (by decide +kernel)) ggX9_told_X9_refinedMany
set_option maxRecDepth 20000 in
theorem ggX9_told_X9_faultNow : GoodIn wsX9_told wsX9_faultNow := goodIn_r _ [83, 1, 84, 85, 86, 87, 9, 88, 22, 52, 53, 54, 55, 89, 90, 91, 92, 38, 39, 40, 76, 77, 78, 79, 37, 6, 7, 8, 10, 45, 46, 47, 56, 57, 58, 59, 110, 111, 112, 113, 114, 115, 116, 117, 118, 119, 120, 121, 122, 123, 124, 125, 126] (by decide +kernel) (by decide +kernel)
set_option maxRecDepth 20000 in
theorem gX9_told_X9_faultNow : GoodIn wsX9_told (wsV RX9 139 RX9 yX9_faultNow wsX9_faultNow) := goodIn_app (goodIn_of _ (by decide +kernel)) ggX9_told_X9_faultNow
set_option maxRecDepth 20000 in
theorem ggX9_told_X9_cliqueNow : GoodIn wsX9_told wsX9_cliqueNow := goodIn_r _ [96, 1, 80, 81, 82, 9, 83, 84, 85, 86, 87, 88, 22, 52, 53, 54, 55, 89, 90, 91, 92, 38, 39, 40, 76, 77, 78, 79, 37, 6, 7, 8, 10, 45, 46, 47, 56, 57, 58, 59, 15, 16, 17, 110, 111, 112, 113, 114, 115, 116, 117, 118, 119, 120, 121, 122, 123, 124, 125, 126] (by decide +kernel) (by decide +kernel)
set_option maxRecDepth 20000 in
theorem gX9_told_X9_cliqueNow : GoodIn wsX9_told (wsV RX9 152 RX9 yX9_cliqueNow wsX9_cliqueNow) := goodIn_app (goodIn_of _ (by decide +kernel)) ggX9_told_X9_cliqueNow
set_option maxRecDepth 20000 in
theorem ggX9_told_X9_wrongNow : GoodIn wsX9_told wsX9_wrongNow := goodIn_r _ [100, 2, 101, 1, 102, 103, 104, 105, 9, 106, 107, 108, 109, 110, 111, 112, 113, 114, 115, 116, 117, 118, 119, 120, 121, 122, 123, 124, 125, 126] (by decide +kernel) (by decide +kernel)
set_option maxRecDepth 20000 in
theorem gX9_told_X9_wrongNow : GoodIn wsX9_told (wsV RX9 155 RX9 yX9_wrongNow wsX9_wrongNow) := goodIn_app (goodIn_of _ (by decide +kernel)) ggX9_told_X9_wrongNow
theorem dX9_told_0 : decode cX9_told 0 = .ok (.iload_n 1, 1) := by decide +kernel
theorem dX9_told_1 : decode cX9_told 1 = .ok (.tableswitch 166 0 16 #[83, 90, 101, 108, 113, 120, 127, 127, 127, 127, 127, 136, 141, 146, 151, 156, 161], 83) := by decide +kernel
theorem dX9_told_84 : decode cX9_told 84 = .ok (.aload_n 0, 1) := by decide +kernel
theorem dX9_told_85 : decode cX9_told 85 = .ok (.getfield 7, 3) := by decide +kernel
theorem dX9_told_88 : decode cX9_told 88 = .ok (.iconst 0, 1) := by decide +kernel
theorem dX9_told_89 : decode cX9_told 89 = .ok (.iaload, 1) := by decide +kernel
theorem dX9_told_90 : decode cX9_told 90 = .ok (.ireturn, 1) := by decide +kernel
theorem dX9_told_91 : decode cX9_told 91 = .ok (.aload_n 0, 1) := by decide +kernel
theorem dX9_told_92 : decode cX9_told 92 = .ok (.aload_n 0, 1) := by decide +kernel
theorem dX9_told_93 : decode cX9_told 93 = .ok (.getfield 7, 3) := by decide +kernel
theorem dX9_told_96 : decode cX9_told 96 = .ok (.bipush 64, 2) := by decide +kernel
theorem dX9_told_98 : decode cX9_told 98 = .ok (.invokevirtual 73, 3) := by decide +kernel
theorem dX9_told_101 : decode cX9_told 101 = .ok (.ireturn, 1) := by decide +kernel
theorem dX9_told_102 : decode cX9_told 102 = .ok (.aload_n 0, 1) := by decide +kernel
theorem dX9_told_103 : decode cX9_told 103 = .ok (.getfield 7, 3) := by decide +kernel
theorem dX9_told_106 : decode cX9_told 106 = .ok (.iconst 3, 1) := by decide +kernel
theorem dX9_told_107 : decode cX9_told 107 = .ok (.iaload, 1) := by decide +kernel
theorem dX9_told_108 : decode cX9_told 108 = .ok (.ireturn, 1) := by decide +kernel
theorem dX9_told_109 : decode cX9_told 109 = .ok (.aload_n 0, 1) := by decide +kernel
theorem dX9_told_110 : decode cX9_told 110 = .ok (.invokevirtual 146, 3) := by decide +kernel
theorem dX9_told_113 : decode cX9_told 113 = .ok (.ireturn, 1) := by decide +kernel
theorem dX9_told_114 : decode cX9_told 114 = .ok (.aload_n 0, 1) := by decide +kernel
theorem dX9_told_115 : decode cX9_told 115 = .ok (.getfield 7, 3) := by decide +kernel
theorem dX9_told_118 : decode cX9_told 118 = .ok (.iconst 1, 1) := by decide +kernel
theorem dX9_told_119 : decode cX9_told 119 = .ok (.iaload, 1) := by decide +kernel
theorem dX9_told_120 : decode cX9_told 120 = .ok (.ireturn, 1) := by decide +kernel
theorem dX9_told_121 : decode cX9_told 121 = .ok (.aload_n 0, 1) := by decide +kernel
theorem dX9_told_122 : decode cX9_told 122 = .ok (.getfield 7, 3) := by decide +kernel
theorem dX9_told_125 : decode cX9_told 125 = .ok (.iconst 2, 1) := by decide +kernel
theorem dX9_told_126 : decode cX9_told 126 = .ok (.iaload, 1) := by decide +kernel
theorem dX9_told_127 : decode cX9_told 127 = .ok (.ireturn, 1) := by decide +kernel
theorem dX9_told_128 : decode cX9_told 128 = .ok (.aload_n 0, 1) := by decide +kernel
theorem dX9_told_129 : decode cX9_told 129 = .ok (.iload_n 1, 1) := by decide +kernel
theorem dX9_told_130 : decode cX9_told 130 = .ok (.bipush 6, 2) := by decide +kernel
theorem dX9_told_132 : decode cX9_told 132 = .ok (.isub, 1) := by decide +kernel
theorem dX9_told_133 : decode cX9_told 133 = .ok (.invokevirtual 149, 3) := by decide +kernel
theorem dX9_told_136 : decode cX9_told 136 = .ok (.ireturn, 1) := by decide +kernel
theorem dX9_told_137 : decode cX9_told 137 = .ok (.aload_n 0, 1) := by decide +kernel
theorem dX9_told_138 : decode cX9_told 138 = .ok (.invokevirtual 139, 3) := by decide +kernel
theorem dX9_told_141 : decode cX9_told 141 = .ok (.ireturn, 1) := by decide +kernel
theorem dX9_told_142 : decode cX9_told 142 = .ok (.aload_n 0, 1) := by decide +kernel
theorem dX9_told_143 : decode cX9_told 143 = .ok (.invokevirtual 152, 3) := by decide +kernel
theorem dX9_told_146 : decode cX9_told 146 = .ok (.ireturn, 1) := by decide +kernel
theorem dX9_told_147 : decode cX9_told 147 = .ok (.aload_n 0, 1) := by decide +kernel
theorem dX9_told_148 : decode cX9_told 148 = .ok (.getfield 143, 3) := by decide +kernel
theorem dX9_told_151 : decode cX9_told 151 = .ok (.ireturn, 1) := by decide +kernel
theorem dX9_told_152 : decode cX9_told 152 = .ok (.aload_n 0, 1) := by decide +kernel
theorem dX9_told_153 : decode cX9_told 153 = .ok (.invokevirtual 155, 3) := by decide +kernel
theorem dX9_told_156 : decode cX9_told 156 = .ok (.ireturn, 1) := by decide +kernel
theorem dX9_told_157 : decode cX9_told 157 = .ok (.aload_n 0, 1) := by decide +kernel
theorem dX9_told_158 : decode cX9_told 158 = .ok (.getfield 61, 3) := by decide +kernel
theorem dX9_told_161 : decode cX9_told 161 = .ok (.ireturn, 1) := by decide +kernel
theorem dX9_told_162 : decode cX9_told 162 = .ok (.aload_n 0, 1) := by decide +kernel
theorem dX9_told_163 : decode cX9_told 163 = .ok (.getfield 158, 3) := by decide +kernel
theorem dX9_told_166 : decode cX9_told 166 = .ok (.ireturn, 1) := by decide +kernel
theorem dX9_told_167 : decode cX9_told 167 = .ok (.ldc 94, 2) := by decide +kernel
theorem dX9_told_169 : decode cX9_told 169 = .ok (.ireturn, 1) := by decide +kernel
set_option maxRecDepth 20000 in
theorem ggX9_item_X9_isItem : GoodIn wsX9_item wsX9_isItem := goodIn_r _ [8, 2, 9, 10, 7, 11, 19, 20, 21, 22, 23, 24, 25, 26, 27, 28, 29, 30, 31, 32, 33, 34, 35] (by decide +kernel) (by decide +kernel)
set_option maxRecDepth 20000 in
theorem gX9_item_X9_isItem : GoodIn wsX9_item (wsV RX9 89 RX9 yX9_isItem wsX9_isItem) := goodIn_app (goodIn_of _ (by decide +kernel)) ggX9_item_X9_isItem
set_option maxRecDepth 20000 in
theorem ggX9_item_X9_membersOf : GoodIn wsX9_item wsX9_membersOf := goodIn_r _ [15, 2, 19, 20, 21, 22, 23, 24, 25, 26, 27, 28, 29, 30, 31, 32, 33, 34, 35] (by decide +kernel) (by decide +kernel)
set_option maxRecDepth 20000 in
theorem gX9_item_X9_membersOf : GoodIn wsX9_item (wsV RX9 77 RX9 yX9_membersOf wsX9_membersOf) := goodIn_app (goodIn_of _ (by decide +kernel)) ggX9_item_X9_membersOf
set_option maxRecDepth 20000 in
theorem ggX9_item_X9_sizeOf : GoodIn wsX9_item wsX9_sizeOf := goodIn_r _ [18] (by decide +kernel) (by decide +kernel)
set_option maxRecDepth 20000 in
theorem gX9_item_X9_sizeOf : GoodIn wsX9_item (va_wsS RX9 85 yX9_sizeOf wsX9_sizeOf) := goodIn_app (goodIn_of _ (by decide +kernel)) ggX9_item_X9_sizeOf
theorem dX9_item_0 : decode cX9_item 0 = .ok (.aload_n 0, 1) := by decide +kernel
theorem dX9_item_1 : decode cX9_item 1 = .ok (.iload_n 1, 1) := by decide +kernel
theorem dX9_item_2 : decode cX9_item 2 = .ok (.invokevirtual 89, 3) := by decide +kernel
theorem dX9_item_5 : decode cX9_item 5 = .ok (.ifCond .ne 6, 3) := by decide +kernel
theorem dX9_item_8 : decode cX9_item 8 = .ok (.ldc 93, 2) := by decide +kernel
theorem dX9_item_10 : decode cX9_item 10 = .ok (.ireturn, 1) := by decide +kernel
theorem dX9_item_11 : decode cX9_item 11 = .ok (.iload_n 2, 1) := by decide +kernel
theorem dX9_item_12 : decode cX9_item 12 = .ok (.tableswitch 128 0 6 #[44, 53, 63, 73, 96, 96, 96], 44) := by decide +kernel
theorem dX9_item_56 : decode cX9_item 56 = .ok (.aload_n 0, 1) := by decide +kernel
theorem dX9_item_57 : decode cX9_item 57 = .ok (.getfield 7, 3) := by decide +kernel
theorem dX9_item_60 : decode cX9_item 60 = .ok (.iconst 4, 1) := by decide +kernel
theorem dX9_item_61 : decode cX9_item 61 = .ok (.iload_n 1, 1) := by decide +kernel
theorem dX9_item_62 : decode cX9_item 62 = .ok (.iadd, 1) := by decide +kernel
theorem dX9_item_63 : decode cX9_item 63 = .ok (.iaload, 1) := by decide +kernel
theorem dX9_item_64 : decode cX9_item 64 = .ok (.ireturn, 1) := by decide +kernel
theorem dX9_item_65 : decode cX9_item 65 = .ok (.aload_n 0, 1) := by decide +kernel
theorem dX9_item_66 : decode cX9_item 66 = .ok (.getfield 7, 3) := by decide +kernel
theorem dX9_item_69 : decode cX9_item 69 = .ok (.bipush 16, 2) := by decide +kernel
theorem dX9_item_71 : decode cX9_item 71 = .ok (.iload_n 1, 1) := by decide +kernel
theorem dX9_item_72 : decode cX9_item 72 = .ok (.iadd, 1) := by decide +kernel
theorem dX9_item_73 : decode cX9_item 73 = .ok (.iaload, 1) := by decide +kernel
theorem dX9_item_74 : decode cX9_item 74 = .ok (.ireturn, 1) := by decide +kernel
theorem dX9_item_75 : decode cX9_item 75 = .ok (.aload_n 0, 1) := by decide +kernel
theorem dX9_item_76 : decode cX9_item 76 = .ok (.getfield 7, 3) := by decide +kernel
theorem dX9_item_79 : decode cX9_item 79 = .ok (.bipush 64, 2) := by decide +kernel
theorem dX9_item_81 : decode cX9_item 81 = .ok (.iload_n 1, 1) := by decide +kernel
theorem dX9_item_82 : decode cX9_item 82 = .ok (.iadd, 1) := by decide +kernel
theorem dX9_item_83 : decode cX9_item 83 = .ok (.iaload, 1) := by decide +kernel
theorem dX9_item_84 : decode cX9_item 84 = .ok (.ireturn, 1) := by decide +kernel
theorem dX9_item_85 : decode cX9_item 85 = .ok (.aload_n 0, 1) := by decide +kernel
theorem dX9_item_86 : decode cX9_item 86 = .ok (.aload_n 0, 1) := by decide +kernel
theorem dX9_item_87 : decode cX9_item 87 = .ok (.getfield 7, 3) := by decide +kernel
theorem dX9_item_90 : decode cX9_item 90 = .ok (.bipush 64, 2) := by decide +kernel
theorem dX9_item_92 : decode cX9_item 92 = .ok (.aload_n 0, 1) := by decide +kernel
theorem dX9_item_93 : decode cX9_item 93 = .ok (.getfield 7, 3) := by decide +kernel
theorem dX9_item_96 : decode cX9_item 96 = .ok (.bipush 64, 2) := by decide +kernel
theorem dX9_item_98 : decode cX9_item 98 = .ok (.iload_n 1, 1) := by decide +kernel
theorem dX9_item_99 : decode cX9_item 99 = .ok (.iadd, 1) := by decide +kernel
theorem dX9_item_100 : decode cX9_item 100 = .ok (.iaload, 1) := by decide +kernel
theorem dX9_item_101 : decode cX9_item 101 = .ok (.invokevirtual 77, 3) := by decide +kernel
theorem dX9_item_104 : decode cX9_item 104 = .ok (.invokestatic 85, 3) := by decide +kernel
theorem dX9_item_107 : decode cX9_item 107 = .ok (.ireturn, 1) := by decide +kernel
theorem dX9_item_108 : decode cX9_item 108 = .ok (.iload_n 2, 1) := by decide +kernel
theorem dX9_item_109 : decode cX9_item 109 = .ok (.iconst 4, 1) := by decide +kernel
theorem dX9_item_110 : decode cX9_item 110 = .ok (.isub, 1) := by decide +kernel
theorem dX9_item_111 : decode cX9_item 111 = .ok (.aload_n 0, 1) := by decide +kernel
theorem dX9_item_112 : decode cX9_item 112 = .ok (.getfield 7, 3) := by decide +kernel
theorem dX9_item_115 : decode cX9_item 115 = .ok (.iconst 1, 1) := by decide +kernel
