theorem dX7_digest_49 : decode cX7_digest 49 = .ok (.aload_n 0, 1) := by decide +kernel
theorem dX7_digest_50 : decode cX7_digest 50 = .ok (.getfield 7, 3) := by decide +kernel
theorem dX7_digest_53 : decode cX7_digest 53 = .ok (.iconst 1, 1) := by decide +kernel
theorem dX7_digest_54 : decode cX7_digest 54 = .ok (.iload_n 1, 1) := by decide +kernel
theorem dX7_digest_55 : decode cX7_digest 55 = .ok (.iadd, 1) := by decide +kernel
theorem dX7_digest_56 : decode cX7_digest 56 = .ok (.iaload, 1) := by decide +kernel
theorem dX7_digest_57 : decode cX7_digest 57 = .ok (.invokevirtual 129, 3) := by decide +kernel
theorem dX7_digest_60 : decode cX7_digest 60 = .ok (.aload_n 0, 1) := by decide +kernel
theorem dX7_digest_61 : decode cX7_digest 61 = .ok (.aload_n 0, 1) := by decide +kernel
theorem dX7_digest_62 : decode cX7_digest 62 = .ok (.getfield 7, 3) := by decide +kernel
theorem dX7_digest_65 : decode cX7_digest 65 = .ok (.bipush 9, 2) := by decide +kernel
theorem dX7_digest_67 : decode cX7_digest 67 = .ok (.iload_n 1, 1) := by decide +kernel
theorem dX7_digest_68 : decode cX7_digest 68 = .ok (.iadd, 1) := by decide +kernel
theorem dX7_digest_69 : decode cX7_digest 69 = .ok (.iaload, 1) := by decide +kernel
theorem dX7_digest_70 : decode cX7_digest 70 = .ok (.invokevirtual 129, 3) := by decide +kernel
theorem dX7_digest_73 : decode cX7_digest 73 = .ok (.iinc 1 1, 3) := by decide +kernel
theorem dX7_digest_76 : decode cX7_digest 76 = .ok (.goto (-34), 3) := by decide +kernel
theorem dX7_digest_79 : decode cX7_digest 79 = .ok (.aload_n 0, 1) := by decide +kernel
theorem dX7_digest_80 : decode cX7_digest 80 = .ok (.aload_n 0, 1) := by decide +kernel
theorem dX7_digest_81 : decode cX7_digest 81 = .ok (.getfield 7, 3) := by decide +kernel
theorem dX7_digest_84 : decode cX7_digest 84 = .ok (.bipush 17, 2) := by decide +kernel
theorem dX7_digest_86 : decode cX7_digest 86 = .ok (.iaload, 1) := by decide +kernel
theorem dX7_digest_87 : decode cX7_digest 87 = .ok (.invokevirtual 129, 3) := by decide +kernel
theorem dX7_digest_90 : decode cX7_digest 90 = .ok (.iconst 0, 1) := by decide +kernel
theorem dX7_digest_91 : decode cX7_digest 91 = .ok (.istore_n 1, 1) := by decide +kernel
theorem dX7_digest_92 : decode cX7_digest 92 = .ok (.iload_n 1, 1) := by decide +kernel
theorem dX7_digest_93 : decode cX7_digest 93 = .ok (.aload_n 0, 1) := by decide +kernel
theorem dX7_digest_94 : decode cX7_digest 94 = .ok (.getfield 7, 3) := by decide +kernel
theorem dX7_digest_97 : decode cX7_digest 97 = .ok (.bipush 17, 2) := by decide +kernel
theorem dX7_digest_99 : decode cX7_digest 99 = .ok (.iaload, 1) := by decide +kernel
theorem dX7_digest_100 : decode cX7_digest 100 = .ok (.if_icmp .ge 14, 3) := by decide +kernel
theorem dX7_digest_103 : decode cX7_digest 103 = .ok (.aload_n 0, 1) := by decide +kernel
theorem dX7_digest_104 : decode cX7_digest 104 = .ok (.iload_n 1, 1) := by decide +kernel
theorem dX7_digest_105 : decode cX7_digest 105 = .ok (.invokevirtual 134, 3) := by decide +kernel
theorem dX7_digest_108 : decode cX7_digest 108 = .ok (.iinc 1 1, 3) := by decide +kernel
theorem dX7_digest_111 : decode cX7_digest 111 = .ok (.goto (-19), 3) := by decide +kernel
theorem dX7_digest_114 : decode cX7_digest 114 = .ok (.aload_n 0, 1) := by decide +kernel
theorem dX7_digest_115 : decode cX7_digest 115 = .ok (.invokevirtual 102, 3) := by decide +kernel
theorem dX7_digest_118 : decode cX7_digest 118 = .ok (.aload_n 0, 1) := by decide +kernel
theorem dX7_digest_119 : decode cX7_digest 119 = .ok (.aload_n 0, 1) := by decide +kernel
theorem dX7_digest_120 : decode cX7_digest 120 = .ok (.getfield 99, 3) := by decide +kernel
theorem dX7_digest_123 : decode cX7_digest 123 = .ok (.invokevirtual 129, 3) := by decide +kernel
theorem dX7_digest_126 : decode cX7_digest 126 = .ok (.iconst 0, 1) := by decide +kernel
theorem dX7_digest_127 : decode cX7_digest 127 = .ok (.istore_n 1, 1) := by decide +kernel
theorem dX7_digest_128 : decode cX7_digest 128 = .ok (.iload_n 1, 1) := by decide +kernel
theorem dX7_digest_129 : decode cX7_digest 129 = .ok (.aload_n 0, 1) := by decide +kernel
theorem dX7_digest_130 : decode cX7_digest 130 = .ok (.getfield 99, 3) := by decide +kernel
theorem dX7_digest_133 : decode cX7_digest 133 = .ok (.if_icmp .ge 29, 3) := by decide +kernel
theorem dX7_digest_136 : decode cX7_digest 136 = .ok (.aload_n 0, 1) := by decide +kernel
theorem dX7_digest_137 : decode cX7_digest 137 = .ok (.aload_n 0, 1) := by decide +kernel
theorem dX7_digest_138 : decode cX7_digest 138 = .ok (.getfield 28, 3) := by decide +kernel
theorem dX7_digest_141 : decode cX7_digest 141 = .ok (.iload_n 1, 1) := by decide +kernel
theorem dX7_digest_142 : decode cX7_digest 142 = .ok (.iaload, 1) := by decide +kernel
theorem dX7_digest_143 : decode cX7_digest 143 = .ok (.invokevirtual 129, 3) := by decide +kernel
theorem dX7_digest_146 : decode cX7_digest 146 = .ok (.aload_n 0, 1) := by decide +kernel
theorem dX7_digest_147 : decode cX7_digest 147 = .ok (.aload_n 0, 1) := by decide +kernel
theorem dX7_digest_148 : decode cX7_digest 148 = .ok (.getfield 31, 3) := by decide +kernel
theorem dX7_digest_151 : decode cX7_digest 151 = .ok (.iload_n 1, 1) := by decide +kernel
theorem dX7_digest_152 : decode cX7_digest 152 = .ok (.iaload, 1) := by decide +kernel
theorem dX7_digest_153 : decode cX7_digest 153 = .ok (.invokevirtual 129, 3) := by decide +kernel
theorem dX7_digest_156 : decode cX7_digest 156 = .ok (.iinc 1 1, 3) := by decide +kernel
theorem dX7_digest_159 : decode cX7_digest 159 = .ok (.goto (-31), 3) := by decide +kernel
theorem dX7_digest_162 : decode cX7_digest 162 = .ok (.aload_n 0, 1) := by decide +kernel
theorem dX7_digest_163 : decode cX7_digest 163 = .ok (.aload_n 0, 1) := by decide +kernel
theorem dX7_digest_164 : decode cX7_digest 164 = .ok (.getfield 105, 3) := by decide +kernel
theorem dX7_digest_167 : decode cX7_digest 167 = .ok (.invokevirtual 129, 3) := by decide +kernel
theorem dX7_digest_170 : decode cX7_digest 170 = .ok (.iconst 0, 1) := by decide +kernel
theorem dX7_digest_171 : decode cX7_digest 171 = .ok (.istore_n 1, 1) := by decide +kernel
theorem dX7_digest_172 : decode cX7_digest 172 = .ok (.iload_n 1, 1) := by decide +kernel
theorem dX7_digest_173 : decode cX7_digest 173 = .ok (.aload_n 0, 1) := by decide +kernel
theorem dX7_digest_174 : decode cX7_digest 174 = .ok (.getfield 105, 3) := by decide +kernel
theorem dX7_digest_177 : decode cX7_digest 177 = .ok (.if_icmp .ge 19, 3) := by decide +kernel
theorem dX7_digest_180 : decode cX7_digest 180 = .ok (.aload_n 0, 1) := by decide +kernel
theorem dX7_digest_181 : decode cX7_digest 181 = .ok (.aload_n 0, 1) := by decide +kernel
theorem dX7_digest_182 : decode cX7_digest 182 = .ok (.getfield 22, 3) := by decide +kernel
theorem dX7_digest_185 : decode cX7_digest 185 = .ok (.iload_n 1, 1) := by decide +kernel
theorem dX7_digest_186 : decode cX7_digest 186 = .ok (.iaload, 1) := by decide +kernel
theorem dX7_digest_187 : decode cX7_digest 187 = .ok (.invokevirtual 129, 3) := by decide +kernel
theorem dX7_digest_190 : decode cX7_digest 190 = .ok (.iinc 1 1, 3) := by decide +kernel
theorem dX7_digest_193 : decode cX7_digest 193 = .ok (.goto (-21), 3) := by decide +kernel
theorem dX7_digest_196 : decode cX7_digest 196 = .ok (.aload_n 0, 1) := by decide +kernel
theorem dX7_digest_197 : decode cX7_digest 197 = .ok (.invokevirtual 120, 3) := by decide +kernel
theorem dX7_digest_200 : decode cX7_digest 200 = .ok (.aload_n 0, 1) := by decide +kernel
theorem dX7_digest_201 : decode cX7_digest 201 = .ok (.aload_n 0, 1) := by decide +kernel
theorem dX7_digest_202 : decode cX7_digest 202 = .ok (.getfield 114, 3) := by decide +kernel
theorem dX7_digest_205 : decode cX7_digest 205 = .ok (.invokevirtual 129, 3) := by decide +kernel
theorem dX7_digest_208 : decode cX7_digest 208 = .ok (.iconst 0, 1) := by decide +kernel
theorem dX7_digest_209 : decode cX7_digest 209 = .ok (.istore_n 1, 1) := by decide +kernel
theorem dX7_digest_210 : decode cX7_digest 210 = .ok (.iload_n 1, 1) := by decide +kernel
theorem dX7_digest_211 : decode cX7_digest 211 = .ok (.aload_n 0, 1) := by decide +kernel
theorem dX7_digest_212 : decode cX7_digest 212 = .ok (.getfield 114, 3) := by decide +kernel
theorem dX7_digest_215 : decode cX7_digest 215 = .ok (.if_icmp .ge 33, 3) := by decide +kernel
theorem dX7_digest_218 : decode cX7_digest 218 = .ok (.aload_n 0, 1) := by decide +kernel
theorem dX7_digest_219 : decode cX7_digest 219 = .ok (.aload_n 0, 1) := by decide +kernel
theorem dX7_digest_220 : decode cX7_digest 220 = .ok (.getfield 34, 3) := by decide +kernel
theorem dX7_digest_223 : decode cX7_digest 223 = .ok (.iload_n 1, 1) := by decide +kernel
theorem dX7_digest_224 : decode cX7_digest 224 = .ok (.iaload, 1) := by decide +kernel
theorem dX7_digest_225 : decode cX7_digest 225 = .ok (.invokevirtual 129, 3) := by decide +kernel
theorem dX7_digest_228 : decode cX7_digest 228 = .ok (.aload_n 0, 1) := by decide +kernel
theorem dX7_digest_229 : decode cX7_digest 229 = .ok (.aload_n 0, 1) := by decide +kernel
theorem dX7_digest_230 : decode cX7_digest 230 = .ok (.aload_n 0, 1) := by decide +kernel
theorem dX7_digest_231 : decode cX7_digest 231 = .ok (.getfield 34, 3) := by decide +kernel
theorem dX7_digest_234 : decode cX7_digest 234 = .ok (.iload_n 1, 1) := by decide +kernel
theorem dX7_digest_235 : decode cX7_digest 235 = .ok (.iaload, 1) := by decide +kernel
theorem dX7_digest_236 : decode cX7_digest 236 = .ok (.invokevirtual 111, 3) := by decide +kernel
theorem dX7_digest_239 : decode cX7_digest 239 = .ok (.invokevirtual 129, 3) := by decide +kernel
theorem dX7_digest_242 : decode cX7_digest 242 = .ok (.iinc 1 1, 3) := by decide +kernel
theorem dX7_digest_245 : decode cX7_digest 245 = .ok (.goto (-35), 3) := by decide +kernel
theorem dX7_digest_248 : decode cX7_digest 248 = .ok (.aload_n 0, 1) := by decide +kernel
theorem dX7_digest_249 : decode cX7_digest 249 = .ok (.aload_n 0, 1) := by decide +kernel
theorem dX7_digest_250 : decode cX7_digest 250 = .ok (.getfield 56, 3) := by decide +kernel
theorem dX7_digest_253 : decode cX7_digest 253 = .ok (.invokevirtual 129, 3) := by decide +kernel
theorem dX7_digest_256 : decode cX7_digest 256 = .ok (.aload_n 0, 1) := by decide +kernel
theorem dX7_digest_257 : decode cX7_digest 257 = .ok (.aload_n 0, 1) := by decide +kernel
theorem dX7_digest_258 : decode cX7_digest 258 = .ok (.getfield 41, 3) := by decide +kernel
theorem dX7_digest_261 : decode cX7_digest 261 = .ok (.invokevirtual 129, 3) := by decide +kernel
theorem dX7_digest_264 : decode cX7_digest 264 = .ok (.aload_n 0, 1) := by decide +kernel
theorem dX7_digest_265 : decode cX7_digest 265 = .ok (.getfield 125, 3) := by decide +kernel
theorem dX7_digest_268 : decode cX7_digest 268 = .ok (.lreturn, 1) := by decide +kernel
theorem dJ9_abs_0f7a4_0 : decode cJ9_abs_0f7a4 0 = .ok (.iload_n 0, 1) := by decide +kernel
theorem dJ9_abs_0f7a4_1 : decode cJ9_abs_0f7a4 1 = .ok (.ifCond .ge 8, 3) := by decide +kernel
theorem dJ9_abs_0f7a4_4 : decode cJ9_abs_0f7a4 4 = .ok (.iload_n 0, 1) := by decide +kernel
theorem dJ9_abs_0f7a4_5 : decode cJ9_abs_0f7a4 5 = .ok (.ineg, 1) := by decide +kernel
theorem dJ9_abs_0f7a4_6 : decode cJ9_abs_0f7a4 6 = .ok (.goto 4, 3) := by decide +kernel
theorem dJ9_abs_0f7a4_9 : decode cJ9_abs_0f7a4 9 = .ok (.iload_n 0, 1) := by decide +kernel
theorem dJ9_abs_0f7a4_10 : decode cJ9_abs_0f7a4 10 = .ok (.ireturn, 1) := by decide +kernel
theorem dJ9_min_7cf53_0 : decode cJ9_min_7cf53 0 = .ok (.iload_n 0, 1) := by decide +kernel
theorem dJ9_min_7cf53_1 : decode cJ9_min_7cf53 1 = .ok (.iload_n 1, 1) := by decide +kernel
theorem dJ9_min_7cf53_2 : decode cJ9_min_7cf53 2 = .ok (.if_icmp .gt 7, 3) := by decide +kernel
theorem dJ9_min_7cf53_5 : decode cJ9_min_7cf53 5 = .ok (.iload_n 0, 1) := by decide +kernel
theorem dJ9_min_7cf53_6 : decode cJ9_min_7cf53 6 = .ok (.goto 4, 3) := by decide +kernel
theorem dJ9_min_7cf53_9 : decode cJ9_min_7cf53 9 = .ok (.iload_n 1, 1) := by decide +kernel
theorem dJ9_min_7cf53_10 : decode cJ9_min_7cf53 10 = .ok (.ireturn, 1) := by decide +kernel
set_option maxRecDepth 20000 in
theorem ggL_law_X6_init : GoodIn wsL_law wsX6_init := goodIn_r _ [8, 9, 10, 11, 12, 13, 14, 15, 16, 17, 18, 19, 20, 21, 22, 23, 24, 25, 26, 27, 28, 29, 30, 31, 32, 33, 34, 35, 36, 37, 38, 39, 40, 41, 42, 43, 44, 45, 46, 47, 48, 49, 50, 51, 52, 53, 54, 55, 56, 57, 58, 59, 60, 61, 62, 63, 64, 65, 66, 67, 68, 69, 70, 71, 72, 73, 74, 75, 76, 77, 78, 79, 80, 81, 82, 83, 84, 85, 86, 87, 88, 89, 668, 669, 670, 671, 672, 673, 674, 675, 644, 645, 646, 647, 648, 649, 650, 651, 676, 677, 678, 679, 680, 681, 682, 683, 684, 685, 686, 687, 688, 689, 690, 691, 692, 693, 694] (by decide +kernel) (by decide +kernel)
set_option maxRecDepth 20000 in
theorem gL_law_X6_init : GoodIn wsL_law (wsX6_init) := ggL_law_X6_init
set_option maxRecDepth 20000 in
theorem ggL_law_X7_init : GoodIn wsL_law wsX7_init := goodIn_r _ [92, 93, 10, 11, 32, 94, 95, 96, 97, 98, 99, 100, 101, 102, 652, 653, 654, 655, 656, 657, 658, 659, 660, 661, 662, 663, 664, 665, 666, 667] (by decide +kernel) (by decide +kernel)
set_option maxRecDepth 20000 in
theorem gL_law_X7_init : GoodIn wsL_law (wsX7_init) := ggL_law_X7_init
set_option maxRecDepth 20000 in
theorem ggL_law_X6_setSound : GoodIn wsL_law wsX6_setSound := goodIn_r _ [106, 19, 15, 107, 108, 109, 110, 2, 111, 112, 113, 114, 115, 35, 116, 117, 118, 18, 119, 54, 53, 120, 121, 122, 123, 124, 125, 126, 14, 127, 40, 128, 129, 130, 131, 41, 42, 43, 44, 45, 46, 47, 644, 645, 646, 647, 648, 649, 650, 651, 668, 669, 670, 671, 672, 673, 674, 675, 676, 677] (by decide +kernel) (by decide +kernel)
set_option maxRecDepth 20000 in
theorem gL_law_X6_setSound : GoodIn wsL_law (wsV RL 13 RX6 yX6_setSound wsX6_setSound) := goodIn_app (goodIn_of _ (by decide +kernel)) ggL_law_X6_setSound
set_option maxRecDepth 20000 in
theorem ggL_law_X7_setSound : GoodIn wsL_law wsX7_setSound := goodIn_r _ [135, 94, 136, 137, 5, 138, 139, 140, 141, 142, 143, 144, 145, 96, 146, 147, 148, 149, 150, 95, 652, 653, 654, 655, 656, 657, 658, 659, 660, 661, 662, 663, 664, 665, 666, 667] (by decide +kernel) (by decide +kernel)
set_option maxRecDepth 20000 in
theorem gL_law_X7_setSound : GoodIn wsL_law (wsV RL 17 RX7 yX7_setSound wsX7_setSound) := goodIn_app (goodIn_of _ (by decide +kernel)) ggL_law_X7_setSound
set_option maxRecDepth 20000 in
theorem ggL_law_X6_setVowels : GoodIn wsL_law wsX6_setVowels := goodIn_r _ [154, 19, 15, 155, 112, 113, 114, 2, 115, 35, 116, 117, 118, 18, 119, 54, 53, 120, 121, 122, 123, 124, 125, 126, 14, 127, 40, 128, 129, 130, 131, 41, 42, 43, 44, 45, 46, 47, 644, 645, 646, 647, 648, 649, 650, 651, 668, 669, 670, 671, 672, 673, 674, 675, 676, 677] (by decide +kernel) (by decide +kernel)
set_option maxRecDepth 20000 in
theorem gL_law_X6_setVowels : GoodIn wsL_law (wsV RL 18 RX6 yX6_setVowels wsX6_setVowels) := goodIn_app (goodIn_of _ (by decide +kernel)) ggL_law_X6_setVowels
set_option maxRecDepth 20000 in
theorem ggL_law_X7_setVowels : GoodIn wsL_law wsX7_setVowels := goodIn_r _ [159, 94, 136, 137, 5, 138, 142, 143, 144, 145, 96, 146, 147, 148, 149, 150, 95, 652, 653, 654, 655, 656, 657, 658, 659, 660, 661, 662, 663, 664, 665, 666, 667] (by decide +kernel) (by decide +kernel)
set_option maxRecDepth 20000 in
theorem gL_law_X7_setVowels : GoodIn wsL_law (wsV RL 22 RX7 yX7_setVowels wsX7_setVowels) := goodIn_app (goodIn_of _ (by decide +kernel)) ggL_law_X7_setVowels
set_option maxRecDepth 20000 in
theorem ggL_law_X6_append : GoodIn wsL_law wsX6_append := goodIn_r _ [163, 34, 33, 112, 113, 114, 2, 115, 35, 644, 645, 646, 647, 648, 649, 650, 651] (by decide +kernel) (by decide +kernel)
set_option maxRecDepth 20000 in
theorem gL_law_X6_append : GoodIn wsL_law (wsV RL 23 RX6 yX6_append wsX6_append) := goodIn_app (goodIn_of _ (by decide +kernel)) ggL_law_X6_append
set_option maxRecDepth 20000 in
theorem ggL_law_X7_append : GoodIn wsL_law wsX7_append := goodIn_r _ [167, 168, 97, 136, 137, 5, 138, 142, 143, 144, 145, 96, 652, 653, 654, 655, 656, 657, 658, 659, 660, 661, 662, 663, 664, 665, 666, 667] (by decide +kernel) (by decide +kernel)
set_option maxRecDepth 20000 in
theorem gL_law_X7_append : GoodIn wsL_law (wsV RL 26 RX7 yX7_append wsX7_append) := goodIn_app (goodIn_of _ (by decide +kernel)) ggL_law_X7_append
set_option maxRecDepth 20000 in
theorem ggL_law_X6_clearText : GoodIn wsL_law wsX6_clearText := goodIn_r _ [172, 34, 644, 645, 646, 647, 648, 649, 650, 651] (by decide +kernel) (by decide +kernel)
set_option maxRecDepth 20000 in
theorem gL_law_X6_clearText : GoodIn wsL_law (wsV RL 27 RX6 yX6_clearText wsX6_clearText) := goodIn_app (goodIn_of _ (by decide +kernel)) ggL_law_X6_clearText
set_option maxRecDepth 20000 in
theorem ggL_law_X7_clearText : GoodIn wsL_law wsX7_clearText := goodIn_r _ [176, 168, 652, 653, 654, 655, 656, 657, 658, 659, 660, 661, 662, 663, 664, 665, 666, 667] (by decide +kernel) (by decide +kernel)
set_option maxRecDepth 20000 in
theorem gL_law_X7_clearText : GoodIn wsL_law (wsV RL 31 RX7 yX7_clearText wsX7_clearText) := goodIn_app (goodIn_of _ (by decide +kernel)) ggL_law_X7_clearText
set_option maxRecDepth 20000 in
theorem ggL_law_X6_addWord : GoodIn wsL_law wsX6_addWord := goodIn_r _ [180, 15, 181, 19, 33, 34, 112, 113, 114, 2, 115, 35, 182, 183, 184, 185, 116, 117, 118, 18, 119, 54, 53, 120, 121, 122, 123, 124, 125, 126, 14, 127, 40, 128, 129, 130, 131, 41, 42, 43, 44, 45, 46, 47, 186, 187, 188, 189, 644, 645, 646, 647, 648, 649, 650, 651, 668, 669, 670, 671, 672, 673, 674, 675, 676, 677] (by decide +kernel) (by decide +kernel)
set_option maxRecDepth 20000 in
theorem gL_law_X6_addWord : GoodIn wsL_law (wsV RL 32 RX6 yX6_addWord wsX6_addWord) := goodIn_app (goodIn_of _ (by decide +kernel)) ggL_law_X6_addWord
set_option maxRecDepth 20000 in
theorem ggL_law_X7_addWord : GoodIn wsL_law wsX7_addWord := goodIn_r _ [193, 94, 168, 97, 136, 137, 5, 138, 142, 143, 144, 145, 96, 194, 195, 196, 197, 146, 147, 148, 149, 150, 95, 652, 653, 654, 655, 656, 657, 658, 659, 660, 661, 662, 663, 664, 665, 666, 667] (by decide +kernel) (by decide +kernel)
set_option maxRecDepth 20000 in
theorem gL_law_X7_addWord : GoodIn wsL_law (wsV RL 35 RX7 yX7_addWord wsX7_addWord) := goodIn_app (goodIn_of _ (by decide +kernel)) ggL_law_X7_addWord
set_option maxRecDepth 20000 in
theorem ggL_law_X6_removeWord : GoodIn wsL_law wsX6_removeWord := goodIn_r _ [201, 15, 19, 181, 202, 203, 204, 14, 205, 43, 112, 113, 114, 2, 115, 35, 116, 117, 118, 18, 119, 54, 53, 120, 121, 122, 123, 124, 125, 126, 127, 40, 128, 129, 130, 131, 41, 42, 44, 45, 46, 47, 206, 207, 208, 209, 210, 211, 212, 213, 644, 645, 646, 647, 648, 649, 650, 651, 668, 669, 670, 671, 672, 673, 674, 675, 676, 677] (by decide +kernel) (by decide +kernel)
set_option maxRecDepth 20000 in
theorem gL_law_X6_removeWord : GoodIn wsL_law (wsV RL 36 RX6 yX6_removeWord wsX6_removeWord) := goodIn_app (goodIn_of _ (by decide +kernel)) ggL_law_X6_removeWord
set_option maxRecDepth 20000 in
theorem ggL_law_X7_removeWord : GoodIn wsL_law wsX7_removeWord := goodIn_r _ [217, 94, 218, 219, 220, 5, 221, 136, 137, 138, 142, 143, 144, 145, 96, 146, 147, 148, 149, 150, 95, 652, 653, 654, 655, 656, 657, 658, 659, 660, 661, 662, 663, 664, 665, 666, 667] (by decide +kernel) (by decide +kernel)
set_option maxRecDepth 20000 in
theorem gL_law_X7_removeWord : GoodIn wsL_law (wsV RL 39 RX7 yX7_removeWord wsX7_removeWord) := goodIn_app (goodIn_of _ (by decide +kernel)) ggL_law_X7_removeWord
set_option maxRecDepth 20000 in
theorem ggL_law_X6_words : GoodIn wsL_law wsX6_words := goodIn_r _ [225, 15, 181, 644, 645, 646, 647, 648, 649, 650, 651, 668, 669, 670, 671, 672, 673, 674, 675] (by decide +kernel) (by decide +kernel)
set_option maxRecDepth 20000 in
theorem gL_law_X6_words : GoodIn wsL_law (wsV RL 40 RX6 yX6_words wsX6_words) := goodIn_app (goodIn_of _ (by decide +kernel)) ggL_law_X6_words
set_option maxRecDepth 20000 in
theorem ggL_law_X7_words : GoodIn wsL_law wsX7_words := goodIn_r _ [229, 94, 652, 653, 654, 655, 656, 657, 658, 659, 660, 661, 662, 663, 664, 665, 666, 667] (by decide +kernel) (by decide +kernel)
set_option maxRecDepth 20000 in
theorem gL_law_X7_words : GoodIn wsL_law (wsV RL 43 RX7 yX7_words wsX7_words) := goodIn_app (goodIn_of _ (by decide +kernel)) ggL_law_X7_words
set_option maxRecDepth 20000 in
theorem ggL_law_X6_letters : GoodIn wsL_law wsX6_letters := goodIn_r _ [233, 15, 234, 202, 203, 204, 14, 205, 43, 112, 113, 114, 2, 115, 35, 644, 645, 646, 647, 648, 649, 650, 651, 668, 669, 670, 671, 672, 673, 674, 675] (by decide +kernel) (by decide +kernel)
set_option maxRecDepth 20000 in
theorem gL_law_X6_letters : GoodIn wsL_law (wsV RL 44 RX6 yX6_letters wsX6_letters) := goodIn_app (goodIn_of _ (by decide +kernel)) ggL_law_X6_letters
set_option maxRecDepth 20000 in
theorem ggL_law_X7_letters : GoodIn wsL_law wsX7_letters := goodIn_r _ [238, 94, 218, 219, 220, 5, 221, 136, 137, 138, 142, 143, 144, 145, 96, 652, 653, 654, 655, 656, 657, 658, 659, 660, 661, 662, 663, 664, 665, 666, 667] (by decide +kernel) (by decide +kernel)
set_option maxRecDepth 20000 in
theorem gL_law_X7_letters : GoodIn wsL_law (wsV RL 47 RX7 yX7_letters wsX7_letters) := goodIn_app (goodIn_of _ (by decide +kernel)) ggL_law_X7_letters
set_option maxRecDepth 20000 in
theorem ggL_law_X6_frequency : GoodIn wsL_law wsX6_frequency := goodIn_r _ [242, 15, 243, 202, 203, 204, 14, 205, 43, 112, 113, 114, 2, 115, 35, 644, 645, 646, 647, 648, 649, 650, 651, 668, 669, 670, 671, 672, 673, 674, 675] (by decide +kernel) (by decide +kernel)
set_option maxRecDepth 20000 in
theorem gL_law_X6_frequency : GoodIn wsL_law (wsV RL 48 RX6 yX6_frequency wsX6_frequency) := goodIn_app (goodIn_of _ (by decide +kernel)) ggL_law_X6_frequency
set_option maxRecDepth 20000 in
theorem ggL_law_X7_frequency : GoodIn wsL_law wsX7_frequency := goodIn_r _ [247, 94, 218, 219, 220, 5, 221, 136, 137, 138, 142, 143, 144, 145, 96, 652, 653, 654, 655, 656, 657, 658, 659, 660, 661, 662, 663, 664, 665, 666, 667] (by decide +kernel) (by decide +kernel)
set_option maxRecDepth 20000 in
theorem gL_law_X7_frequency : GoodIn wsL_law (wsV RL 51 RX7 yX7_frequency wsX7_frequency) := goodIn_app (goodIn_of _ (by decide +kernel)) ggL_law_X7_frequency
set_option maxRecDepth 20000 in
theorem ggL_law_X6_strokes : GoodIn wsL_law wsX6_strokes := goodIn_r _ [251, 15, 202, 203, 204, 14, 205, 43, 112, 113, 114, 2, 115, 35, 252, 253, 254, 255, 45, 256, 257, 258, 259, 42, 260, 261, 262, 263, 44, 644, 645, 646, 647, 648, 649, 650, 651, 668, 669, 670, 671, 672, 673, 674, 675] (by decide +kernel) (by decide +kernel)
set_option maxRecDepth 20000 in
theorem gL_law_X6_strokes : GoodIn wsL_law (wsV RL 52 RX6 yX6_strokes wsX6_strokes) := goodIn_app (goodIn_of _ (by decide +kernel)) ggL_law_X6_strokes
set_option maxRecDepth 20000 in
theorem ggL_law_X7_strokes : GoodIn wsL_law wsX7_strokes := goodIn_r _ [267, 268, 218, 219, 220, 5, 221, 94, 136, 137, 138, 142, 143, 144, 145, 96, 269, 270, 271, 272, 99, 652, 653, 654, 655, 656, 657, 658, 659, 660, 661, 662, 663, 664, 665, 666, 667] (by decide +kernel) (by decide +kernel)
set_option maxRecDepth 20000 in
theorem gL_law_X7_strokes : GoodIn wsL_law (wsV RL 55 RX7 yX7_strokes wsX7_strokes) := goodIn_app (goodIn_of _ (by decide +kernel)) ggL_law_X7_strokes
set_option maxRecDepth 20000 in
theorem ggL_law_X6_stroke : GoodIn wsL_law wsX6_stroke := goodIn_r _ [276, 15, 23, 277, 202, 203, 204, 14, 205, 43, 252, 253, 254, 255, 45, 256, 257, 258, 259, 42, 260, 261, 262, 263, 44, 112, 113, 114, 2, 115, 35, 278, 279, 280, 22, 281, 60, 64, 62, 65, 63, 282, 283, 284, 285, 286, 287, 288, 289, 290, 291, 292, 293, 294, 295, 296, 297, 298, 299, 300, 301, 302, 303, 304, 305, 306, 307, 308, 309, 310, 311, 312, 313, 314, 315, 316, 317, 318, 319, 61, 59, 644, 645, 646, 647, 648, 649, 650, 651, 678, 679, 680, 681, 682, 683, 684, 668, 669, 670, 671, 672, 673, 674, 675] (by decide +kernel) (by decide +kernel)
set_option maxRecDepth 20000 in
theorem gL_law_X6_stroke : GoodIn wsL_law (wsV RL 56 RX6 yX6_stroke wsX6_stroke) := goodIn_app (goodIn_of _ (by decide +kernel)) ggL_law_X6_stroke
set_option maxRecDepth 20000 in
theorem ggL_law_X7_stroke : GoodIn wsL_law wsX7_stroke := goodIn_r _ [323, 268, 218, 219, 220, 5, 221, 94, 136, 137, 138, 142, 143, 144, 145, 96, 324, 325, 326, 327, 269, 270, 271, 272, 99, 328, 329, 330, 331, 332, 333, 334, 335, 336, 337, 338, 339, 340, 341, 342, 343, 344, 345, 652, 653, 654, 655, 656, 657, 658, 659, 660, 661, 662, 663, 664, 665, 666, 667] (by decide +kernel) (by decide +kernel)
set_option maxRecDepth 20000 in
theorem gL_law_X7_stroke : GoodIn wsL_law (wsV RL 60 RX7 yX7_stroke wsX7_stroke) := goodIn_app (goodIn_of _ (by decide +kernel)) ggL_law_X7_stroke
set_option maxRecDepth 20000 in
theorem ggL_law_X6_cost : GoodIn wsL_law wsX6_cost := goodIn_r _ [349, 15, 23, 350, 202, 203, 204, 14, 205, 43, 112, 113, 114, 2, 115, 35, 278, 279, 280, 22, 281, 60, 64, 62, 65, 63, 282, 283, 284, 285, 286, 287, 288, 289, 257, 258, 259, 42, 260, 261, 262, 263, 44, 290, 291, 292, 293, 294, 295, 296, 297, 298, 299, 300, 301, 302, 303, 304, 305, 306, 307, 308, 309, 310, 311, 312, 313, 314, 315, 316, 317, 318, 319, 61, 59, 644, 645, 646, 647, 648, 649, 650, 651, 678, 679, 680, 681, 682, 683, 684, 668, 669, 670, 671, 672, 673, 674, 675] (by decide +kernel) (by decide +kernel)
set_option maxRecDepth 20000 in
theorem gL_law_X6_cost : GoodIn wsL_law (wsV RL 61 RX6 yX6_cost wsX6_cost) := goodIn_app (goodIn_of _ (by decide +kernel)) ggL_law_X6_cost
set_option maxRecDepth 20000 in
theorem ggL_law_X7_cost : GoodIn wsL_law wsX7_cost := goodIn_r _ [354, 218, 219, 220, 5, 221, 94, 136, 137, 138, 324, 325, 326, 327, 268, 269, 270, 271, 272, 99, 328, 329, 330, 331, 332, 333, 334, 335, 336, 337, 338, 339, 340, 341, 342, 343, 344, 345, 142, 143, 144, 145, 96, 652, 653, 654, 655, 656, 657, 658, 659, 660, 661, 662, 663, 664, 665, 666, 667] (by decide +kernel) (by decide +kernel)
set_option maxRecDepth 20000 in
theorem gL_law_X7_cost : GoodIn wsL_law (wsV RL 64 RX7 yX7_cost wsX7_cost) := goodIn_app (goodIn_of _ (by decide +kernel)) ggL_law_X7_cost
set_option maxRecDepth 20000 in
theorem ggL_law_X6_outlines : GoodIn wsL_law wsX6_outlines := goodIn_r _ [358, 15, 23, 202, 203, 204, 14, 205, 43, 112, 113, 114, 2, 115, 35, 278, 279, 280, 22, 281, 60, 64, 62, 65, 63, 282, 283, 284, 285, 286, 287, 288, 289, 257, 258, 259, 42, 260, 261, 262, 263, 44, 290, 291, 292, 293, 294, 295, 296, 297, 298, 299, 300, 301, 302, 303, 304, 305, 306, 307, 308, 309, 310, 311, 312, 313, 314, 315, 316, 317, 318, 319, 61, 59, 359, 360, 361, 362, 644, 645, 646, 647, 648, 649, 650, 651, 668, 669, 670, 671, 672, 673, 674, 675, 678, 679, 680, 681, 682, 683, 684] (by decide +kernel) (by decide +kernel)
set_option maxRecDepth 20000 in
theorem gL_law_X6_outlines : GoodIn wsL_law (wsV RL 65 RX6 yX6_outlines wsX6_outlines) := goodIn_app (goodIn_of _ (by decide +kernel)) ggL_law_X6_outlines
set_option maxRecDepth 20000 in
theorem ggL_law_X7_outlines : GoodIn wsL_law wsX7_outlines := goodIn_r _ [366, 268, 218, 219, 220, 5, 221, 94, 136, 137, 138, 142, 143, 144, 145, 96, 269, 270, 271, 272, 99, 328, 329, 330, 331, 332, 333, 334, 335, 652, 653, 654, 655, 656, 657, 658, 659, 660, 661, 662, 663, 664, 665, 666, 667] (by decide +kernel) (by decide +kernel)
set_option maxRecDepth 20000 in
theorem gL_law_X7_outlines : GoodIn wsL_law (wsV RL 68 RX7 yX7_outlines wsX7_outlines) := goodIn_app (goodIn_of _ (by decide +kernel)) ggL_law_X7_outlines
set_option maxRecDepth 20000 in
theorem ggL_law_X6_joinCost : GoodIn wsL_law wsX6_joinCost := goodIn_r _ [370, 109, 110, 2, 111, 112, 113, 114, 115, 35, 371, 303, 304, 305, 306, 307, 308, 309, 297, 310, 311, 296, 298, 644, 645, 646, 647, 648, 649, 650, 651] (by decide +kernel) (by decide +kernel)
set_option maxRecDepth 20000 in
theorem gL_law_X6_joinCost : GoodIn wsL_law (wsV RL 69 RX6 yX6_joinCost wsX6_joinCost) := goodIn_app (goodIn_of _ (by decide +kernel)) ggL_law_X6_joinCost
set_option maxRecDepth 20000 in
theorem ggL_law_X7_joinCost : GoodIn wsL_law wsX7_joinCost := goodIn_r _ [375, 139, 140, 5, 141, 136, 137, 138, 340, 341, 342, 343, 344, 345, 142, 143, 144, 145, 96, 652, 653, 654, 655, 656, 657, 658, 659, 660, 661, 662, 663, 664, 665, 666, 667] (by decide +kernel) (by decide +kernel)
set_option maxRecDepth 20000 in
theorem gL_law_X7_joinCost : GoodIn wsL_law (wsV RL 72 RX7 yX7_joinCost wsX7_joinCost) := goodIn_app (goodIn_of _ (by decide +kernel)) ggL_law_X7_joinCost
set_option maxRecDepth 20000 in
theorem ggL_law_X6_setBrief : GoodIn wsL_law wsX6_setBrief := goodIn_r _ [379, 15, 19, 380, 202, 203, 204, 14, 205, 43, 109, 110, 2, 111, 112, 113, 114, 115, 35, 381, 382, 383, 384, 385, 386, 387, 388, 47, 40, 389, 253, 254, 255, 45, 256, 257, 258, 259, 42, 260, 261, 262, 263, 44, 116, 117, 118, 18, 119, 54, 53, 120, 121, 122, 123, 124, 125, 126, 127, 128, 129, 130, 131, 41, 46, 644, 645, 646, 647, 648, 649, 650, 651, 668, 669, 670, 671, 672, 673, 674, 675, 676, 677] (by decide +kernel) (by decide +kernel)
set_option maxRecDepth 20000 in
theorem gL_law_X6_setBrief : GoodIn wsL_law (wsV RL 73 RX6 yX6_setBrief wsX6_setBrief) := goodIn_app (goodIn_of _ (by decide +kernel)) ggL_law_X6_setBrief
set_option maxRecDepth 20000 in
theorem ggL_law_X7_setBrief : GoodIn wsL_law wsX7_setBrief := goodIn_r _ [393, 94, 218, 219, 220, 5, 221, 136, 137, 138, 139, 140, 141, 142, 143, 144, 145, 96, 394, 395, 396, 397, 268, 324, 325, 326, 327, 269, 270, 271, 272, 99, 328, 329, 330, 331, 332, 333, 334, 335, 336, 337, 338, 339, 340, 341, 342, 343, 344, 345, 146, 147, 148, 149, 150, 95, 652, 653, 654, 655, 656, 657, 658, 659, 660, 661, 662, 663, 664, 665, 666, 667] (by decide +kernel) (by decide +kernel)
set_option maxRecDepth 20000 in
theorem gL_law_X7_setBrief : GoodIn wsL_law (wsV RL 76 RX7 yX7_setBrief wsX7_setBrief) := goodIn_app (goodIn_of _ (by decide +kernel)) ggL_law_X7_setBrief
set_option maxRecDepth 20000 in
theorem ggL_law_X6_clearBrief : GoodIn wsL_law wsX6_clearBrief := goodIn_r _ [401, 15, 380, 19, 202, 203, 204, 14, 205, 43, 112, 113, 114, 2, 115, 35, 116, 117, 118, 18, 119, 54, 53, 120, 121, 122, 123, 124, 125, 126, 127, 40, 128, 129, 130, 131, 41, 42, 44, 45, 46, 47, 644, 645, 646, 647, 648, 649, 650, 651, 668, 669, 670, 671, 672, 673, 674, 675, 676, 677] (by decide +kernel) (by decide +kernel)
set_option maxRecDepth 20000 in
theorem gL_law_X6_clearBrief : GoodIn wsL_law (wsV RL 77 RX6 yX6_clearBrief wsX6_clearBrief) := goodIn_app (goodIn_of _ (by decide +kernel)) ggL_law_X6_clearBrief
set_option maxRecDepth 20000 in
theorem ggL_law_X7_clearBrief : GoodIn wsL_law wsX7_clearBrief := goodIn_r _ [405, 94, 218, 219, 220, 5, 221, 136, 137, 138, 142, 143, 144, 145, 96, 146, 147, 148, 149, 150, 95, 652, 653, 654, 655, 656, 657, 658, 659, 660, 661, 662, 663, 664, 665, 666, 667] (by decide +kernel) (by decide +kernel)
set_option maxRecDepth 20000 in
theorem gL_law_X7_clearBrief : GoodIn wsL_law (wsV RL 80 RX7 yX7_clearBrief wsX7_clearBrief) := goodIn_app (goodIn_of _ (by decide +kernel)) ggL_law_X7_clearBrief
set_option maxRecDepth 20000 in
theorem ggL_law_X6_brief : GoodIn wsL_law wsX6_brief := goodIn_r _ [409, 15, 380, 202, 203, 204, 14, 205, 43, 112, 113, 114, 2, 115, 35, 644, 645, 646, 647, 648, 649, 650, 651, 668, 669, 670, 671, 672, 673, 674, 675] (by decide +kernel) (by decide +kernel)
set_option maxRecDepth 20000 in
theorem gL_law_X6_brief : GoodIn wsL_law (wsV RL 81 RX6 yX6_brief wsX6_brief) := goodIn_app (goodIn_of _ (by decide +kernel)) ggL_law_X6_brief
set_option maxRecDepth 20000 in
theorem ggL_law_X7_brief : GoodIn wsL_law wsX7_brief := goodIn_r _ [413, 94, 218, 219, 220, 5, 221, 136, 137, 138, 142, 143, 144, 145, 96, 652, 653, 654, 655, 656, 657, 658, 659, 660, 661, 662, 663, 664, 665, 666, 667] (by decide +kernel) (by decide +kernel)
set_option maxRecDepth 20000 in
theorem gL_law_X7_brief : GoodIn wsL_law (wsV RL 84 RX7 yX7_brief wsX7_brief) := goodIn_app (goodIn_of _ (by decide +kernel)) ggL_law_X7_brief
set_option maxRecDepth 20000 in
theorem ggL_law_X6_gain : GoodIn wsL_law wsX6_gain := goodIn_r _ [417, 15, 202, 203, 204, 14, 205, 43, 112, 113, 114, 2, 115, 35, 418, 419, 420, 421, 46, 389, 253, 254, 255, 45, 256, 257, 258, 259, 42, 260, 261, 262, 263, 44, 644, 645, 646, 647, 648, 649, 650, 651, 668, 669, 670, 671, 672, 673, 674, 675] (by decide +kernel) (by decide +kernel)
set_option maxRecDepth 20000 in
theorem gL_law_X6_gain : GoodIn wsL_law (wsV RL 85 RX6 yX6_gain wsX6_gain) := goodIn_app (goodIn_of _ (by decide +kernel)) ggL_law_X6_gain
set_option maxRecDepth 20000 in
theorem ggL_law_X7_gain : GoodIn wsL_law wsX7_gain := goodIn_r _ [425, 218, 219, 220, 5, 221, 94, 136, 137, 138, 426, 427, 428, 429, 268, 269, 270, 271, 272, 99, 142, 143, 144, 145, 96, 652, 653, 654, 655, 656, 657, 658, 659, 660, 661, 662, 663, 664, 665, 666, 667] (by decide +kernel) (by decide +kernel)
set_option maxRecDepth 20000 in
theorem gL_law_X7_gain : GoodIn wsL_law (wsV RL 88 RX7 yX7_gain wsX7_gain) := goodIn_app (goodIn_of _ (by decide +kernel)) ggL_law_X7_gain
set_option maxRecDepth 20000 in
theorem ggL_law_X6_proposedWord : GoodIn wsL_law wsX6_proposedWord := goodIn_r _ [433, 27, 15, 434, 112, 113, 114, 2, 115, 35, 435, 436, 437, 26, 438, 72, 73, 439, 75, 440, 441, 442, 443, 444, 445, 446, 447, 448, 449, 71, 450, 82, 451, 419, 420, 14, 421, 46, 389, 253, 254, 255, 45, 256, 257, 258, 259, 42, 260, 261, 262, 263, 44, 452, 453, 454, 455, 81, 79, 80, 456, 457, 458, 459, 460, 386, 387, 388, 47, 40, 461, 462, 463, 464, 465, 466, 467, 468, 644, 645, 646, 647, 648, 649, 650, 651, 685, 686, 687, 691, 692, 693, 694, 668, 669, 670, 671, 672, 673, 674, 675] (by decide +kernel) (by decide +kernel)
set_option maxRecDepth 20000 in
theorem gL_law_X6_proposedWord : GoodIn wsL_law (wsV RL 89 RX6 yX6_proposedWord wsX6_proposedWord) := goodIn_app (goodIn_of _ (by decide +kernel)) ggL_law_X6_proposedWord
set_option maxRecDepth 20000 in
theorem ggL_law_X7_proposedWord : GoodIn wsL_law wsX7_proposedWord := goodIn_r _ [472, 473, 100, 142, 143, 144, 5, 145, 96, 474, 475, 476, 477, 94, 101, 426, 427, 428, 429, 268, 269, 270, 271, 272, 99, 394, 395, 396, 397, 324, 325, 326, 327, 328, 329, 330, 331, 332, 333, 334, 335, 336, 337, 338, 339, 340, 341, 342, 343, 344, 345, 652, 653, 654, 655, 656, 657, 658, 659, 660, 661, 662, 663, 664, 665, 666, 667] (by decide +kernel) (by decide +kernel)
set_option maxRecDepth 20000 in
theorem gL_law_X7_proposedWord : GoodIn wsL_law (wsV RL 92 RX7 yX7_proposedWord wsX7_proposedWord) := goodIn_app (goodIn_of _ (by decide +kernel)) ggL_law_X7_proposedWord
set_option maxRecDepth 20000 in
theorem ggL_law_X6_proposedStroke : GoodIn wsL_law wsX6_proposedStroke := goodIn_r _ [481, 27, 15, 434, 112, 113, 114, 2, 115, 35, 435, 436, 437, 26, 438, 72, 73, 439, 75, 440, 441, 442, 443, 444, 445, 446, 447, 448, 449, 71, 450, 82, 451, 419, 420, 14, 421, 46, 389, 253, 254, 255, 45, 256, 257, 258, 259, 42, 260, 261, 262, 263, 44, 452, 453, 454, 455, 81, 79, 80, 456, 457, 458, 459, 460, 386, 387, 388, 47, 40, 461, 462, 463, 464, 482, 483, 484, 485, 644, 645, 646, 647, 648, 649, 650, 651, 685, 686, 687, 691, 692, 693, 694, 668, 669, 670, 671, 672, 673, 674, 675] (by decide +kernel) (by decide +kernel)
set_option maxRecDepth 20000 in
theorem gL_law_X6_proposedStroke : GoodIn wsL_law (wsV RL 93 RX6 yX6_proposedStroke wsX6_proposedStroke) := goodIn_app (goodIn_of _ (by decide +kernel)) ggL_law_X6_proposedStroke
set_option maxRecDepth 20000 in
theorem ggL_law_X7_proposedStroke : GoodIn wsL_law wsX7_proposedStroke := goodIn_r _ [489, 473, 101, 142, 143, 144, 5, 145, 96, 474, 475, 476, 477, 94, 100, 426, 427, 428, 429, 268, 269, 270, 271, 272, 99, 394, 395, 396, 397, 324, 325, 326, 327, 328, 329, 330, 331, 332, 333, 334, 335, 336, 337, 338, 339, 340, 341, 342, 343, 344, 345, 652, 653, 654, 655, 656, 657, 658, 659, 660, 661, 662, 663, 664, 665, 666, 667] (by decide +kernel) (by decide +kernel)
set_option maxRecDepth 20000 in
theorem gL_law_X7_proposedStroke : GoodIn wsL_law (wsV RL 96 RX7 yX7_proposedStroke wsX7_proposedStroke) := goodIn_app (goodIn_of _ (by decide +kernel)) ggL_law_X7_proposedStroke
set_option maxRecDepth 20000 in
theorem ggL_law_X6_acceptProposal : GoodIn wsL_law wsX6_acceptProposal := goodIn_r _ [493, 19, 15, 27, 434, 494, 380, 495, 496, 116, 117, 118, 18, 119, 54, 53, 120, 121, 122, 123, 124, 125, 126, 14, 127, 40, 128, 129, 130, 131, 41, 42, 43, 44, 45, 46, 47, 435, 436, 437, 26, 438, 72, 73, 439, 75, 440, 441, 442, 443, 444, 445, 446, 447, 448, 449, 71, 450, 82, 451, 419, 420, 421, 389, 253, 254, 255, 256, 257, 258, 259, 260, 261, 262, 263, 452, 453, 454, 455, 81, 79, 80, 456, 457, 458, 459, 460, 386, 387, 388, 461, 462, 463, 464, 644, 645, 646, 647, 648, 649, 650, 651, 685, 686, 687, 691, 692, 693, 694, 668, 669, 670, 671, 672, 673, 674, 675, 676, 677] (by decide +kernel) (by decide +kernel)
set_option maxRecDepth 20000 in
theorem gL_law_X6_acceptProposal : GoodIn wsL_law (wsV RL 97 RX6 yX6_acceptProposal wsX6_acceptProposal) := goodIn_app (goodIn_of _ (by decide +kernel)) ggL_law_X6_acceptProposal
set_option maxRecDepth 20000 in
theorem ggL_law_X7_acceptProposal : GoodIn wsL_law wsX7_acceptProposal := goodIn_r _ [500, 473, 94, 100, 101, 146, 147, 148, 5, 149, 150, 95, 474, 475, 476, 477, 426, 427, 428, 429, 268, 269, 270, 271, 272, 99, 394, 395, 396, 397, 324, 325, 326, 327, 328, 329, 330, 331, 332, 333, 334, 335, 336, 337, 338, 339, 340, 341, 342, 343, 344, 345, 652, 653, 654, 655, 656, 657, 658, 659, 660, 661, 662, 663, 664, 665, 666, 667] (by decide +kernel) (by decide +kernel)
set_option maxRecDepth 20000 in
theorem gL_law_X7_acceptProposal : GoodIn wsL_law (wsV RL 100 RX7 yX7_acceptProposal wsX7_acceptProposal) := goodIn_app (goodIn_of _ (by decide +kernel)) ggL_law_X7_acceptProposal
set_option maxRecDepth 20000 in
theorem ggL_law_X6_write : GoodIn wsL_law wsX6_write := goodIn_r _ [504, 31, 505, 506, 109, 110, 2, 111, 112, 113, 114, 115, 35, 644, 645, 646, 647, 648, 649, 650, 651, 688, 689, 690] (by decide +kernel) (by decide +kernel)
set_option maxRecDepth 20000 in
theorem gL_law_X6_write : GoodIn wsL_law (wsV RL 101 RX6 yX6_write wsX6_write) := goodIn_app (goodIn_of _ (by decide +kernel)) ggL_law_X6_write
set_option maxRecDepth 20000 in
theorem ggL_law_X7_write : GoodIn wsL_law wsX7_write := goodIn_r _ [510, 511, 98, 139, 140, 5, 141, 136, 137, 138, 142, 143, 144, 145, 96, 652, 653, 654, 655, 656, 657, 658, 659, 660, 661, 662, 663, 664, 665, 666, 667] (by decide +kernel) (by decide +kernel)
set_option maxRecDepth 20000 in
theorem gL_law_X7_write : GoodIn wsL_law (wsV RL 104 RX7 yX7_write wsX7_write) := goodIn_app (goodIn_of _ (by decide +kernel)) ggL_law_X7_write
set_option maxRecDepth 20000 in
theorem ggL_law_X6_clearPad : GoodIn wsL_law wsX6_clearPad := goodIn_r _ [515, 31, 505, 644, 645, 646, 647, 648, 649, 650, 651, 688, 689, 690] (by decide +kernel) (by decide +kernel)
set_option maxRecDepth 20000 in
theorem gL_law_X6_clearPad : GoodIn wsL_law (wsV RL 105 RX6 yX6_clearPad wsX6_clearPad) := goodIn_app (goodIn_of _ (by decide +kernel)) ggL_law_X6_clearPad
set_option maxRecDepth 20000 in
theorem ggL_law_X7_clearPad : GoodIn wsL_law wsX7_clearPad := goodIn_r _ [519, 511, 652, 653, 654, 655, 656, 657, 658, 659, 660, 661, 662, 663, 664, 665, 666, 667] (by decide +kernel) (by decide +kernel)
set_option maxRecDepth 20000 in
theorem gL_law_X7_clearPad : GoodIn wsL_law (wsV RL 108 RX7 yX7_clearPad wsX7_clearPad) := goodIn_app (goodIn_of _ (by decide +kernel)) ggL_law_X7_clearPad
set_option maxRecDepth 20000 in
theorem ggL_law_X6_reading : GoodIn wsL_law wsX6_reading := goodIn_r _ [523, 31, 15, 524, 112, 113, 114, 2, 115, 35, 525, 526, 527, 30, 528, 89, 529, 530, 531, 448, 449, 71, 450, 82, 532, 533, 534, 535, 536, 87, 86, 537, 538, 308, 309, 297, 310, 305, 306, 307, 311, 296, 298, 539, 253, 254, 14, 255, 45, 256, 257, 258, 259, 42, 260, 261, 262, 263, 44, 540, 541, 542, 543, 544, 545, 546, 547, 548, 549, 550, 40, 41, 551, 552, 553, 554, 555, 453, 454, 455, 81, 79, 80, 465, 466, 467, 468, 644, 645, 646, 647, 648, 649, 650, 651, 688, 689, 690, 668, 669, 670, 671, 672, 673, 674, 675, 691, 692, 693, 694] (by decide +kernel) (by decide +kernel)
set_option maxRecDepth 20000 in
theorem gL_law_X6_reading : GoodIn wsL_law (wsV RL 109 RX6 yX6_reading wsX6_reading) := goodIn_app (goodIn_of _ (by decide +kernel)) ggL_law_X6_reading
set_option maxRecDepth 20000 in
theorem ggL_law_X7_reading : GoodIn wsL_law wsX7_reading := goodIn_r _ [559, 560, 102, 142, 143, 144, 5, 145, 96, 561, 562, 563, 564, 94, 565, 566, 567, 568, 511, 98, 268, 99, 269, 270, 271, 272, 569, 570, 571, 343, 344, 345, 572, 573, 574, 575, 652, 653, 654, 655, 656, 657, 658, 659, 660, 661, 662, 663, 664, 665, 666, 667] (by decide +kernel) (by decide +kernel)
set_option maxRecDepth 20000 in
theorem gL_law_X7_reading : GoodIn wsL_law (wsV RL 112 RX7 yX7_reading wsX7_reading) := goodIn_app (goodIn_of _ (by decide +kernel)) ggL_law_X7_reading
set_option maxRecDepth 20000 in
theorem ggL_law_X6_doubt : GoodIn wsL_law wsX6_doubt := goodIn_r _ [579, 31, 15, 524, 112, 113, 114, 2, 115, 35, 525, 526, 527, 30, 528, 89, 529, 530, 531, 448, 449, 71, 450, 82, 532, 533, 534, 535, 536, 87, 86, 537, 538, 308, 309, 297, 310, 305, 306, 307, 311, 296, 298, 539, 253, 254, 14, 255, 45, 256, 257, 258, 259, 42, 260, 261, 262, 263, 44, 540, 541, 542, 543, 544, 545, 546, 547, 548, 549, 550, 40, 41, 551, 552, 553, 554, 555, 453, 454, 455, 81, 79, 80, 482, 483, 484, 485, 644, 645, 646, 647, 648, 649, 650, 651, 688, 689, 690, 668, 669, 670, 671, 672, 673, 674, 675, 691, 692, 693, 694] (by decide +kernel) (by decide +kernel)
set_option maxRecDepth 20000 in
theorem gL_law_X6_doubt : GoodIn wsL_law (wsV RL 113 RX6 yX6_doubt wsX6_doubt) := goodIn_app (goodIn_of _ (by decide +kernel)) ggL_law_X6_doubt
set_option maxRecDepth 20000 in
theorem ggL_law_X7_doubt : GoodIn wsL_law wsX7_doubt := goodIn_r _ [583, 560, 102, 142, 143, 144, 5, 145, 96, 561, 562, 563, 564, 94, 565, 566, 567, 568, 511, 98, 268, 99, 269, 270, 271, 272, 569, 570, 571, 343, 344, 345, 572, 573, 574, 575, 652, 653, 654, 655, 656, 657, 658, 659, 660, 661, 662, 663, 664, 665, 666, 667] (by decide +kernel) (by decide +kernel)
set_option maxRecDepth 20000 in
theorem gL_law_X7_doubt : GoodIn wsL_law (wsV RL 116 RX7 yX7_doubt wsX7_doubt) := goodIn_app (goodIn_of _ (by decide +kernel)) ggL_law_X7_doubt
set_option maxRecDepth 20000 in
theorem ggL_law_X6_undo : GoodIn wsL_law wsX6_undo := goodIn_r _ [587, 19, 588, 15, 112, 113, 114, 2, 115, 35, 589, 590, 591, 18, 592, 54, 53, 124, 125, 126, 14, 127, 40, 128, 129, 130, 131, 41, 42, 43, 44, 45, 46, 47, 644, 645, 646, 647, 648, 649, 650, 651, 676, 677, 668, 669, 670, 671, 672, 673, 674, 675] (by decide +kernel) (by decide +kernel)
set_option maxRecDepth 20000 in
theorem gL_law_X6_undo : GoodIn wsL_law (wsV RL 117 RX6 yX6_undo wsX6_undo) := goodIn_app (goodIn_of _ (by decide +kernel)) ggL_law_X6_undo
set_option maxRecDepth 20000 in
theorem ggL_law_X7_undo : GoodIn wsL_law wsX7_undo := goodIn_r _ [596, 150, 94, 95, 142, 143, 144, 5, 145, 96, 652, 653, 654, 655, 656, 657, 658, 659, 660, 661, 662, 663, 664, 665, 666, 667] (by decide +kernel) (by decide +kernel)
set_option maxRecDepth 20000 in
theorem gL_law_X7_undo : GoodIn wsL_law (wsV RL 120 RX7 yX7_undo wsX7_undo) := goodIn_app (goodIn_of _ (by decide +kernel)) ggL_law_X7_undo
set_option maxRecDepth 20000 in
theorem ggL_law_X6_errorCount : GoodIn wsL_law wsX6_errorCount := goodIn_r _ [600, 35, 112, 113, 114, 2, 115, 644, 645, 646, 647, 648, 649, 650, 651] (by decide +kernel) (by decide +kernel)
set_option maxRecDepth 20000 in
theorem gL_law_X6_errorCount : GoodIn wsL_law (wsV RL 121 RX6 yX6_errorCount wsX6_errorCount) := goodIn_app (goodIn_of _ (by decide +kernel)) ggL_law_X6_errorCount
set_option maxRecDepth 20000 in
theorem ggL_law_X7_errorCount : GoodIn wsL_law wsX7_errorCount := goodIn_r _ [604, 96, 136, 137, 5, 138, 142, 143, 144, 145, 652, 653, 654, 655, 656, 657, 658, 659, 660, 661, 662, 663, 664, 665, 666, 667] (by decide +kernel) (by decide +kernel)
set_option maxRecDepth 20000 in
theorem gL_law_X7_errorCount : GoodIn wsL_law (wsV RL 124 RX7 yX7_errorCount wsX7_errorCount) := goodIn_app (goodIn_of _ (by decide +kernel)) ggL_law_X7_errorCount
set_option maxRecDepth 20000 in
theorem ggL_law_X6_digest : GoodIn wsL_law wsX6_digest := goodIn_r _ [608, 27, 15, 31, 609, 35, 434, 505, 506, 524, 34, 19, 588, 435, 436, 437, 26, 438, 72, 73, 439, 75, 440, 441, 442, 443, 444, 445, 446, 447, 448, 449, 71, 450, 82, 451, 419, 420, 14, 421, 46, 389, 253, 254, 255, 45, 256, 257, 258, 259, 42, 260, 261, 262, 263, 44, 452, 453, 454, 455, 81, 79, 80, 456, 457, 458, 459, 460, 386, 387, 388, 47, 40, 461, 462, 463, 464, 525, 526, 527, 30, 528, 89, 529, 530, 531, 532, 533, 534, 535, 536, 87, 86, 537, 2, 538, 308, 309, 297, 310, 305, 306, 307, 311, 296, 298, 539, 540, 541, 542, 543, 544, 545, 546, 547, 548, 549, 550, 41, 551, 552, 553, 554, 555, 610, 611, 612, 613, 614, 615, 616, 617, 618, 619, 620, 155, 107, 108, 621, 622, 623, 624, 181, 23, 243, 380, 350, 625, 277, 278, 279, 280, 22, 281, 60, 64, 62, 65, 63, 282, 283, 284, 285, 286, 287, 288, 289, 290, 291, 292, 293, 294, 295, 299, 300, 301, 302, 303, 304, 312, 313, 314, 315, 316, 317, 318, 319, 61, 59, 626, 627, 628, 494, 495, 496, 644, 645, 646, 647, 648, 649, 650, 651, 685, 686, 687, 688, 689, 690, 676, 677, 691, 692, 693, 694, 668, 669, 670, 671, 672, 673, 674, 675, 678, 679, 680, 681, 682, 683, 684] (by decide +kernel) (by decide +kernel)
set_option maxRecDepth 20000 in
theorem gL_law_X6_digest : GoodIn wsL_law (wsV RL 125 RX6 yX6_digest wsX6_digest) := goodIn_app (goodIn_of _ (by decide +kernel)) ggL_law_X6_digest
set_option maxRecDepth 20000 in
theorem ggL_law_X7_digest : GoodIn wsL_law wsX7_digest := goodIn_r _ [632, 633, 634, 96, 94, 473, 100, 101, 511, 98, 560, 102, 168, 150, 635, 636, 637, 5, 638, 639, 640, 641, 642, 643, 268, 324, 325, 326, 327, 269, 270, 271, 272, 99, 328, 329, 330, 331, 332, 333, 334, 335, 336, 337, 338, 339, 340, 341, 342, 343, 344, 345, 474, 475, 476, 477, 426, 427, 428, 429, 394, 395, 396, 397, 561, 562, 563, 564, 565, 566, 567, 568, 569, 570, 571, 572, 573, 574, 575, 652, 653, 654, 655, 656, 657, 658, 659, 660, 661, 662, 663, 664, 665, 666, 667] (by decide +kernel) (by decide +kernel)
set_option maxRecDepth 20000 in
theorem gL_law_X7_digest : GoodIn wsL_law (wsV RL 129 RX7 yX7_digest wsX7_digest) := goodIn_app (goodIn_of _ (by decide +kernel)) ggL_law_X7_digest
theorem dL_law_0 : decode cL_law 0 = .ok (.new 7, 3) := by decide +kernel
theorem dL_law_3 : decode cL_law 3 = .ok (.dup, 1) := by decide +kernel
theorem dL_law_4 : decode cL_law 4 = .ok (.invokespecial 9, 3) := by decide +kernel
theorem dL_law_7 : decode cL_law 7 = .ok (.astore_n 1, 1) := by decide +kernel
theorem dL_law_8 : decode cL_law 8 = .ok (.new 10, 3) := by decide +kernel
theorem dL_law_11 : decode cL_law 11 = .ok (.dup, 1) := by decide +kernel
theorem dL_law_12 : decode cL_law 12 = .ok (.invokespecial 12, 3) := by decide +kernel
theorem dL_law_15 : decode cL_law 15 = .ok (.astore_n 2, 1) := by decide +kernel
theorem dL_law_16 : decode cL_law 16 = .ok (.iconst 0, 1) := by decide +kernel
theorem dL_law_17 : decode cL_law 17 = .ok (.istore_n 3, 1) := by decide +kernel
theorem dL_law_18 : decode cL_law 18 = .ok (.iload_n 3, 1) := by decide +kernel
theorem dL_law_19 : decode cL_law 19 = .ok (.aload_n 0, 1) := by decide +kernel
theorem dL_law_20 : decode cL_law 20 = .ok (.arraylength, 1) := by decide +kernel
theorem dL_law_21 : decode cL_law 21 = .ok (.iconst 4, 1) := by decide +kernel
theorem dL_law_22 : decode cL_law 22 = .ok (.isub, 1) := by decide +kernel
theorem dL_law_23 : decode cL_law 23 = .ok (.if_icmp .gt 778, 3) := by decide +kernel
theorem dL_law_26 : decode cL_law 26 = .ok (.aload_n 0, 1) := by decide +kernel
theorem dL_law_27 : decode cL_law 27 = .ok (.iload_n 3, 1) := by decide +kernel
theorem dL_law_28 : decode cL_law 28 = .ok (.iaload, 1) := by decide +kernel
theorem dL_law_29 : decode cL_law 29 = .ok (.bipush 31, 2) := by decide +kernel
theorem dL_law_31 : decode cL_law 31 = .ok (.iand, 1) := by decide +kernel
theorem dL_law_32 : decode cL_law 32 = .ok (.tableswitch 763 0 27 #[128, 171, 194, 217, 230, 253, 276, 289, 312, 335, 358, 391, 414, 437, 470, 503, 526, 549, 572, 595, 618, 631, 654, 667, 690, 713, 726, 749], 128) := by decide +kernel
theorem dL_law_160 : decode cL_law 160 = .ok (.aload_n 1, 1) := by decide +kernel
theorem dL_law_161 : decode cL_law 161 = .ok (.aload_n 0, 1) := by decide +kernel
theorem dL_law_162 : decode cL_law 162 = .ok (.iload_n 3, 1) := by decide +kernel
theorem dL_law_163 : decode cL_law 163 = .ok (.iconst 1, 1) := by decide +kernel
theorem dL_law_164 : decode cL_law 164 = .ok (.iadd, 1) := by decide +kernel
theorem dL_law_165 : decode cL_law 165 = .ok (.iaload, 1) := by decide +kernel
theorem dL_law_166 : decode cL_law 166 = .ok (.aload_n 0, 1) := by decide +kernel
theorem dL_law_167 : decode cL_law 167 = .ok (.iload_n 3, 1) := by decide +kernel
theorem dL_law_168 : decode cL_law 168 = .ok (.iconst 2, 1) := by decide +kernel
theorem dL_law_169 : decode cL_law 169 = .ok (.iadd, 1) := by decide +kernel
theorem dL_law_170 : decode cL_law 170 = .ok (.iaload, 1) := by decide +kernel
theorem dL_law_171 : decode cL_law 171 = .ok (.aload_n 0, 1) := by decide +kernel
theorem dL_law_172 : decode cL_law 172 = .ok (.iload_n 3, 1) := by decide +kernel
theorem dL_law_173 : decode cL_law 173 = .ok (.iconst 3, 1) := by decide +kernel
theorem dL_law_174 : decode cL_law 174 = .ok (.iadd, 1) := by decide +kernel
theorem dL_law_175 : decode cL_law 175 = .ok (.iaload, 1) := by decide +kernel
theorem dL_law_176 : decode cL_law 176 = .ok (.invokevirtual 13, 3) := by decide +kernel
theorem dL_law_179 : decode cL_law 179 = .ok (.aload_n 2, 1) := by decide +kernel
theorem dL_law_180 : decode cL_law 180 = .ok (.aload_n 0, 1) := by decide +kernel
theorem dL_law_181 : decode cL_law 181 = .ok (.iload_n 3, 1) := by decide +kernel
theorem dL_law_182 : decode cL_law 182 = .ok (.iconst 1, 1) := by decide +kernel
theorem dL_law_183 : decode cL_law 183 = .ok (.iadd, 1) := by decide +kernel
theorem dL_law_184 : decode cL_law 184 = .ok (.iaload, 1) := by decide +kernel
theorem dL_law_185 : decode cL_law 185 = .ok (.aload_n 0, 1) := by decide +kernel
theorem dL_law_186 : decode cL_law 186 = .ok (.iload_n 3, 1) := by decide +kernel
theorem dL_law_187 : decode cL_law 187 = .ok (.iconst 2, 1) := by decide +kernel
theorem dL_law_188 : decode cL_law 188 = .ok (.iadd, 1) := by decide +kernel
theorem dL_law_189 : decode cL_law 189 = .ok (.iaload, 1) := by decide +kernel
theorem dL_law_190 : decode cL_law 190 = .ok (.aload_n 0, 1) := by decide +kernel
theorem dL_law_191 : decode cL_law 191 = .ok (.iload_n 3, 1) := by decide +kernel
theorem dL_law_192 : decode cL_law 192 = .ok (.iconst 3, 1) := by decide +kernel
theorem dL_law_193 : decode cL_law 193 = .ok (.iadd, 1) := by decide +kernel
theorem dL_law_194 : decode cL_law 194 = .ok (.iaload, 1) := by decide +kernel
theorem dL_law_195 : decode cL_law 195 = .ok (.invokevirtual 17, 3) := by decide +kernel
theorem dL_law_198 : decode cL_law 198 = .ok (.if_icmp .eq 597, 3) := by decide +kernel
theorem dL_law_201 : decode cL_law 201 = .ok (.iconst 0, 1) := by decide +kernel
theorem dL_law_202 : decode cL_law 202 = .ok (.ireturn, 1) := by decide +kernel
theorem dL_law_203 : decode cL_law 203 = .ok (.aload_n 1, 1) := by decide +kernel
theorem dL_law_204 : decode cL_law 204 = .ok (.aload_n 0, 1) := by decide +kernel
theorem dL_law_205 : decode cL_law 205 = .ok (.iload_n 3, 1) := by decide +kernel
theorem dL_law_206 : decode cL_law 206 = .ok (.iconst 1, 1) := by decide +kernel
theorem dL_law_207 : decode cL_law 207 = .ok (.iadd, 1) := by decide +kernel
theorem dL_law_208 : decode cL_law 208 = .ok (.iaload, 1) := by decide +kernel
theorem dL_law_209 : decode cL_law 209 = .ok (.invokevirtual 18, 3) := by decide +kernel
theorem dL_law_212 : decode cL_law 212 = .ok (.aload_n 2, 1) := by decide +kernel
theorem dL_law_213 : decode cL_law 213 = .ok (.aload_n 0, 1) := by decide +kernel
theorem dL_law_214 : decode cL_law 214 = .ok (.iload_n 3, 1) := by decide +kernel
theorem dL_law_215 : decode cL_law 215 = .ok (.iconst 1, 1) := by decide +kernel
theorem dL_law_216 : decode cL_law 216 = .ok (.iadd, 1) := by decide +kernel
theorem dL_law_217 : decode cL_law 217 = .ok (.iaload, 1) := by decide +kernel
theorem dL_law_218 : decode cL_law 218 = .ok (.invokevirtual 22, 3) := by decide +kernel
theorem dL_law_221 : decode cL_law 221 = .ok (.if_icmp .eq 574, 3) := by decide +kernel
theorem dL_law_224 : decode cL_law 224 = .ok (.iconst 0, 1) := by decide +kernel
theorem dL_law_225 : decode cL_law 225 = .ok (.ireturn, 1) := by decide +kernel
theorem dL_law_226 : decode cL_law 226 = .ok (.aload_n 1, 1) := by decide +kernel
theorem dL_law_227 : decode cL_law 227 = .ok (.aload_n 0, 1) := by decide +kernel
theorem dL_law_228 : decode cL_law 228 = .ok (.iload_n 3, 1) := by decide +kernel
theorem dL_law_229 : decode cL_law 229 = .ok (.iconst 1, 1) := by decide +kernel
theorem dL_law_230 : decode cL_law 230 = .ok (.iadd, 1) := by decide +kernel
theorem dL_law_231 : decode cL_law 231 = .ok (.iaload, 1) := by decide +kernel
theorem dL_law_232 : decode cL_law 232 = .ok (.invokevirtual 23, 3) := by decide +kernel
theorem dL_law_235 : decode cL_law 235 = .ok (.aload_n 2, 1) := by decide +kernel
theorem dL_law_236 : decode cL_law 236 = .ok (.aload_n 0, 1) := by decide +kernel
theorem dL_law_237 : decode cL_law 237 = .ok (.iload_n 3, 1) := by decide +kernel
theorem dL_law_238 : decode cL_law 238 = .ok (.iconst 1, 1) := by decide +kernel
theorem dL_law_239 : decode cL_law 239 = .ok (.iadd, 1) := by decide +kernel
theorem dL_law_240 : decode cL_law 240 = .ok (.iaload, 1) := by decide +kernel
theorem dL_law_241 : decode cL_law 241 = .ok (.invokevirtual 26, 3) := by decide +kernel
theorem dL_law_244 : decode cL_law 244 = .ok (.if_icmp .eq 551, 3) := by decide +kernel
theorem dL_law_247 : decode cL_law 247 = .ok (.iconst 0, 1) := by decide +kernel
theorem dL_law_248 : decode cL_law 248 = .ok (.ireturn, 1) := by decide +kernel
theorem dL_law_249 : decode cL_law 249 = .ok (.aload_n 1, 1) := by decide +kernel
theorem dL_law_250 : decode cL_law 250 = .ok (.invokevirtual 27, 3) := by decide +kernel
theorem dL_law_253 : decode cL_law 253 = .ok (.aload_n 2, 1) := by decide +kernel
theorem dL_law_254 : decode cL_law 254 = .ok (.invokevirtual 31, 3) := by decide +kernel
theorem dL_law_257 : decode cL_law 257 = .ok (.if_icmp .eq 538, 3) := by decide +kernel
theorem dL_law_260 : decode cL_law 260 = .ok (.iconst 0, 1) := by decide +kernel
theorem dL_law_261 : decode cL_law 261 = .ok (.ireturn, 1) := by decide +kernel
theorem dL_law_262 : decode cL_law 262 = .ok (.aload_n 1, 1) := by decide +kernel
theorem dL_law_263 : decode cL_law 263 = .ok (.aload_n 0, 1) := by decide +kernel
theorem dL_law_264 : decode cL_law 264 = .ok (.iload_n 3, 1) := by decide +kernel
theorem dL_law_265 : decode cL_law 265 = .ok (.iconst 1, 1) := by decide +kernel
theorem dL_law_266 : decode cL_law 266 = .ok (.iadd, 1) := by decide +kernel
theorem dL_law_267 : decode cL_law 267 = .ok (.iaload, 1) := by decide +kernel
theorem dL_law_268 : decode cL_law 268 = .ok (.invokevirtual 32, 3) := by decide +kernel
theorem dL_law_271 : decode cL_law 271 = .ok (.aload_n 2, 1) := by decide +kernel
theorem dL_law_272 : decode cL_law 272 = .ok (.aload_n 0, 1) := by decide +kernel
theorem dL_law_273 : decode cL_law 273 = .ok (.iload_n 3, 1) := by decide +kernel
theorem dL_law_274 : decode cL_law 274 = .ok (.iconst 1, 1) := by decide +kernel
theorem dL_law_275 : decode cL_law 275 = .ok (.iadd, 1) := by decide +kernel
theorem dL_law_276 : decode cL_law 276 = .ok (.iaload, 1) := by decide +kernel
theorem dL_law_277 : decode cL_law 277 = .ok (.invokevirtual 35, 3) := by decide +kernel
theorem dL_law_280 : decode cL_law 280 = .ok (.if_icmp .eq 515, 3) := by decide +kernel
theorem dL_law_283 : decode cL_law 283 = .ok (.iconst 0, 1) := by decide +kernel
theorem dL_law_284 : decode cL_law 284 = .ok (.ireturn, 1) := by decide +kernel
theorem dL_law_285 : decode cL_law 285 = .ok (.aload_n 1, 1) := by decide +kernel
theorem dL_law_286 : decode cL_law 286 = .ok (.aload_n 0, 1) := by decide +kernel
theorem dL_law_287 : decode cL_law 287 = .ok (.iload_n 3, 1) := by decide +kernel
theorem dL_law_288 : decode cL_law 288 = .ok (.iconst 1, 1) := by decide +kernel
theorem dL_law_289 : decode cL_law 289 = .ok (.iadd, 1) := by decide +kernel
theorem dL_law_290 : decode cL_law 290 = .ok (.iaload, 1) := by decide +kernel
theorem dL_law_291 : decode cL_law 291 = .ok (.invokevirtual 36, 3) := by decide +kernel
theorem dL_law_294 : decode cL_law 294 = .ok (.aload_n 2, 1) := by decide +kernel
theorem dL_law_295 : decode cL_law 295 = .ok (.aload_n 0, 1) := by decide +kernel
theorem dL_law_296 : decode cL_law 296 = .ok (.iload_n 3, 1) := by decide +kernel
theorem dL_law_297 : decode cL_law 297 = .ok (.iconst 1, 1) := by decide +kernel
theorem dL_law_298 : decode cL_law 298 = .ok (.iadd, 1) := by decide +kernel
theorem dL_law_299 : decode cL_law 299 = .ok (.iaload, 1) := by decide +kernel
theorem dL_law_300 : decode cL_law 300 = .ok (.invokevirtual 39, 3) := by decide +kernel
theorem dL_law_303 : decode cL_law 303 = .ok (.if_icmp .eq 492, 3) := by decide +kernel
theorem dL_law_306 : decode cL_law 306 = .ok (.iconst 0, 1) := by decide +kernel
theorem dL_law_307 : decode cL_law 307 = .ok (.ireturn, 1) := by decide +kernel
theorem dL_law_308 : decode cL_law 308 = .ok (.aload_n 1, 1) := by decide +kernel
theorem dL_law_309 : decode cL_law 309 = .ok (.invokevirtual 40, 3) := by decide +kernel
theorem dL_law_312 : decode cL_law 312 = .ok (.aload_n 2, 1) := by decide +kernel
theorem dL_law_313 : decode cL_law 313 = .ok (.invokevirtual 43, 3) := by decide +kernel
theorem dL_law_316 : decode cL_law 316 = .ok (.if_icmp .eq 479, 3) := by decide +kernel
theorem dL_law_319 : decode cL_law 319 = .ok (.iconst 0, 1) := by decide +kernel
theorem dL_law_320 : decode cL_law 320 = .ok (.ireturn, 1) := by decide +kernel
theorem dL_law_321 : decode cL_law 321 = .ok (.aload_n 1, 1) := by decide +kernel
theorem dL_law_322 : decode cL_law 322 = .ok (.aload_n 0, 1) := by decide +kernel
theorem dL_law_323 : decode cL_law 323 = .ok (.iload_n 3, 1) := by decide +kernel
theorem dL_law_324 : decode cL_law 324 = .ok (.iconst 1, 1) := by decide +kernel
theorem dL_law_325 : decode cL_law 325 = .ok (.iadd, 1) := by decide +kernel
theorem dL_law_326 : decode cL_law 326 = .ok (.iaload, 1) := by decide +kernel
theorem dL_law_327 : decode cL_law 327 = .ok (.invokevirtual 44, 3) := by decide +kernel
theorem dL_law_330 : decode cL_law 330 = .ok (.aload_n 2, 1) := by decide +kernel
theorem dL_law_331 : decode cL_law 331 = .ok (.aload_n 0, 1) := by decide +kernel
theorem dL_law_332 : decode cL_law 332 = .ok (.iload_n 3, 1) := by decide +kernel
theorem dL_law_333 : decode cL_law 333 = .ok (.iconst 1, 1) := by decide +kernel
theorem dL_law_334 : decode cL_law 334 = .ok (.iadd, 1) := by decide +kernel
theorem dL_law_335 : decode cL_law 335 = .ok (.iaload, 1) := by decide +kernel
theorem dL_law_336 : decode cL_law 336 = .ok (.invokevirtual 47, 3) := by decide +kernel
theorem dL_law_339 : decode cL_law 339 = .ok (.if_icmp .eq 456, 3) := by decide +kernel
theorem dL_law_342 : decode cL_law 342 = .ok (.iconst 0, 1) := by decide +kernel
theorem dL_law_343 : decode cL_law 343 = .ok (.ireturn, 1) := by decide +kernel
theorem dL_law_344 : decode cL_law 344 = .ok (.aload_n 1, 1) := by decide +kernel
theorem dL_law_345 : decode cL_law 345 = .ok (.aload_n 0, 1) := by decide +kernel
theorem dL_law_346 : decode cL_law 346 = .ok (.iload_n 3, 1) := by decide +kernel
theorem dL_law_347 : decode cL_law 347 = .ok (.iconst 1, 1) := by decide +kernel
theorem dL_law_348 : decode cL_law 348 = .ok (.iadd, 1) := by decide +kernel
theorem dL_law_349 : decode cL_law 349 = .ok (.iaload, 1) := by decide +kernel
theorem dL_law_350 : decode cL_law 350 = .ok (.invokevirtual 48, 3) := by decide +kernel
theorem dL_law_353 : decode cL_law 353 = .ok (.aload_n 2, 1) := by decide +kernel
theorem dL_law_354 : decode cL_law 354 = .ok (.aload_n 0, 1) := by decide +kernel
theorem dL_law_355 : decode cL_law 355 = .ok (.iload_n 3, 1) := by decide +kernel
theorem dL_law_356 : decode cL_law 356 = .ok (.iconst 1, 1) := by decide +kernel
theorem dL_law_357 : decode cL_law 357 = .ok (.iadd, 1) := by decide +kernel
theorem dL_law_358 : decode cL_law 358 = .ok (.iaload, 1) := by decide +kernel
theorem dL_law_359 : decode cL_law 359 = .ok (.invokevirtual 51, 3) := by decide +kernel
theorem dL_law_362 : decode cL_law 362 = .ok (.if_icmp .eq 433, 3) := by decide +kernel
theorem dL_law_365 : decode cL_law 365 = .ok (.iconst 0, 1) := by decide +kernel
theorem dL_law_366 : decode cL_law 366 = .ok (.ireturn, 1) := by decide +kernel
theorem dL_law_367 : decode cL_law 367 = .ok (.aload_n 1, 1) := by decide +kernel
theorem dL_law_368 : decode cL_law 368 = .ok (.aload_n 0, 1) := by decide +kernel
theorem dL_law_369 : decode cL_law 369 = .ok (.iload_n 3, 1) := by decide +kernel
theorem dL_law_370 : decode cL_law 370 = .ok (.iconst 1, 1) := by decide +kernel
theorem dL_law_371 : decode cL_law 371 = .ok (.iadd, 1) := by decide +kernel
theorem dL_law_372 : decode cL_law 372 = .ok (.iaload, 1) := by decide +kernel
theorem dL_law_373 : decode cL_law 373 = .ok (.invokevirtual 52, 3) := by decide +kernel
theorem dL_law_376 : decode cL_law 376 = .ok (.aload_n 2, 1) := by decide +kernel
theorem dL_law_377 : decode cL_law 377 = .ok (.aload_n 0, 1) := by decide +kernel
theorem dL_law_378 : decode cL_law 378 = .ok (.iload_n 3, 1) := by decide +kernel
theorem dL_law_379 : decode cL_law 379 = .ok (.iconst 1, 1) := by decide +kernel
theorem dL_law_380 : decode cL_law 380 = .ok (.iadd, 1) := by decide +kernel
theorem dL_law_381 : decode cL_law 381 = .ok (.iaload, 1) := by decide +kernel
theorem dL_law_382 : decode cL_law 382 = .ok (.invokevirtual 55, 3) := by decide +kernel
theorem dL_law_385 : decode cL_law 385 = .ok (.if_icmp .eq 410, 3) := by decide +kernel
theorem dL_law_388 : decode cL_law 388 = .ok (.iconst 0, 1) := by decide +kernel
theorem dL_law_389 : decode cL_law 389 = .ok (.ireturn, 1) := by decide +kernel
theorem dL_law_390 : decode cL_law 390 = .ok (.aload_n 1, 1) := by decide +kernel
theorem dL_law_391 : decode cL_law 391 = .ok (.aload_n 0, 1) := by decide +kernel
theorem dL_law_392 : decode cL_law 392 = .ok (.iload_n 3, 1) := by decide +kernel
theorem dL_law_393 : decode cL_law 393 = .ok (.iconst 1, 1) := by decide +kernel
theorem dL_law_394 : decode cL_law 394 = .ok (.iadd, 1) := by decide +kernel
theorem dL_law_395 : decode cL_law 395 = .ok (.iaload, 1) := by decide +kernel
theorem dL_law_396 : decode cL_law 396 = .ok (.aload_n 0, 1) := by decide +kernel
theorem dL_law_397 : decode cL_law 397 = .ok (.iload_n 3, 1) := by decide +kernel
theorem dL_law_398 : decode cL_law 398 = .ok (.iconst 2, 1) := by decide +kernel
theorem dL_law_399 : decode cL_law 399 = .ok (.iadd, 1) := by decide +kernel
theorem dL_law_400 : decode cL_law 400 = .ok (.iaload, 1) := by decide +kernel
theorem dL_law_401 : decode cL_law 401 = .ok (.invokevirtual 56, 3) := by decide +kernel
theorem dL_law_404 : decode cL_law 404 = .ok (.aload_n 2, 1) := by decide +kernel
theorem dL_law_405 : decode cL_law 405 = .ok (.aload_n 0, 1) := by decide +kernel
theorem dL_law_406 : decode cL_law 406 = .ok (.iload_n 3, 1) := by decide +kernel
theorem dL_law_407 : decode cL_law 407 = .ok (.iconst 1, 1) := by decide +kernel
theorem dL_law_408 : decode cL_law 408 = .ok (.iadd, 1) := by decide +kernel
theorem dL_law_409 : decode cL_law 409 = .ok (.iaload, 1) := by decide +kernel
theorem dL_law_410 : decode cL_law 410 = .ok (.aload_n 0, 1) := by decide +kernel
theorem dL_law_411 : decode cL_law 411 = .ok (.iload_n 3, 1) := by decide +kernel
theorem dL_law_412 : decode cL_law 412 = .ok (.iconst 2, 1) := by decide +kernel
theorem dL_law_413 : decode cL_law 413 = .ok (.iadd, 1) := by decide +kernel
theorem dL_law_414 : decode cL_law 414 = .ok (.iaload, 1) := by decide +kernel
theorem dL_law_415 : decode cL_law 415 = .ok (.invokevirtual 60, 3) := by decide +kernel
theorem dL_law_418 : decode cL_law 418 = .ok (.if_icmp .eq 377, 3) := by decide +kernel
theorem dL_law_421 : decode cL_law 421 = .ok (.iconst 0, 1) := by decide +kernel
theorem dL_law_422 : decode cL_law 422 = .ok (.ireturn, 1) := by decide +kernel
theorem dL_law_423 : decode cL_law 423 = .ok (.aload_n 1, 1) := by decide +kernel
theorem dL_law_424 : decode cL_law 424 = .ok (.aload_n 0, 1) := by decide +kernel
theorem dL_law_425 : decode cL_law 425 = .ok (.iload_n 3, 1) := by decide +kernel
theorem dL_law_426 : decode cL_law 426 = .ok (.iconst 1, 1) := by decide +kernel
theorem dL_law_427 : decode cL_law 427 = .ok (.iadd, 1) := by decide +kernel
theorem dL_law_428 : decode cL_law 428 = .ok (.iaload, 1) := by decide +kernel
theorem dL_law_429 : decode cL_law 429 = .ok (.invokevirtual 61, 3) := by decide +kernel
theorem dL_law_432 : decode cL_law 432 = .ok (.aload_n 2, 1) := by decide +kernel
theorem dL_law_433 : decode cL_law 433 = .ok (.aload_n 0, 1) := by decide +kernel
theorem dL_law_434 : decode cL_law 434 = .ok (.iload_n 3, 1) := by decide +kernel
theorem dL_law_435 : decode cL_law 435 = .ok (.iconst 1, 1) := by decide +kernel
theorem dL_law_436 : decode cL_law 436 = .ok (.iadd, 1) := by decide +kernel
theorem dL_law_437 : decode cL_law 437 = .ok (.iaload, 1) := by decide +kernel
theorem dL_law_438 : decode cL_law 438 = .ok (.invokevirtual 64, 3) := by decide +kernel
theorem dL_law_441 : decode cL_law 441 = .ok (.if_icmp .eq 354, 3) := by decide +kernel
theorem dL_law_444 : decode cL_law 444 = .ok (.iconst 0, 1) := by decide +kernel
theorem dL_law_445 : decode cL_law 445 = .ok (.ireturn, 1) := by decide +kernel
theorem dL_law_446 : decode cL_law 446 = .ok (.aload_n 1, 1) := by decide +kernel
theorem dL_law_447 : decode cL_law 447 = .ok (.aload_n 0, 1) := by decide +kernel
theorem dL_law_448 : decode cL_law 448 = .ok (.iload_n 3, 1) := by decide +kernel
theorem dL_law_449 : decode cL_law 449 = .ok (.iconst 1, 1) := by decide +kernel
theorem dL_law_450 : decode cL_law 450 = .ok (.iadd, 1) := by decide +kernel
theorem dL_law_451 : decode cL_law 451 = .ok (.iaload, 1) := by decide +kernel
theorem dL_law_452 : decode cL_law 452 = .ok (.invokevirtual 65, 3) := by decide +kernel
theorem dL_law_455 : decode cL_law 455 = .ok (.aload_n 2, 1) := by decide +kernel
theorem dL_law_456 : decode cL_law 456 = .ok (.aload_n 0, 1) := by decide +kernel
theorem dL_law_457 : decode cL_law 457 = .ok (.iload_n 3, 1) := by decide +kernel
theorem dL_law_458 : decode cL_law 458 = .ok (.iconst 1, 1) := by decide +kernel
theorem dL_law_459 : decode cL_law 459 = .ok (.iadd, 1) := by decide +kernel
theorem dL_law_460 : decode cL_law 460 = .ok (.iaload, 1) := by decide +kernel
theorem dL_law_461 : decode cL_law 461 = .ok (.invokevirtual 68, 3) := by decide +kernel
theorem dL_law_464 : decode cL_law 464 = .ok (.if_icmp .eq 331, 3) := by decide +kernel
theorem dL_law_467 : decode cL_law 467 = .ok (.iconst 0, 1) := by decide +kernel
theorem dL_law_468 : decode cL_law 468 = .ok (.ireturn, 1) := by decide +kernel
theorem dL_law_469 : decode cL_law 469 = .ok (.aload_n 1, 1) := by decide +kernel
theorem dL_law_470 : decode cL_law 470 = .ok (.aload_n 0, 1) := by decide +kernel
theorem dL_law_471 : decode cL_law 471 = .ok (.iload_n 3, 1) := by decide +kernel
theorem dL_law_472 : decode cL_law 472 = .ok (.iconst 1, 1) := by decide +kernel
theorem dL_law_473 : decode cL_law 473 = .ok (.iadd, 1) := by decide +kernel
theorem dL_law_474 : decode cL_law 474 = .ok (.iaload, 1) := by decide +kernel
theorem dL_law_475 : decode cL_law 475 = .ok (.aload_n 0, 1) := by decide +kernel
theorem dL_law_476 : decode cL_law 476 = .ok (.iload_n 3, 1) := by decide +kernel
theorem dL_law_477 : decode cL_law 477 = .ok (.iconst 2, 1) := by decide +kernel
theorem dL_law_478 : decode cL_law 478 = .ok (.iadd, 1) := by decide +kernel
theorem dL_law_479 : decode cL_law 479 = .ok (.iaload, 1) := by decide +kernel
theorem dL_law_480 : decode cL_law 480 = .ok (.invokevirtual 69, 3) := by decide +kernel
theorem dL_law_483 : decode cL_law 483 = .ok (.aload_n 2, 1) := by decide +kernel
theorem dL_law_484 : decode cL_law 484 = .ok (.aload_n 0, 1) := by decide +kernel
theorem dL_law_485 : decode cL_law 485 = .ok (.iload_n 3, 1) := by decide +kernel
theorem dL_law_486 : decode cL_law 486 = .ok (.iconst 1, 1) := by decide +kernel
theorem dL_law_487 : decode cL_law 487 = .ok (.iadd, 1) := by decide +kernel
theorem dL_law_488 : decode cL_law 488 = .ok (.iaload, 1) := by decide +kernel
theorem dL_law_489 : decode cL_law 489 = .ok (.aload_n 0, 1) := by decide +kernel
theorem dL_law_490 : decode cL_law 490 = .ok (.iload_n 3, 1) := by decide +kernel
theorem dL_law_491 : decode cL_law 491 = .ok (.iconst 2, 1) := by decide +kernel
theorem dL_law_492 : decode cL_law 492 = .ok (.iadd, 1) := by decide +kernel
theorem dL_law_493 : decode cL_law 493 = .ok (.iaload, 1) := by decide +kernel
theorem dL_law_494 : decode cL_law 494 = .ok (.invokevirtual 72, 3) := by decide +kernel
theorem dL_law_497 : decode cL_law 497 = .ok (.if_icmp .eq 298, 3) := by decide +kernel
theorem dL_law_500 : decode cL_law 500 = .ok (.iconst 0, 1) := by decide +kernel
theorem dL_law_501 : decode cL_law 501 = .ok (.ireturn, 1) := by decide +kernel
theorem dL_law_502 : decode cL_law 502 = .ok (.aload_n 1, 1) := by decide +kernel
theorem dL_law_503 : decode cL_law 503 = .ok (.aload_n 0, 1) := by decide +kernel
theorem dL_law_504 : decode cL_law 504 = .ok (.iload_n 3, 1) := by decide +kernel
theorem dL_law_505 : decode cL_law 505 = .ok (.iconst 1, 1) := by decide +kernel
theorem dL_law_506 : decode cL_law 506 = .ok (.iadd, 1) := by decide +kernel
theorem dL_law_507 : decode cL_law 507 = .ok (.iaload, 1) := by decide +kernel
theorem dL_law_508 : decode cL_law 508 = .ok (.aload_n 0, 1) := by decide +kernel
theorem dL_law_509 : decode cL_law 509 = .ok (.iload_n 3, 1) := by decide +kernel
theorem dL_law_510 : decode cL_law 510 = .ok (.iconst 2, 1) := by decide +kernel
theorem dL_law_511 : decode cL_law 511 = .ok (.iadd, 1) := by decide +kernel
theorem dL_law_512 : decode cL_law 512 = .ok (.iaload, 1) := by decide +kernel
theorem dL_law_513 : decode cL_law 513 = .ok (.invokevirtual 73, 3) := by decide +kernel
theorem dL_law_516 : decode cL_law 516 = .ok (.aload_n 2, 1) := by decide +kernel
theorem dL_law_517 : decode cL_law 517 = .ok (.aload_n 0, 1) := by decide +kernel
theorem dL_law_518 : decode cL_law 518 = .ok (.iload_n 3, 1) := by decide +kernel
theorem dL_law_519 : decode cL_law 519 = .ok (.iconst 1, 1) := by decide +kernel
theorem dL_law_520 : decode cL_law 520 = .ok (.iadd, 1) := by decide +kernel
theorem dL_law_521 : decode cL_law 521 = .ok (.iaload, 1) := by decide +kernel
theorem dL_law_522 : decode cL_law 522 = .ok (.aload_n 0, 1) := by decide +kernel
theorem dL_law_523 : decode cL_law 523 = .ok (.iload_n 3, 1) := by decide +kernel
theorem dL_law_524 : decode cL_law 524 = .ok (.iconst 2, 1) := by decide +kernel
theorem dL_law_525 : decode cL_law 525 = .ok (.iadd, 1) := by decide +kernel
theorem dL_law_526 : decode cL_law 526 = .ok (.iaload, 1) := by decide +kernel
theorem dL_law_527 : decode cL_law 527 = .ok (.invokevirtual 76, 3) := by decide +kernel
theorem dL_law_530 : decode cL_law 530 = .ok (.if_icmp .eq 265, 3) := by decide +kernel
theorem dL_law_533 : decode cL_law 533 = .ok (.iconst 0, 1) := by decide +kernel
theorem dL_law_534 : decode cL_law 534 = .ok (.ireturn, 1) := by decide +kernel
theorem dL_law_535 : decode cL_law 535 = .ok (.aload_n 1, 1) := by decide +kernel
theorem dL_law_536 : decode cL_law 536 = .ok (.aload_n 0, 1) := by decide +kernel
theorem dL_law_537 : decode cL_law 537 = .ok (.iload_n 3, 1) := by decide +kernel
theorem dL_law_538 : decode cL_law 538 = .ok (.iconst 1, 1) := by decide +kernel
theorem dL_law_539 : decode cL_law 539 = .ok (.iadd, 1) := by decide +kernel
theorem dL_law_540 : decode cL_law 540 = .ok (.iaload, 1) := by decide +kernel
theorem dL_law_541 : decode cL_law 541 = .ok (.invokevirtual 77, 3) := by decide +kernel
theorem dL_law_544 : decode cL_law 544 = .ok (.aload_n 2, 1) := by decide +kernel
theorem dL_law_545 : decode cL_law 545 = .ok (.aload_n 0, 1) := by decide +kernel
theorem dL_law_546 : decode cL_law 546 = .ok (.iload_n 3, 1) := by decide +kernel
theorem dL_law_547 : decode cL_law 547 = .ok (.iconst 1, 1) := by decide +kernel
theorem dL_law_548 : decode cL_law 548 = .ok (.iadd, 1) := by decide +kernel
theorem dL_law_549 : decode cL_law 549 = .ok (.iaload, 1) := by decide +kernel
theorem dL_law_550 : decode cL_law 550 = .ok (.invokevirtual 80, 3) := by decide +kernel
theorem dL_law_553 : decode cL_law 553 = .ok (.if_icmp .eq 242, 3) := by decide +kernel
theorem dL_law_556 : decode cL_law 556 = .ok (.iconst 0, 1) := by decide +kernel
theorem dL_law_557 : decode cL_law 557 = .ok (.ireturn, 1) := by decide +kernel
theorem dL_law_558 : decode cL_law 558 = .ok (.aload_n 1, 1) := by decide +kernel
theorem dL_law_559 : decode cL_law 559 = .ok (.aload_n 0, 1) := by decide +kernel
theorem dL_law_560 : decode cL_law 560 = .ok (.iload_n 3, 1) := by decide +kernel
theorem dL_law_561 : decode cL_law 561 = .ok (.iconst 1, 1) := by decide +kernel
theorem dL_law_562 : decode cL_law 562 = .ok (.iadd, 1) := by decide +kernel
theorem dL_law_563 : decode cL_law 563 = .ok (.iaload, 1) := by decide +kernel
theorem dL_law_564 : decode cL_law 564 = .ok (.invokevirtual 81, 3) := by decide +kernel
theorem dL_law_567 : decode cL_law 567 = .ok (.aload_n 2, 1) := by decide +kernel
theorem dL_law_568 : decode cL_law 568 = .ok (.aload_n 0, 1) := by decide +kernel
theorem dL_law_569 : decode cL_law 569 = .ok (.iload_n 3, 1) := by decide +kernel
theorem dL_law_570 : decode cL_law 570 = .ok (.iconst 1, 1) := by decide +kernel
theorem dL_law_571 : decode cL_law 571 = .ok (.iadd, 1) := by decide +kernel
theorem dL_law_572 : decode cL_law 572 = .ok (.iaload, 1) := by decide +kernel
theorem dL_law_573 : decode cL_law 573 = .ok (.invokevirtual 84, 3) := by decide +kernel
theorem dL_law_576 : decode cL_law 576 = .ok (.if_icmp .eq 219, 3) := by decide +kernel
theorem dL_law_579 : decode cL_law 579 = .ok (.iconst 0, 1) := by decide +kernel
theorem dL_law_580 : decode cL_law 580 = .ok (.ireturn, 1) := by decide +kernel
theorem dL_law_581 : decode cL_law 581 = .ok (.aload_n 1, 1) := by decide +kernel
theorem dL_law_582 : decode cL_law 582 = .ok (.aload_n 0, 1) := by decide +kernel
theorem dL_law_583 : decode cL_law 583 = .ok (.iload_n 3, 1) := by decide +kernel
theorem dL_law_584 : decode cL_law 584 = .ok (.iconst 1, 1) := by decide +kernel
theorem dL_law_585 : decode cL_law 585 = .ok (.iadd, 1) := by decide +kernel
theorem dL_law_586 : decode cL_law 586 = .ok (.iaload, 1) := by decide +kernel
theorem dL_law_587 : decode cL_law 587 = .ok (.invokevirtual 85, 3) := by decide +kernel
theorem dL_law_590 : decode cL_law 590 = .ok (.aload_n 2, 1) := by decide +kernel
theorem dL_law_591 : decode cL_law 591 = .ok (.aload_n 0, 1) := by decide +kernel
theorem dL_law_592 : decode cL_law 592 = .ok (.iload_n 3, 1) := by decide +kernel
theorem dL_law_593 : decode cL_law 593 = .ok (.iconst 1, 1) := by decide +kernel
theorem dL_law_594 : decode cL_law 594 = .ok (.iadd, 1) := by decide +kernel
theorem dL_law_595 : decode cL_law 595 = .ok (.iaload, 1) := by decide +kernel
theorem dL_law_596 : decode cL_law 596 = .ok (.invokevirtual 88, 3) := by decide +kernel
theorem dL_law_599 : decode cL_law 599 = .ok (.if_icmp .eq 196, 3) := by decide +kernel
theorem dL_law_602 : decode cL_law 602 = .ok (.iconst 0, 1) := by decide +kernel
theorem dL_law_603 : decode cL_law 603 = .ok (.ireturn, 1) := by decide +kernel
theorem dL_law_604 : decode cL_law 604 = .ok (.aload_n 1, 1) := by decide +kernel
theorem dL_law_605 : decode cL_law 605 = .ok (.aload_n 0, 1) := by decide +kernel
theorem dL_law_606 : decode cL_law 606 = .ok (.iload_n 3, 1) := by decide +kernel
theorem dL_law_607 : decode cL_law 607 = .ok (.iconst 1, 1) := by decide +kernel
theorem dL_law_608 : decode cL_law 608 = .ok (.iadd, 1) := by decide +kernel
theorem dL_law_609 : decode cL_law 609 = .ok (.iaload, 1) := by decide +kernel
theorem dL_law_610 : decode cL_law 610 = .ok (.invokevirtual 89, 3) := by decide +kernel
theorem dL_law_613 : decode cL_law 613 = .ok (.aload_n 2, 1) := by decide +kernel
theorem dL_law_614 : decode cL_law 614 = .ok (.aload_n 0, 1) := by decide +kernel
theorem dL_law_615 : decode cL_law 615 = .ok (.iload_n 3, 1) := by decide +kernel
theorem dL_law_616 : decode cL_law 616 = .ok (.iconst 1, 1) := by decide +kernel
theorem dL_law_617 : decode cL_law 617 = .ok (.iadd, 1) := by decide +kernel
theorem dL_law_618 : decode cL_law 618 = .ok (.iaload, 1) := by decide +kernel
theorem dL_law_619 : decode cL_law 619 = .ok (.invokevirtual 92, 3) := by decide +kernel
theorem dL_law_622 : decode cL_law 622 = .ok (.if_icmp .eq 173, 3) := by decide +kernel
theorem dL_law_625 : decode cL_law 625 = .ok (.iconst 0, 1) := by decide +kernel
theorem dL_law_626 : decode cL_law 626 = .ok (.ireturn, 1) := by decide +kernel
theorem dL_law_627 : decode cL_law 627 = .ok (.aload_n 1, 1) := by decide +kernel
theorem dL_law_628 : decode cL_law 628 = .ok (.aload_n 0, 1) := by decide +kernel
theorem dL_law_629 : decode cL_law 629 = .ok (.iload_n 3, 1) := by decide +kernel
theorem dL_law_630 : decode cL_law 630 = .ok (.iconst 1, 1) := by decide +kernel
theorem dL_law_631 : decode cL_law 631 = .ok (.iadd, 1) := by decide +kernel
theorem dL_law_632 : decode cL_law 632 = .ok (.iaload, 1) := by decide +kernel
theorem dL_law_633 : decode cL_law 633 = .ok (.invokevirtual 93, 3) := by decide +kernel
theorem dL_law_636 : decode cL_law 636 = .ok (.aload_n 2, 1) := by decide +kernel
theorem dL_law_637 : decode cL_law 637 = .ok (.aload_n 0, 1) := by decide +kernel
theorem dL_law_638 : decode cL_law 638 = .ok (.iload_n 3, 1) := by decide +kernel
theorem dL_law_639 : decode cL_law 639 = .ok (.iconst 1, 1) := by decide +kernel
theorem dL_law_640 : decode cL_law 640 = .ok (.iadd, 1) := by decide +kernel
theorem dL_law_641 : decode cL_law 641 = .ok (.iaload, 1) := by decide +kernel
theorem dL_law_642 : decode cL_law 642 = .ok (.invokevirtual 96, 3) := by decide +kernel
theorem dL_law_645 : decode cL_law 645 = .ok (.if_icmp .eq 150, 3) := by decide +kernel
theorem dL_law_648 : decode cL_law 648 = .ok (.iconst 0, 1) := by decide +kernel
theorem dL_law_649 : decode cL_law 649 = .ok (.ireturn, 1) := by decide +kernel
theorem dL_law_650 : decode cL_law 650 = .ok (.aload_n 1, 1) := by decide +kernel
theorem dL_law_651 : decode cL_law 651 = .ok (.invokevirtual 97, 3) := by decide +kernel
theorem dL_law_654 : decode cL_law 654 = .ok (.aload_n 2, 1) := by decide +kernel
theorem dL_law_655 : decode cL_law 655 = .ok (.invokevirtual 100, 3) := by decide +kernel
theorem dL_law_658 : decode cL_law 658 = .ok (.if_icmp .eq 137, 3) := by decide +kernel
theorem dL_law_661 : decode cL_law 661 = .ok (.iconst 0, 1) := by decide +kernel
theorem dL_law_662 : decode cL_law 662 = .ok (.ireturn, 1) := by decide +kernel
theorem dL_law_663 : decode cL_law 663 = .ok (.aload_n 1, 1) := by decide +kernel
theorem dL_law_664 : decode cL_law 664 = .ok (.aload_n 0, 1) := by decide +kernel
theorem dL_law_665 : decode cL_law 665 = .ok (.iload_n 3, 1) := by decide +kernel
theorem dL_law_666 : decode cL_law 666 = .ok (.iconst 1, 1) := by decide +kernel
theorem dL_law_667 : decode cL_law 667 = .ok (.iadd, 1) := by decide +kernel
theorem dL_law_668 : decode cL_law 668 = .ok (.iaload, 1) := by decide +kernel
theorem dL_law_669 : decode cL_law 669 = .ok (.invokevirtual 101, 3) := by decide +kernel
theorem dL_law_672 : decode cL_law 672 = .ok (.aload_n 2, 1) := by decide +kernel
theorem dL_law_673 : decode cL_law 673 = .ok (.aload_n 0, 1) := by decide +kernel
theorem dL_law_674 : decode cL_law 674 = .ok (.iload_n 3, 1) := by decide +kernel
theorem dL_law_675 : decode cL_law 675 = .ok (.iconst 1, 1) := by decide +kernel
theorem dL_law_676 : decode cL_law 676 = .ok (.iadd, 1) := by decide +kernel
theorem dL_law_677 : decode cL_law 677 = .ok (.iaload, 1) := by decide +kernel
theorem dL_law_678 : decode cL_law 678 = .ok (.invokevirtual 104, 3) := by decide +kernel
theorem dL_law_681 : decode cL_law 681 = .ok (.if_icmp .eq 114, 3) := by decide +kernel
theorem dL_law_684 : decode cL_law 684 = .ok (.iconst 0, 1) := by decide +kernel
theorem dL_law_685 : decode cL_law 685 = .ok (.ireturn, 1) := by decide +kernel
theorem dL_law_686 : decode cL_law 686 = .ok (.aload_n 1, 1) := by decide +kernel
theorem dL_law_687 : decode cL_law 687 = .ok (.invokevirtual 105, 3) := by decide +kernel
theorem dL_law_690 : decode cL_law 690 = .ok (.aload_n 2, 1) := by decide +kernel
theorem dL_law_691 : decode cL_law 691 = .ok (.invokevirtual 108, 3) := by decide +kernel
theorem dL_law_694 : decode cL_law 694 = .ok (.if_icmp .eq 101, 3) := by decide +kernel
theorem dL_law_697 : decode cL_law 697 = .ok (.iconst 0, 1) := by decide +kernel
theorem dL_law_698 : decode cL_law 698 = .ok (.ireturn, 1) := by decide +kernel
theorem dL_law_699 : decode cL_law 699 = .ok (.aload_n 1, 1) := by decide +kernel
theorem dL_law_700 : decode cL_law 700 = .ok (.aload_n 0, 1) := by decide +kernel
theorem dL_law_701 : decode cL_law 701 = .ok (.iload_n 3, 1) := by decide +kernel
theorem dL_law_702 : decode cL_law 702 = .ok (.iconst 1, 1) := by decide +kernel
theorem dL_law_703 : decode cL_law 703 = .ok (.iadd, 1) := by decide +kernel
theorem dL_law_704 : decode cL_law 704 = .ok (.iaload, 1) := by decide +kernel
theorem dL_law_705 : decode cL_law 705 = .ok (.invokevirtual 109, 3) := by decide +kernel
theorem dL_law_708 : decode cL_law 708 = .ok (.aload_n 2, 1) := by decide +kernel
theorem dL_law_709 : decode cL_law 709 = .ok (.aload_n 0, 1) := by decide +kernel
theorem dL_law_710 : decode cL_law 710 = .ok (.iload_n 3, 1) := by decide +kernel
theorem dL_law_711 : decode cL_law 711 = .ok (.iconst 1, 1) := by decide +kernel
theorem dL_law_712 : decode cL_law 712 = .ok (.iadd, 1) := by decide +kernel
theorem dL_law_713 : decode cL_law 713 = .ok (.iaload, 1) := by decide +kernel
theorem dL_law_714 : decode cL_law 714 = .ok (.invokevirtual 112, 3) := by decide +kernel
theorem dL_law_717 : decode cL_law 717 = .ok (.if_icmp .eq 78, 3) := by decide +kernel
theorem dL_law_720 : decode cL_law 720 = .ok (.iconst 0, 1) := by decide +kernel
theorem dL_law_721 : decode cL_law 721 = .ok (.ireturn, 1) := by decide +kernel
theorem dL_law_722 : decode cL_law 722 = .ok (.aload_n 1, 1) := by decide +kernel
theorem dL_law_723 : decode cL_law 723 = .ok (.aload_n 0, 1) := by decide +kernel
theorem dL_law_724 : decode cL_law 724 = .ok (.iload_n 3, 1) := by decide +kernel
theorem dL_law_725 : decode cL_law 725 = .ok (.iconst 1, 1) := by decide +kernel
theorem dL_law_726 : decode cL_law 726 = .ok (.iadd, 1) := by decide +kernel
theorem dL_law_727 : decode cL_law 727 = .ok (.iaload, 1) := by decide +kernel
theorem dL_law_728 : decode cL_law 728 = .ok (.invokevirtual 113, 3) := by decide +kernel
theorem dL_law_731 : decode cL_law 731 = .ok (.aload_n 2, 1) := by decide +kernel
theorem dL_law_732 : decode cL_law 732 = .ok (.aload_n 0, 1) := by decide +kernel
theorem dL_law_733 : decode cL_law 733 = .ok (.iload_n 3, 1) := by decide +kernel
theorem dL_law_734 : decode cL_law 734 = .ok (.iconst 1, 1) := by decide +kernel
theorem dL_law_735 : decode cL_law 735 = .ok (.iadd, 1) := by decide +kernel
theorem dL_law_736 : decode cL_law 736 = .ok (.iaload, 1) := by decide +kernel
theorem dL_law_737 : decode cL_law 737 = .ok (.invokevirtual 116, 3) := by decide +kernel
theorem dL_law_740 : decode cL_law 740 = .ok (.if_icmp .eq 55, 3) := by decide +kernel
theorem dL_law_743 : decode cL_law 743 = .ok (.iconst 0, 1) := by decide +kernel
theorem dL_law_744 : decode cL_law 744 = .ok (.ireturn, 1) := by decide +kernel
theorem dL_law_745 : decode cL_law 745 = .ok (.aload_n 1, 1) := by decide +kernel
theorem dL_law_746 : decode cL_law 746 = .ok (.invokevirtual 117, 3) := by decide +kernel
theorem dL_law_749 : decode cL_law 749 = .ok (.aload_n 2, 1) := by decide +kernel
theorem dL_law_750 : decode cL_law 750 = .ok (.invokevirtual 120, 3) := by decide +kernel
theorem dL_law_753 : decode cL_law 753 = .ok (.if_icmp .eq 42, 3) := by decide +kernel
theorem dL_law_756 : decode cL_law 756 = .ok (.iconst 0, 1) := by decide +kernel
theorem dL_law_757 : decode cL_law 757 = .ok (.ireturn, 1) := by decide +kernel
theorem dL_law_758 : decode cL_law 758 = .ok (.aload_n 1, 1) := by decide +kernel
theorem dL_law_759 : decode cL_law 759 = .ok (.aload_n 0, 1) := by decide +kernel
theorem dL_law_760 : decode cL_law 760 = .ok (.iload_n 3, 1) := by decide +kernel
theorem dL_law_761 : decode cL_law 761 = .ok (.iconst 1, 1) := by decide +kernel
theorem dL_law_762 : decode cL_law 762 = .ok (.iadd, 1) := by decide +kernel
theorem dL_law_763 : decode cL_law 763 = .ok (.iaload, 1) := by decide +kernel
theorem dL_law_764 : decode cL_law 764 = .ok (.invokevirtual 121, 3) := by decide +kernel
theorem dL_law_767 : decode cL_law 767 = .ok (.aload_n 2, 1) := by decide +kernel
theorem dL_law_768 : decode cL_law 768 = .ok (.aload_n 0, 1) := by decide +kernel
theorem dL_law_769 : decode cL_law 769 = .ok (.iload_n 3, 1) := by decide +kernel
theorem dL_law_770 : decode cL_law 770 = .ok (.iconst 1, 1) := by decide +kernel
theorem dL_law_771 : decode cL_law 771 = .ok (.iadd, 1) := by decide +kernel
theorem dL_law_772 : decode cL_law 772 = .ok (.iaload, 1) := by decide +kernel
theorem dL_law_773 : decode cL_law 773 = .ok (.invokevirtual 124, 3) := by decide +kernel
theorem dL_law_776 : decode cL_law 776 = .ok (.if_icmp .eq 19, 3) := by decide +kernel
theorem dL_law_779 : decode cL_law 779 = .ok (.iconst 0, 1) := by decide +kernel
theorem dL_law_780 : decode cL_law 780 = .ok (.ireturn, 1) := by decide +kernel
theorem dL_law_781 : decode cL_law 781 = .ok (.aload_n 1, 1) := by decide +kernel
theorem dL_law_782 : decode cL_law 782 = .ok (.invokevirtual 125, 3) := by decide +kernel
theorem dL_law_785 : decode cL_law 785 = .ok (.aload_n 2, 1) := by decide +kernel
theorem dL_law_786 : decode cL_law 786 = .ok (.invokevirtual 129, 3) := by decide +kernel
theorem dL_law_789 : decode cL_law 789 = .ok (.lcmp, 1) := by decide +kernel
theorem dL_law_790 : decode cL_law 790 = .ok (.ifCond .eq 5, 3) := by decide +kernel
theorem dL_law_793 : decode cL_law 793 = .ok (.iconst 0, 1) := by decide +kernel
theorem dL_law_794 : decode cL_law 794 = .ok (.ireturn, 1) := by decide +kernel
theorem dL_law_795 : decode cL_law 795 = .ok (.iinc 3 4, 3) := by decide +kernel
theorem dL_law_798 : decode cL_law 798 = .ok (.goto (-780), 3) := by decide +kernel
theorem dL_law_801 : decode cL_law 801 = .ok (.iconst 1, 1) := by decide +kernel
theorem dL_law_802 : decode cL_law 802 = .ok (.ireturn, 1) := by decide +kernel
abbrev vwCl : List vw_C := [(RX0, TX0, 2), (RX1, TX1, 7), (RX2, TX2, 3), (RX3, TX3, 3), (RX4, TX4, 4), (RX5, TX5, 8), (RX6, TX6, 8), (RX7, TX7, 16)]
