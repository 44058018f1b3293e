theorem dX0_init_0 : decode cX0_init 0 = .ok (.aload_n 0, 1) := by decide +kernel
theorem dX0_init_1 : decode cX0_init 1 = .ok (.invokespecial 3, 3) := by decide +kernel
theorem dX0_init_4 : decode cX0_init 4 = .ok (.aload_n 0, 1) := by decide +kernel
theorem dX0_init_5 : decode cX0_init 5 = .ok (.bipush 24, 2) := by decide +kernel
theorem dX0_init_7 : decode cX0_init 7 = .ok (.newarray .int, 2) := by decide +kernel
theorem dX0_init_9 : decode cX0_init 9 = .ok (.putfield 9, 3) := by decide +kernel
theorem dX0_init_12 : decode cX0_init 12 = .ok (.aload_n 0, 1) := by decide +kernel
theorem dX0_init_13 : decode cX0_init 13 = .ok (.bipush 24, 2) := by decide +kernel
theorem dX0_init_15 : decode cX0_init 15 = .ok (.newarray .boolean, 2) := by decide +kernel
theorem dX0_init_17 : decode cX0_init 17 = .ok (.putfield 15, 3) := by decide +kernel
theorem dX0_init_20 : decode cX0_init 20 = .ok (.aload_n 0, 1) := by decide +kernel
theorem dX0_init_21 : decode cX0_init 21 = .ok (.bipush 24, 2) := by decide +kernel
theorem dX0_init_23 : decode cX0_init 23 = .ok (.newarray .int, 2) := by decide +kernel
theorem dX0_init_25 : decode cX0_init 25 = .ok (.putfield 19, 3) := by decide +kernel
theorem dX0_init_28 : decode cX0_init 28 = .ok (.aload_n 0, 1) := by decide +kernel
theorem dX0_init_29 : decode cX0_init 29 = .ok (.bipush 24, 2) := by decide +kernel
theorem dX0_init_31 : decode cX0_init 31 = .ok (.newarray .int, 2) := by decide +kernel
theorem dX0_init_33 : decode cX0_init 33 = .ok (.putfield 22, 3) := by decide +kernel
theorem dX0_init_36 : decode cX0_init 36 = .ok (.aload_n 0, 1) := by decide +kernel
theorem dX0_init_37 : decode cX0_init 37 = .ok (.bipush 24, 2) := by decide +kernel
theorem dX0_init_39 : decode cX0_init 39 = .ok (.newarray .int, 2) := by decide +kernel
theorem dX0_init_41 : decode cX0_init 41 = .ok (.putfield 25, 3) := by decide +kernel
theorem dX0_init_44 : decode cX0_init 44 = .ok (.return_, 1) := by decide +kernel
set_option maxRecDepth 20000 in
theorem ggX0_draw_X3_know : GoodIn wsX0_draw wsX3_know := goodIn_r _ [9, 10, 11, 12, 13, 14, 15, 102, 103, 104, 105, 106, 107, 108, 109, 110, 111, 112, 113, 114, 115] (by decide +kernel) (by decide +kernel)
set_option maxRecDepth 20000 in
theorem gX0_draw_X3_know_n28 : GoodIn wsX0_draw (wsX3_know) := ggX0_draw_X3_know
set_option maxRecDepth 20000 in
theorem ggX0_draw_X3_measure : GoodIn wsX0_draw wsX3_measure := goodIn_r _ [18, 19, 20, 11, 21, 22, 23, 24, 25, 26, 27, 7, 28, 10, 29, 30, 31, 32, 33, 34, 35, 36, 37, 38, 39, 40, 41, 42, 43, 44, 45, 46, 47, 48, 49, 50, 51, 52, 53, 54, 55, 56, 57, 58, 59, 60, 61, 62, 63, 64, 65, 66, 67, 68, 69, 70, 71, 72, 73, 74, 75, 76, 102, 103, 104, 105, 106, 107, 108, 109, 110, 111, 112, 113, 114, 115, 116, 117] (by decide +kernel) (by decide +kernel)
set_option maxRecDepth 20000 in
theorem gX0_draw_X3_measure_n41 : GoodIn wsX0_draw (wsX3_measure) := ggX0_draw_X3_measure
set_option maxRecDepth 20000 in
theorem ggX0_draw_X3_sum : GoodIn wsX0_draw wsX3_sum := goodIn_r _ [79, 21, 22, 23, 24, 69, 70, 44, 71, 102, 103, 104, 105, 106, 107, 108, 109, 110, 111] (by decide +kernel) (by decide +kernel)
set_option maxRecDepth 20000 in
theorem gX0_draw_X3_sum_n45 : GoodIn wsX0_draw (wsX3_sum) := ggX0_draw_X3_sum
set_option maxRecDepth 20000 in
theorem ggX0_draw_X0_aheadInRoundZero : GoodIn wsX0_draw wsX0_aheadInRoundZero := goodIn_r _ [84, 3, 54, 55, 56, 57, 58, 59, 60, 61, 95, 96, 97, 98, 99, 100, 101, 116, 117] (by decide +kernel) (by decide +kernel)
set_option maxRecDepth 20000 in
theorem gX0_draw_X0_aheadInRoundZero : GoodIn wsX0_draw (wsV RX0 53 RX0 yX0_aheadInRoundZero wsX0_aheadInRoundZero) := goodIn_app (goodIn_of _ (by decide +kernel)) ggX0_draw_X0_aheadInRoundZero
set_option maxRecDepth 20000 in
theorem ggX0_draw_X2_number : GoodIn wsX0_draw wsX2_number := goodIn_r _ [57, 58, 59, 60, 55, 61, 116, 117] (by decide +kernel) (by decide +kernel)
set_option maxRecDepth 20000 in
theorem gX0_draw_X2_number_n59 : GoodIn wsX0_draw (wsX2_number) := ggX0_draw_X2_number
set_option maxRecDepth 20000 in
theorem ggX0_draw_X0_placeOnList : GoodIn wsX0_draw wsX0_placeOnList := goodIn_r _ [88, 89, 3, 4, 5, 90, 91, 92, 93, 83, 94, 95, 96, 97, 98, 99, 100, 101] (by decide +kernel) (by decide +kernel)
set_option maxRecDepth 20000 in
theorem gX0_draw_X0_placeOnList : GoodIn wsX0_draw (wsV RX0 63 RX0 yX0_placeOnList wsX0_placeOnList) := goodIn_app (goodIn_of _ (by decide +kernel)) ggX0_draw_X0_placeOnList
theorem dX0_draw_0 : decode cX0_draw 0 = .ok (.aload_n 1, 1) := by decide +kernel
theorem dX0_draw_1 : decode cX0_draw 1 = .ok (.iload_n 2, 1) := by decide +kernel
theorem dX0_draw_2 : decode cX0_draw 2 = .ok (.invokevirtual 28, 3) := by decide +kernel
theorem dX0_draw_5 : decode cX0_draw 5 = .ok (.aload_n 0, 1) := by decide +kernel
theorem dX0_draw_6 : decode cX0_draw 6 = .ok (.iconst 0, 1) := by decide +kernel
theorem dX0_draw_7 : decode cX0_draw 7 = .ok (.putfield 34, 3) := by decide +kernel
theorem dX0_draw_10 : decode cX0_draw 10 = .ok (.aload_n 0, 1) := by decide +kernel
theorem dX0_draw_11 : decode cX0_draw 11 = .ok (.iconst 0, 1) := by decide +kernel
theorem dX0_draw_12 : decode cX0_draw 12 = .ok (.putfield 38, 3) := by decide +kernel
theorem dX0_draw_15 : decode cX0_draw 15 = .ok (.iconst 0, 1) := by decide +kernel
theorem dX0_draw_16 : decode cX0_draw 16 = .ok (.istore 4, 2) := by decide +kernel
theorem dX0_draw_18 : decode cX0_draw 18 = .ok (.iload 4, 2) := by decide +kernel
theorem dX0_draw_20 : decode cX0_draw 20 = .ok (.bipush 24, 2) := by decide +kernel
theorem dX0_draw_22 : decode cX0_draw 22 = .ok (.if_icmp .ge 70, 3) := by decide +kernel
theorem dX0_draw_25 : decode cX0_draw 25 = .ok (.iload 4, 2) := by decide +kernel
theorem dX0_draw_27 : decode cX0_draw 27 = .ok (.iload_n 3, 1) := by decide +kernel
theorem dX0_draw_28 : decode cX0_draw 28 = .ok (.if_icmp .ge 16, 3) := by decide +kernel
theorem dX0_draw_31 : decode cX0_draw 31 = .ok (.aload_n 1, 1) := by decide +kernel
theorem dX0_draw_32 : decode cX0_draw 32 = .ok (.iload 4, 2) := by decide +kernel
theorem dX0_draw_34 : decode cX0_draw 34 = .ok (.invokevirtual 41, 3) := by decide +kernel
theorem dX0_draw_37 : decode cX0_draw 37 = .ok (.ifCond .eq 7, 3) := by decide +kernel
theorem dX0_draw_40 : decode cX0_draw 40 = .ok (.iconst 1, 1) := by decide +kernel
theorem dX0_draw_41 : decode cX0_draw 41 = .ok (.goto 4, 3) := by decide +kernel
theorem dX0_draw_44 : decode cX0_draw 44 = .ok (.iconst 0, 1) := by decide +kernel
theorem dX0_draw_45 : decode cX0_draw 45 = .ok (.istore 5, 2) := by decide +kernel
theorem dX0_draw_47 : decode cX0_draw 47 = .ok (.aload_n 0, 1) := by decide +kernel
theorem dX0_draw_48 : decode cX0_draw 48 = .ok (.getfield 9, 3) := by decide +kernel
theorem dX0_draw_51 : decode cX0_draw 51 = .ok (.iload 4, 2) := by decide +kernel
theorem dX0_draw_53 : decode cX0_draw 53 = .ok (.iload 5, 2) := by decide +kernel
theorem dX0_draw_55 : decode cX0_draw 55 = .ok (.ifCond .eq 10, 3) := by decide +kernel
theorem dX0_draw_58 : decode cX0_draw 58 = .ok (.aload_n 1, 1) := by decide +kernel
theorem dX0_draw_59 : decode cX0_draw 59 = .ok (.invokevirtual 45, 3) := by decide +kernel
theorem dX0_draw_62 : decode cX0_draw 62 = .ok (.goto 4, 3) := by decide +kernel
theorem dX0_draw_65 : decode cX0_draw 65 = .ok (.iconst (-1), 1) := by decide +kernel
theorem dX0_draw_66 : decode cX0_draw 66 = .ok (.iastore, 1) := by decide +kernel
theorem dX0_draw_67 : decode cX0_draw 67 = .ok (.aload_n 0, 1) := by decide +kernel
theorem dX0_draw_68 : decode cX0_draw 68 = .ok (.dup, 1) := by decide +kernel
theorem dX0_draw_69 : decode cX0_draw 69 = .ok (.getfield 34, 3) := by decide +kernel
theorem dX0_draw_72 : decode cX0_draw 72 = .ok (.iload 5, 2) := by decide +kernel
theorem dX0_draw_74 : decode cX0_draw 74 = .ok (.ifCond .eq 7, 3) := by decide +kernel
theorem dX0_draw_77 : decode cX0_draw 77 = .ok (.iconst 1, 1) := by decide +kernel
theorem dX0_draw_78 : decode cX0_draw 78 = .ok (.goto 4, 3) := by decide +kernel
theorem dX0_draw_81 : decode cX0_draw 81 = .ok (.iconst 0, 1) := by decide +kernel
theorem dX0_draw_82 : decode cX0_draw 82 = .ok (.iadd, 1) := by decide +kernel
theorem dX0_draw_83 : decode cX0_draw 83 = .ok (.putfield 34, 3) := by decide +kernel
theorem dX0_draw_86 : decode cX0_draw 86 = .ok (.iinc 4 1, 3) := by decide +kernel
theorem dX0_draw_89 : decode cX0_draw 89 = .ok (.goto (-71), 3) := by decide +kernel
theorem dX0_draw_92 : decode cX0_draw 92 = .ok (.iconst 0, 1) := by decide +kernel
theorem dX0_draw_93 : decode cX0_draw 93 = .ok (.istore 4, 2) := by decide +kernel
theorem dX0_draw_95 : decode cX0_draw 95 = .ok (.iload 4, 2) := by decide +kernel
theorem dX0_draw_97 : decode cX0_draw 97 = .ok (.bipush 24, 2) := by decide +kernel
theorem dX0_draw_99 : decode cX0_draw 99 = .ok (.if_icmp .ge 133, 3) := by decide +kernel
theorem dX0_draw_102 : decode cX0_draw 102 = .ok (.aload_n 0, 1) := by decide +kernel
theorem dX0_draw_103 : decode cX0_draw 103 = .ok (.getfield 15, 3) := by decide +kernel
theorem dX0_draw_106 : decode cX0_draw 106 = .ok (.iload 4, 2) := by decide +kernel
theorem dX0_draw_108 : decode cX0_draw 108 = .ok (.aload_n 0, 1) := by decide +kernel
theorem dX0_draw_109 : decode cX0_draw 109 = .ok (.getfield 9, 3) := by decide +kernel
theorem dX0_draw_112 : decode cX0_draw 112 = .ok (.iload 4, 2) := by decide +kernel
theorem dX0_draw_114 : decode cX0_draw 114 = .ok (.iaload, 1) := by decide +kernel
theorem dX0_draw_115 : decode cX0_draw 115 = .ok (.ifCond .lt 28, 3) := by decide +kernel
theorem dX0_draw_118 : decode cX0_draw 118 = .ok (.aload_n 0, 1) := by decide +kernel
theorem dX0_draw_119 : decode cX0_draw 119 = .ok (.iload 4, 2) := by decide +kernel
theorem dX0_draw_121 : decode cX0_draw 121 = .ok (.aload_n 1, 1) := by decide +kernel
theorem dX0_draw_122 : decode cX0_draw 122 = .ok (.getfield 49, 3) := by decide +kernel
theorem dX0_draw_125 : decode cX0_draw 125 = .ok (.invokevirtual 53, 3) := by decide +kernel
theorem dX0_draw_128 : decode cX0_draw 128 = .ok (.aload_n 1, 1) := by decide +kernel
theorem dX0_draw_129 : decode cX0_draw 129 = .ok (.getfield 49, 3) := by decide +kernel
theorem dX0_draw_132 : decode cX0_draw 132 = .ok (.iconst 5, 1) := by decide +kernel
theorem dX0_draw_133 : decode cX0_draw 133 = .ok (.invokevirtual 59, 3) := by decide +kernel
theorem dX0_draw_136 : decode cX0_draw 136 = .ok (.if_icmp .ge 7, 3) := by decide +kernel
theorem dX0_draw_139 : decode cX0_draw 139 = .ok (.iconst 1, 1) := by decide +kernel
theorem dX0_draw_140 : decode cX0_draw 140 = .ok (.goto 4, 3) := by decide +kernel
theorem dX0_draw_143 : decode cX0_draw 143 = .ok (.iconst 0, 1) := by decide +kernel
theorem dX0_draw_144 : decode cX0_draw 144 = .ok (.bastore, 1) := by decide +kernel
theorem dX0_draw_145 : decode cX0_draw 145 = .ok (.aload_n 0, 1) := by decide +kernel
theorem dX0_draw_146 : decode cX0_draw 146 = .ok (.dup, 1) := by decide +kernel
theorem dX0_draw_147 : decode cX0_draw 147 = .ok (.getfield 38, 3) := by decide +kernel
theorem dX0_draw_150 : decode cX0_draw 150 = .ok (.aload_n 0, 1) := by decide +kernel
theorem dX0_draw_151 : decode cX0_draw 151 = .ok (.getfield 15, 3) := by decide +kernel
theorem dX0_draw_154 : decode cX0_draw 154 = .ok (.iload 4, 2) := by decide +kernel
theorem dX0_draw_156 : decode cX0_draw 156 = .ok (.baload, 1) := by decide +kernel
theorem dX0_draw_157 : decode cX0_draw 157 = .ok (.ifCond .eq 7, 3) := by decide +kernel
theorem dX0_draw_160 : decode cX0_draw 160 = .ok (.iconst 1, 1) := by decide +kernel
theorem dX0_draw_161 : decode cX0_draw 161 = .ok (.goto 4, 3) := by decide +kernel
theorem dX0_draw_164 : decode cX0_draw 164 = .ok (.iconst 0, 1) := by decide +kernel
theorem dX0_draw_165 : decode cX0_draw 165 = .ok (.iadd, 1) := by decide +kernel
theorem dX0_draw_166 : decode cX0_draw 166 = .ok (.putfield 38, 3) := by decide +kernel
theorem dX0_draw_169 : decode cX0_draw 169 = .ok (.aload_n 0, 1) := by decide +kernel
theorem dX0_draw_170 : decode cX0_draw 170 = .ok (.getfield 15, 3) := by decide +kernel
theorem dX0_draw_173 : decode cX0_draw 173 = .ok (.iload 4, 2) := by decide +kernel
theorem dX0_draw_175 : decode cX0_draw 175 = .ok (.baload, 1) := by decide +kernel
theorem dX0_draw_176 : decode cX0_draw 176 = .ok (.ifCond .eq 19, 3) := by decide +kernel
theorem dX0_draw_179 : decode cX0_draw 179 = .ok (.aload_n 1, 1) := by decide +kernel
theorem dX0_draw_180 : decode cX0_draw 180 = .ok (.bipush 24, 2) := by decide +kernel
theorem dX0_draw_182 : decode cX0_draw 182 = .ok (.iload 4, 2) := by decide +kernel
theorem dX0_draw_184 : decode cX0_draw 184 = .ok (.iadd, 1) := by decide +kernel
theorem dX0_draw_185 : decode cX0_draw 185 = .ok (.invokevirtual 41, 3) := by decide +kernel
theorem dX0_draw_188 : decode cX0_draw 188 = .ok (.ifCond .eq 7, 3) := by decide +kernel
theorem dX0_draw_191 : decode cX0_draw 191 = .ok (.iconst 1, 1) := by decide +kernel
theorem dX0_draw_192 : decode cX0_draw 192 = .ok (.goto 4, 3) := by decide +kernel
theorem dX0_draw_195 : decode cX0_draw 195 = .ok (.iconst 0, 1) := by decide +kernel
theorem dX0_draw_196 : decode cX0_draw 196 = .ok (.istore 5, 2) := by decide +kernel
theorem dX0_draw_198 : decode cX0_draw 198 = .ok (.aload_n 0, 1) := by decide +kernel
theorem dX0_draw_199 : decode cX0_draw 199 = .ok (.getfield 19, 3) := by decide +kernel
theorem dX0_draw_202 : decode cX0_draw 202 = .ok (.iload 4, 2) := by decide +kernel
theorem dX0_draw_204 : decode cX0_draw 204 = .ok (.aload_n 0, 1) := by decide +kernel
theorem dX0_draw_205 : decode cX0_draw 205 = .ok (.getfield 9, 3) := by decide +kernel
theorem dX0_draw_208 : decode cX0_draw 208 = .ok (.iload 4, 2) := by decide +kernel
theorem dX0_draw_210 : decode cX0_draw 210 = .ok (.iaload, 1) := by decide +kernel
theorem dX0_draw_211 : decode cX0_draw 211 = .ok (.iload 5, 2) := by decide +kernel
theorem dX0_draw_213 : decode cX0_draw 213 = .ok (.ifCond .eq 10, 3) := by decide +kernel
theorem dX0_draw_216 : decode cX0_draw 216 = .ok (.aload_n 1, 1) := by decide +kernel
theorem dX0_draw_217 : decode cX0_draw 217 = .ok (.invokevirtual 45, 3) := by decide +kernel
theorem dX0_draw_220 : decode cX0_draw 220 = .ok (.goto 4, 3) := by decide +kernel
theorem dX0_draw_223 : decode cX0_draw 223 = .ok (.iconst 0, 1) := by decide +kernel
theorem dX0_draw_224 : decode cX0_draw 224 = .ok (.iadd, 1) := by decide +kernel
theorem dX0_draw_225 : decode cX0_draw 225 = .ok (.iastore, 1) := by decide +kernel
theorem dX0_draw_226 : decode cX0_draw 226 = .ok (.iinc 4 1, 3) := by decide +kernel
theorem dX0_draw_229 : decode cX0_draw 229 = .ok (.goto (-134), 3) := by decide +kernel
theorem dX0_draw_232 : decode cX0_draw 232 = .ok (.iconst 0, 1) := by decide +kernel
theorem dX0_draw_233 : decode cX0_draw 233 = .ok (.istore 4, 2) := by decide +kernel
theorem dX0_draw_235 : decode cX0_draw 235 = .ok (.iload 4, 2) := by decide +kernel
theorem dX0_draw_237 : decode cX0_draw 237 = .ok (.bipush 24, 2) := by decide +kernel
theorem dX0_draw_239 : decode cX0_draw 239 = .ok (.if_icmp .ge 15, 3) := by decide +kernel
theorem dX0_draw_242 : decode cX0_draw 242 = .ok (.aload_n 0, 1) := by decide +kernel
theorem dX0_draw_243 : decode cX0_draw 243 = .ok (.iload 4, 2) := by decide +kernel
theorem dX0_draw_245 : decode cX0_draw 245 = .ok (.invokevirtual 63, 3) := by decide +kernel
theorem dX0_draw_248 : decode cX0_draw 248 = .ok (.iinc 4 1, 3) := by decide +kernel
theorem dX0_draw_251 : decode cX0_draw 251 = .ok (.goto (-16), 3) := by decide +kernel
theorem dX0_draw_254 : decode cX0_draw 254 = .ok (.return_, 1) := by decide +kernel
set_option maxRecDepth 20000 in
theorem ggX0_aheadInRoundZero_X2_number : GoodIn wsX0_aheadInRoundZero wsX2_number := goodIn_r _ [5, 6, 7, 8, 3, 9, 17, 18] (by decide +kernel) (by decide +kernel)
set_option maxRecDepth 20000 in
theorem gX0_aheadInRoundZero_X2_number_n59 : GoodIn wsX0_aheadInRoundZero (wsX2_number) := ggX0_aheadInRoundZero_X2_number
theorem dX0_aheadInRoundZero_0 : decode cX0_aheadInRoundZero 0 = .ok (.aload_n 2, 1) := by decide +kernel
theorem dX0_aheadInRoundZero_1 : decode cX0_aheadInRoundZero 1 = .ok (.bipush 6, 2) := by decide +kernel
theorem dX0_aheadInRoundZero_3 : decode cX0_aheadInRoundZero 3 = .ok (.invokevirtual 59, 3) := by decide +kernel
theorem dX0_aheadInRoundZero_6 : decode cX0_aheadInRoundZero 6 = .ok (.ifCond .ne 7, 3) := by decide +kernel
theorem dX0_aheadInRoundZero_9 : decode cX0_aheadInRoundZero 9 = .ok (.iconst 1, 1) := by decide +kernel
theorem dX0_aheadInRoundZero_10 : decode cX0_aheadInRoundZero 10 = .ok (.goto 4, 3) := by decide +kernel
theorem dX0_aheadInRoundZero_13 : decode cX0_aheadInRoundZero 13 = .ok (.iconst 0, 1) := by decide +kernel
theorem dX0_aheadInRoundZero_14 : decode cX0_aheadInRoundZero 14 = .ok (.istore_n 3, 1) := by decide +kernel
theorem dX0_aheadInRoundZero_15 : decode cX0_aheadInRoundZero 15 = .ok (.iconst 0, 1) := by decide +kernel
theorem dX0_aheadInRoundZero_16 : decode cX0_aheadInRoundZero 16 = .ok (.istore 4, 2) := by decide +kernel
theorem dX0_aheadInRoundZero_18 : decode cX0_aheadInRoundZero 18 = .ok (.iconst 0, 1) := by decide +kernel
theorem dX0_aheadInRoundZero_19 : decode cX0_aheadInRoundZero 19 = .ok (.istore 5, 2) := by decide +kernel
theorem dX0_aheadInRoundZero_21 : decode cX0_aheadInRoundZero 21 = .ok (.iload 5, 2) := by decide +kernel
theorem dX0_aheadInRoundZero_23 : decode cX0_aheadInRoundZero 23 = .ok (.bipush 24, 2) := by decide +kernel
theorem dX0_aheadInRoundZero_25 : decode cX0_aheadInRoundZero 25 = .ok (.if_icmp .ge 73, 3) := by decide +kernel
theorem dX0_aheadInRoundZero_28 : decode cX0_aheadInRoundZero 28 = .ok (.aload_n 0, 1) := by decide +kernel
theorem dX0_aheadInRoundZero_29 : decode cX0_aheadInRoundZero 29 = .ok (.getfield 9, 3) := by decide +kernel
theorem dX0_aheadInRoundZero_32 : decode cX0_aheadInRoundZero 32 = .ok (.iload 5, 2) := by decide +kernel
theorem dX0_aheadInRoundZero_34 : decode cX0_aheadInRoundZero 34 = .ok (.iaload, 1) := by decide +kernel
theorem dX0_aheadInRoundZero_35 : decode cX0_aheadInRoundZero 35 = .ok (.aload_n 0, 1) := by decide +kernel
theorem dX0_aheadInRoundZero_36 : decode cX0_aheadInRoundZero 36 = .ok (.getfield 9, 3) := by decide +kernel
theorem dX0_aheadInRoundZero_39 : decode cX0_aheadInRoundZero 39 = .ok (.iload_n 1, 1) := by decide +kernel
theorem dX0_aheadInRoundZero_40 : decode cX0_aheadInRoundZero 40 = .ok (.iaload, 1) := by decide +kernel
theorem dX0_aheadInRoundZero_41 : decode cX0_aheadInRoundZero 41 = .ok (.if_icmp .gt 29, 3) := by decide +kernel
theorem dX0_aheadInRoundZero_44 : decode cX0_aheadInRoundZero 44 = .ok (.iload_n 3, 1) := by decide +kernel
theorem dX0_aheadInRoundZero_45 : decode cX0_aheadInRoundZero 45 = .ok (.ifCond .eq 29, 3) := by decide +kernel
theorem dX0_aheadInRoundZero_48 : decode cX0_aheadInRoundZero 48 = .ok (.aload_n 0, 1) := by decide +kernel
theorem dX0_aheadInRoundZero_49 : decode cX0_aheadInRoundZero 49 = .ok (.getfield 9, 3) := by decide +kernel
theorem dX0_aheadInRoundZero_52 : decode cX0_aheadInRoundZero 52 = .ok (.iload 5, 2) := by decide +kernel
theorem dX0_aheadInRoundZero_54 : decode cX0_aheadInRoundZero 54 = .ok (.iaload, 1) := by decide +kernel
theorem dX0_aheadInRoundZero_55 : decode cX0_aheadInRoundZero 55 = .ok (.aload_n 0, 1) := by decide +kernel
theorem dX0_aheadInRoundZero_56 : decode cX0_aheadInRoundZero 56 = .ok (.getfield 9, 3) := by decide +kernel
theorem dX0_aheadInRoundZero_59 : decode cX0_aheadInRoundZero 59 = .ok (.iload_n 1, 1) := by decide +kernel
theorem dX0_aheadInRoundZero_60 : decode cX0_aheadInRoundZero 60 = .ok (.iaload, 1) := by decide +kernel
theorem dX0_aheadInRoundZero_61 : decode cX0_aheadInRoundZero 61 = .ok (.if_icmp .ne 13, 3) := by decide +kernel
theorem dX0_aheadInRoundZero_64 : decode cX0_aheadInRoundZero 64 = .ok (.iload 5, 2) := by decide +kernel
theorem dX0_aheadInRoundZero_66 : decode cX0_aheadInRoundZero 66 = .ok (.iload_n 1, 1) := by decide +kernel
theorem dX0_aheadInRoundZero_67 : decode cX0_aheadInRoundZero 67 = .ok (.if_icmp .ge 7, 3) := by decide +kernel
theorem dX0_aheadInRoundZero_70 : decode cX0_aheadInRoundZero 70 = .ok (.iconst 1, 1) := by decide +kernel
theorem dX0_aheadInRoundZero_71 : decode cX0_aheadInRoundZero 71 = .ok (.goto 4, 3) := by decide +kernel
theorem dX0_aheadInRoundZero_74 : decode cX0_aheadInRoundZero 74 = .ok (.iconst 0, 1) := by decide +kernel
theorem dX0_aheadInRoundZero_75 : decode cX0_aheadInRoundZero 75 = .ok (.istore 6, 2) := by decide +kernel
theorem dX0_aheadInRoundZero_77 : decode cX0_aheadInRoundZero 77 = .ok (.iload 4, 2) := by decide +kernel
theorem dX0_aheadInRoundZero_79 : decode cX0_aheadInRoundZero 79 = .ok (.iload 6, 2) := by decide +kernel
theorem dX0_aheadInRoundZero_81 : decode cX0_aheadInRoundZero 81 = .ok (.ifCond .eq 7, 3) := by decide +kernel
theorem dX0_aheadInRoundZero_84 : decode cX0_aheadInRoundZero 84 = .ok (.iconst 1, 1) := by decide +kernel
theorem dX0_aheadInRoundZero_85 : decode cX0_aheadInRoundZero 85 = .ok (.goto 4, 3) := by decide +kernel
theorem dX0_aheadInRoundZero_88 : decode cX0_aheadInRoundZero 88 = .ok (.iconst 0, 1) := by decide +kernel
theorem dX0_aheadInRoundZero_89 : decode cX0_aheadInRoundZero 89 = .ok (.iadd, 1) := by decide +kernel
theorem dX0_aheadInRoundZero_90 : decode cX0_aheadInRoundZero 90 = .ok (.istore 4, 2) := by decide +kernel
theorem dX0_aheadInRoundZero_92 : decode cX0_aheadInRoundZero 92 = .ok (.iinc 5 1, 3) := by decide +kernel
theorem dX0_aheadInRoundZero_95 : decode cX0_aheadInRoundZero 95 = .ok (.goto (-74), 3) := by decide +kernel
theorem dX0_aheadInRoundZero_98 : decode cX0_aheadInRoundZero 98 = .ok (.iload 4, 2) := by decide +kernel
theorem dX0_aheadInRoundZero_100 : decode cX0_aheadInRoundZero 100 = .ok (.ireturn, 1) := by decide +kernel
set_option maxRecDepth 20000 in
theorem ggX0_placeOnList_X0_isBetter : GoodIn wsX0_placeOnList wsX0_isBetter := goodIn_r _ [10, 3, 4, 11, 12, 13, 14, 15, 16, 17] (by decide +kernel) (by decide +kernel)
set_option maxRecDepth 20000 in
theorem gX0_placeOnList_X0_isBetter : GoodIn wsX0_placeOnList (wsV RX0 66 RX0 yX0_isBetter wsX0_isBetter) := goodIn_app (goodIn_of _ (by decide +kernel)) ggX0_placeOnList_X0_isBetter
theorem dX0_placeOnList_0 : decode cX0_placeOnList 0 = .ok (.aload_n 0, 1) := by decide +kernel
theorem dX0_placeOnList_1 : decode cX0_placeOnList 1 = .ok (.getfield 22, 3) := by decide +kernel
theorem dX0_placeOnList_4 : decode cX0_placeOnList 4 = .ok (.iload_n 1, 1) := by decide +kernel
theorem dX0_placeOnList_5 : decode cX0_placeOnList 5 = .ok (.iconst 0, 1) := by decide +kernel
theorem dX0_placeOnList_6 : decode cX0_placeOnList 6 = .ok (.iastore, 1) := by decide +kernel
theorem dX0_placeOnList_7 : decode cX0_placeOnList 7 = .ok (.aload_n 0, 1) := by decide +kernel
theorem dX0_placeOnList_8 : decode cX0_placeOnList 8 = .ok (.getfield 9, 3) := by decide +kernel
theorem dX0_placeOnList_11 : decode cX0_placeOnList 11 = .ok (.iload_n 1, 1) := by decide +kernel
theorem dX0_placeOnList_12 : decode cX0_placeOnList 12 = .ok (.iaload, 1) := by decide +kernel
theorem dX0_placeOnList_13 : decode cX0_placeOnList 13 = .ok (.ifCond .ge 4, 3) := by decide +kernel
theorem dX0_placeOnList_16 : decode cX0_placeOnList 16 = .ok (.return_, 1) := by decide +kernel
theorem dX0_placeOnList_17 : decode cX0_placeOnList 17 = .ok (.iconst 0, 1) := by decide +kernel
theorem dX0_placeOnList_18 : decode cX0_placeOnList 18 = .ok (.istore_n 2, 1) := by decide +kernel
theorem dX0_placeOnList_19 : decode cX0_placeOnList 19 = .ok (.iconst 0, 1) := by decide +kernel
theorem dX0_placeOnList_20 : decode cX0_placeOnList 20 = .ok (.istore_n 3, 1) := by decide +kernel
theorem dX0_placeOnList_21 : decode cX0_placeOnList 21 = .ok (.iconst 0, 1) := by decide +kernel
theorem dX0_placeOnList_22 : decode cX0_placeOnList 22 = .ok (.istore 4, 2) := by decide +kernel
theorem dX0_placeOnList_24 : decode cX0_placeOnList 24 = .ok (.iload 4, 2) := by decide +kernel
theorem dX0_placeOnList_26 : decode cX0_placeOnList 26 = .ok (.bipush 24, 2) := by decide +kernel
theorem dX0_placeOnList_28 : decode cX0_placeOnList 28 = .ok (.if_icmp .ge 83, 3) := by decide +kernel
theorem dX0_placeOnList_31 : decode cX0_placeOnList 31 = .ok (.aload_n 0, 1) := by decide +kernel
theorem dX0_placeOnList_32 : decode cX0_placeOnList 32 = .ok (.getfield 9, 3) := by decide +kernel
theorem dX0_placeOnList_35 : decode cX0_placeOnList 35 = .ok (.iload 4, 2) := by decide +kernel
theorem dX0_placeOnList_37 : decode cX0_placeOnList 37 = .ok (.iaload, 1) := by decide +kernel
theorem dX0_placeOnList_38 : decode cX0_placeOnList 38 = .ok (.ifCond .lt 67, 3) := by decide +kernel
theorem dX0_placeOnList_41 : decode cX0_placeOnList 41 = .ok (.iload_n 2, 1) := by decide +kernel
theorem dX0_placeOnList_42 : decode cX0_placeOnList 42 = .ok (.aload_n 0, 1) := by decide +kernel
theorem dX0_placeOnList_43 : decode cX0_placeOnList 43 = .ok (.iload 4, 2) := by decide +kernel
theorem dX0_placeOnList_45 : decode cX0_placeOnList 45 = .ok (.iload_n 1, 1) := by decide +kernel
theorem dX0_placeOnList_46 : decode cX0_placeOnList 46 = .ok (.invokevirtual 66, 3) := by decide +kernel
theorem dX0_placeOnList_49 : decode cX0_placeOnList 49 = .ok (.ifCond .eq 7, 3) := by decide +kernel
theorem dX0_placeOnList_52 : decode cX0_placeOnList 52 = .ok (.iconst 1, 1) := by decide +kernel
theorem dX0_placeOnList_53 : decode cX0_placeOnList 53 = .ok (.goto 4, 3) := by decide +kernel
theorem dX0_placeOnList_56 : decode cX0_placeOnList 56 = .ok (.iconst 0, 1) := by decide +kernel
theorem dX0_placeOnList_57 : decode cX0_placeOnList 57 = .ok (.iadd, 1) := by decide +kernel
theorem dX0_placeOnList_58 : decode cX0_placeOnList 58 = .ok (.istore_n 2, 1) := by decide +kernel
theorem dX0_placeOnList_59 : decode cX0_placeOnList 59 = .ok (.iload_n 3, 1) := by decide +kernel
theorem dX0_placeOnList_60 : decode cX0_placeOnList 60 = .ok (.iload 4, 2) := by decide +kernel
theorem dX0_placeOnList_62 : decode cX0_placeOnList 62 = .ok (.iload_n 1, 1) := by decide +kernel
theorem dX0_placeOnList_63 : decode cX0_placeOnList 63 = .ok (.if_icmp .ge 39, 3) := by decide +kernel
theorem dX0_placeOnList_66 : decode cX0_placeOnList 66 = .ok (.aload_n 0, 1) := by decide +kernel
theorem dX0_placeOnList_67 : decode cX0_placeOnList 67 = .ok (.getfield 15, 3) := by decide +kernel
theorem dX0_placeOnList_70 : decode cX0_placeOnList 70 = .ok (.iload 4, 2) := by decide +kernel
theorem dX0_placeOnList_72 : decode cX0_placeOnList 72 = .ok (.baload, 1) := by decide +kernel
theorem dX0_placeOnList_73 : decode cX0_placeOnList 73 = .ok (.aload_n 0, 1) := by decide +kernel
theorem dX0_placeOnList_74 : decode cX0_placeOnList 74 = .ok (.getfield 15, 3) := by decide +kernel
theorem dX0_placeOnList_77 : decode cX0_placeOnList 77 = .ok (.iload_n 1, 1) := by decide +kernel
theorem dX0_placeOnList_78 : decode cX0_placeOnList 78 = .ok (.baload, 1) := by decide +kernel
theorem dX0_placeOnList_79 : decode cX0_placeOnList 79 = .ok (.if_icmp .ne 23, 3) := by decide +kernel
theorem dX0_placeOnList_82 : decode cX0_placeOnList 82 = .ok (.aload_n 0, 1) := by decide +kernel
theorem dX0_placeOnList_83 : decode cX0_placeOnList 83 = .ok (.getfield 19, 3) := by decide +kernel
theorem dX0_placeOnList_86 : decode cX0_placeOnList 86 = .ok (.iload 4, 2) := by decide +kernel
theorem dX0_placeOnList_88 : decode cX0_placeOnList 88 = .ok (.iaload, 1) := by decide +kernel
theorem dX0_placeOnList_89 : decode cX0_placeOnList 89 = .ok (.aload_n 0, 1) := by decide +kernel
theorem dX0_placeOnList_90 : decode cX0_placeOnList 90 = .ok (.getfield 19, 3) := by decide +kernel
theorem dX0_placeOnList_93 : decode cX0_placeOnList 93 = .ok (.iload_n 1, 1) := by decide +kernel
theorem dX0_placeOnList_94 : decode cX0_placeOnList 94 = .ok (.iaload, 1) := by decide +kernel
theorem dX0_placeOnList_95 : decode cX0_placeOnList 95 = .ok (.if_icmp .ne 7, 3) := by decide +kernel
theorem dX0_placeOnList_98 : decode cX0_placeOnList 98 = .ok (.iconst 1, 1) := by decide +kernel
theorem dX0_placeOnList_99 : decode cX0_placeOnList 99 = .ok (.goto 4, 3) := by decide +kernel
theorem dX0_placeOnList_102 : decode cX0_placeOnList 102 = .ok (.iconst 0, 1) := by decide +kernel
theorem dX0_placeOnList_103 : decode cX0_placeOnList 103 = .ok (.iadd, 1) := by decide +kernel
theorem dX0_placeOnList_104 : decode cX0_placeOnList 104 = .ok (.istore_n 3, 1) := by decide +kernel
theorem dX0_placeOnList_105 : decode cX0_placeOnList 105 = .ok (.iinc 4 1, 3) := by decide +kernel
theorem dX0_placeOnList_108 : decode cX0_placeOnList 108 = .ok (.goto (-84), 3) := by decide +kernel
theorem dX0_placeOnList_111 : decode cX0_placeOnList 111 = .ok (.aload_n 0, 1) := by decide +kernel
theorem dX0_placeOnList_112 : decode cX0_placeOnList 112 = .ok (.getfield 22, 3) := by decide +kernel
theorem dX0_placeOnList_115 : decode cX0_placeOnList 115 = .ok (.iload_n 1, 1) := by decide +kernel
theorem dX0_placeOnList_116 : decode cX0_placeOnList 116 = .ok (.iconst 1, 1) := by decide +kernel
theorem dX0_placeOnList_117 : decode cX0_placeOnList 117 = .ok (.iload_n 2, 1) := by decide +kernel
theorem dX0_placeOnList_118 : decode cX0_placeOnList 118 = .ok (.iadd, 1) := by decide +kernel
theorem dX0_placeOnList_119 : decode cX0_placeOnList 119 = .ok (.iastore, 1) := by decide +kernel
theorem dX0_placeOnList_120 : decode cX0_placeOnList 120 = .ok (.iload_n 2, 1) := by decide +kernel
theorem dX0_placeOnList_121 : decode cX0_placeOnList 121 = .ok (.iload_n 3, 1) := by decide +kernel
theorem dX0_placeOnList_122 : decode cX0_placeOnList 122 = .ok (.iadd, 1) := by decide +kernel
theorem dX0_placeOnList_123 : decode cX0_placeOnList 123 = .ok (.istore 4, 2) := by decide +kernel
theorem dX0_placeOnList_125 : decode cX0_placeOnList 125 = .ok (.iload 4, 2) := by decide +kernel
theorem dX0_placeOnList_127 : decode cX0_placeOnList 127 = .ok (.bipush 24, 2) := by decide +kernel
theorem dX0_placeOnList_129 : decode cX0_placeOnList 129 = .ok (.if_icmp .ge 11, 3) := by decide +kernel
theorem dX0_placeOnList_132 : decode cX0_placeOnList 132 = .ok (.aload_n 0, 1) := by decide +kernel
theorem dX0_placeOnList_133 : decode cX0_placeOnList 133 = .ok (.getfield 25, 3) := by decide +kernel
theorem dX0_placeOnList_136 : decode cX0_placeOnList 136 = .ok (.iload 4, 2) := by decide +kernel
theorem dX0_placeOnList_138 : decode cX0_placeOnList 138 = .ok (.iload_n 1, 1) := by decide +kernel
theorem dX0_placeOnList_139 : decode cX0_placeOnList 139 = .ok (.iastore, 1) := by decide +kernel
theorem dX0_placeOnList_140 : decode cX0_placeOnList 140 = .ok (.return_, 1) := by decide +kernel
theorem dX0_isBetter_0 : decode cX0_isBetter 0 = .ok (.aload_n 0, 1) := by decide +kernel
theorem dX0_isBetter_1 : decode cX0_isBetter 1 = .ok (.getfield 15, 3) := by decide +kernel
theorem dX0_isBetter_4 : decode cX0_isBetter 4 = .ok (.iload_n 1, 1) := by decide +kernel
theorem dX0_isBetter_5 : decode cX0_isBetter 5 = .ok (.baload, 1) := by decide +kernel
theorem dX0_isBetter_6 : decode cX0_isBetter 6 = .ok (.aload_n 0, 1) := by decide +kernel
theorem dX0_isBetter_7 : decode cX0_isBetter 7 = .ok (.getfield 15, 3) := by decide +kernel
theorem dX0_isBetter_10 : decode cX0_isBetter 10 = .ok (.iload_n 2, 1) := by decide +kernel
theorem dX0_isBetter_11 : decode cX0_isBetter 11 = .ok (.baload, 1) := by decide +kernel
theorem dX0_isBetter_12 : decode cX0_isBetter 12 = .ok (.if_icmp .ne 26, 3) := by decide +kernel
theorem dX0_isBetter_15 : decode cX0_isBetter 15 = .ok (.aload_n 0, 1) := by decide +kernel
theorem dX0_isBetter_16 : decode cX0_isBetter 16 = .ok (.getfield 19, 3) := by decide +kernel
theorem dX0_isBetter_19 : decode cX0_isBetter 19 = .ok (.iload_n 1, 1) := by decide +kernel
theorem dX0_isBetter_20 : decode cX0_isBetter 20 = .ok (.iaload, 1) := by decide +kernel
theorem dX0_isBetter_21 : decode cX0_isBetter 21 = .ok (.aload_n 0, 1) := by decide +kernel
theorem dX0_isBetter_22 : decode cX0_isBetter 22 = .ok (.getfield 19, 3) := by decide +kernel
theorem dX0_isBetter_25 : decode cX0_isBetter 25 = .ok (.iload_n 2, 1) := by decide +kernel
theorem dX0_isBetter_26 : decode cX0_isBetter 26 = .ok (.iaload, 1) := by decide +kernel
theorem dX0_isBetter_27 : decode cX0_isBetter 27 = .ok (.if_icmp .le 7, 3) := by decide +kernel
theorem dX0_isBetter_30 : decode cX0_isBetter 30 = .ok (.iconst 1, 1) := by decide +kernel
theorem dX0_isBetter_31 : decode cX0_isBetter 31 = .ok (.goto 13, 3) := by decide +kernel
theorem dX0_isBetter_34 : decode cX0_isBetter 34 = .ok (.iconst 0, 1) := by decide +kernel
theorem dX0_isBetter_35 : decode cX0_isBetter 35 = .ok (.goto 9, 3) := by decide +kernel
theorem dX0_isBetter_38 : decode cX0_isBetter 38 = .ok (.aload_n 0, 1) := by decide +kernel
theorem dX0_isBetter_39 : decode cX0_isBetter 39 = .ok (.getfield 15, 3) := by decide +kernel
theorem dX0_isBetter_42 : decode cX0_isBetter 42 = .ok (.iload_n 1, 1) := by decide +kernel
theorem dX0_isBetter_43 : decode cX0_isBetter 43 = .ok (.baload, 1) := by decide +kernel
theorem dX0_isBetter_44 : decode cX0_isBetter 44 = .ok (.ireturn, 1) := by decide +kernel
set_option maxRecDepth 20000 in
theorem ggX0_isListed_X0_placeOf : GoodIn wsX0_isListed wsX0_placeOf := goodIn_r _ [5, 6, 7, 8, 9, 10, 11, 12, 13] (by decide +kernel) (by decide +kernel)
set_option maxRecDepth 20000 in
theorem gX0_isListed_X0_placeOf : GoodIn wsX0_isListed (wsV RX0 70 RX0 yX0_placeOf wsX0_placeOf) := goodIn_app (goodIn_of _ (by decide +kernel)) ggX0_isListed_X0_placeOf
theorem dX0_isListed_0 : decode cX0_isListed 0 = .ok (.aload_n 0, 1) := by decide +kernel
theorem dX0_isListed_1 : decode cX0_isListed 1 = .ok (.iload_n 1, 1) := by decide +kernel
theorem dX0_isListed_2 : decode cX0_isListed 2 = .ok (.invokevirtual 70, 3) := by decide +kernel
theorem dX0_isListed_5 : decode cX0_isListed 5 = .ok (.ifCond .le 7, 3) := by decide +kernel
theorem dX0_isListed_8 : decode cX0_isListed 8 = .ok (.iconst 1, 1) := by decide +kernel
theorem dX0_isListed_9 : decode cX0_isListed 9 = .ok (.goto 4, 3) := by decide +kernel
theorem dX0_isListed_12 : decode cX0_isListed 12 = .ok (.iconst 0, 1) := by decide +kernel
theorem dX0_isListed_13 : decode cX0_isListed 13 = .ok (.ireturn, 1) := by decide +kernel
theorem dX0_isThrough_0 : decode cX0_isThrough 0 = .ok (.iload_n 1, 1) := by decide +kernel
theorem dX0_isThrough_1 : decode cX0_isThrough 1 = .ok (.ifCond .lt 22, 3) := by decide +kernel
theorem dX0_isThrough_4 : decode cX0_isThrough 4 = .ok (.iload_n 1, 1) := by decide +kernel
theorem dX0_isThrough_5 : decode cX0_isThrough 5 = .ok (.bipush 24, 2) := by decide +kernel
theorem dX0_isThrough_7 : decode cX0_isThrough 7 = .ok (.if_icmp .ge 16, 3) := by decide +kernel
theorem dX0_isThrough_10 : decode cX0_isThrough 10 = .ok (.aload_n 0, 1) := by decide +kernel
theorem dX0_isThrough_11 : decode cX0_isThrough 11 = .ok (.getfield 15, 3) := by decide +kernel
theorem dX0_isThrough_14 : decode cX0_isThrough 14 = .ok (.iload_n 1, 1) := by decide +kernel
theorem dX0_isThrough_15 : decode cX0_isThrough 15 = .ok (.baload, 1) := by decide +kernel
theorem dX0_isThrough_16 : decode cX0_isThrough 16 = .ok (.ifCond .eq 7, 3) := by decide +kernel
theorem dX0_isThrough_19 : decode cX0_isThrough 19 = .ok (.iconst 1, 1) := by decide +kernel
theorem dX0_isThrough_20 : decode cX0_isThrough 20 = .ok (.goto 4, 3) := by decide +kernel
theorem dX0_isThrough_23 : decode cX0_isThrough 23 = .ok (.iconst 0, 1) := by decide +kernel
theorem dX0_isThrough_24 : decode cX0_isThrough 24 = .ok (.ireturn, 1) := by decide +kernel
theorem dX0_totalOf_0 : decode cX0_totalOf 0 = .ok (.iload_n 1, 1) := by decide +kernel
theorem dX0_totalOf_1 : decode cX0_totalOf 1 = .ok (.ifCond .lt 18, 3) := by decide +kernel
theorem dX0_totalOf_4 : decode cX0_totalOf 4 = .ok (.iload_n 1, 1) := by decide +kernel
theorem dX0_totalOf_5 : decode cX0_totalOf 5 = .ok (.bipush 24, 2) := by decide +kernel
theorem dX0_totalOf_7 : decode cX0_totalOf 7 = .ok (.if_icmp .ge 12, 3) := by decide +kernel
theorem dX0_totalOf_10 : decode cX0_totalOf 10 = .ok (.aload_n 0, 1) := by decide +kernel
theorem dX0_totalOf_11 : decode cX0_totalOf 11 = .ok (.getfield 19, 3) := by decide +kernel
theorem dX0_totalOf_14 : decode cX0_totalOf 14 = .ok (.iload_n 1, 1) := by decide +kernel
theorem dX0_totalOf_15 : decode cX0_totalOf 15 = .ok (.iaload, 1) := by decide +kernel
theorem dX0_totalOf_16 : decode cX0_totalOf 16 = .ok (.goto 4, 3) := by decide +kernel
theorem dX0_totalOf_19 : decode cX0_totalOf 19 = .ok (.iconst 0, 1) := by decide +kernel
theorem dX0_totalOf_20 : decode cX0_totalOf 20 = .ok (.ireturn, 1) := by decide +kernel
theorem dX0_placeOf_0 : decode cX0_placeOf 0 = .ok (.iload_n 1, 1) := by decide +kernel
theorem dX0_placeOf_1 : decode cX0_placeOf 1 = .ok (.ifCond .lt 18, 3) := by decide +kernel
theorem dX0_placeOf_4 : decode cX0_placeOf 4 = .ok (.iload_n 1, 1) := by decide +kernel
theorem dX0_placeOf_5 : decode cX0_placeOf 5 = .ok (.bipush 24, 2) := by decide +kernel
theorem dX0_placeOf_7 : decode cX0_placeOf 7 = .ok (.if_icmp .ge 12, 3) := by decide +kernel
theorem dX0_placeOf_10 : decode cX0_placeOf 10 = .ok (.aload_n 0, 1) := by decide +kernel
theorem dX0_placeOf_11 : decode cX0_placeOf 11 = .ok (.getfield 22, 3) := by decide +kernel
theorem dX0_placeOf_14 : decode cX0_placeOf 14 = .ok (.iload_n 1, 1) := by decide +kernel
theorem dX0_placeOf_15 : decode cX0_placeOf 15 = .ok (.iaload, 1) := by decide +kernel
theorem dX0_placeOf_16 : decode cX0_placeOf 16 = .ok (.goto 4, 3) := by decide +kernel
theorem dX0_placeOf_19 : decode cX0_placeOf 19 = .ok (.iconst 0, 1) := by decide +kernel
theorem dX0_placeOf_20 : decode cX0_placeOf 20 = .ok (.ireturn, 1) := by decide +kernel
theorem dX0_isPosition_0 : decode cX0_isPosition 0 = .ok (.iload_n 1, 1) := by decide +kernel
theorem dX0_isPosition_1 : decode cX0_isPosition 1 = .ok (.ifCond .lt 15, 3) := by decide +kernel
theorem dX0_isPosition_4 : decode cX0_isPosition 4 = .ok (.iload_n 1, 1) := by decide +kernel
theorem dX0_isPosition_5 : decode cX0_isPosition 5 = .ok (.aload_n 0, 1) := by decide +kernel
theorem dX0_isPosition_6 : decode cX0_isPosition 6 = .ok (.getfield 34, 3) := by decide +kernel
theorem dX0_isPosition_9 : decode cX0_isPosition 9 = .ok (.if_icmp .ge 7, 3) := by decide +kernel
theorem dX0_isPosition_12 : decode cX0_isPosition 12 = .ok (.iconst 1, 1) := by decide +kernel
theorem dX0_isPosition_13 : decode cX0_isPosition 13 = .ok (.goto 4, 3) := by decide +kernel
theorem dX0_isPosition_16 : decode cX0_isPosition 16 = .ok (.iconst 0, 1) := by decide +kernel
theorem dX0_isPosition_17 : decode cX0_isPosition 17 = .ok (.ireturn, 1) := by decide +kernel
theorem dX0_jumperAt_0 : decode cX0_jumperAt 0 = .ok (.iload_n 1, 1) := by decide +kernel
theorem dX0_jumperAt_1 : decode cX0_jumperAt 1 = .ok (.ifCond .lt 18, 3) := by decide +kernel
theorem dX0_jumperAt_4 : decode cX0_jumperAt 4 = .ok (.iload_n 1, 1) := by decide +kernel
theorem dX0_jumperAt_5 : decode cX0_jumperAt 5 = .ok (.bipush 24, 2) := by decide +kernel
theorem dX0_jumperAt_7 : decode cX0_jumperAt 7 = .ok (.if_icmp .ge 12, 3) := by decide +kernel
theorem dX0_jumperAt_10 : decode cX0_jumperAt 10 = .ok (.aload_n 0, 1) := by decide +kernel
theorem dX0_jumperAt_11 : decode cX0_jumperAt 11 = .ok (.getfield 25, 3) := by decide +kernel
theorem dX0_jumperAt_14 : decode cX0_jumperAt 14 = .ok (.iload_n 1, 1) := by decide +kernel
theorem dX0_jumperAt_15 : decode cX0_jumperAt 15 = .ok (.iaload, 1) := by decide +kernel
theorem dX0_jumperAt_16 : decode cX0_jumperAt 16 = .ok (.goto 6, 3) := by decide +kernel
theorem dX0_jumperAt_19 : decode cX0_jumperAt 19 = .ok (.sipush (-10000), 3) := by decide +kernel
theorem dX0_jumperAt_22 : decode cX0_jumperAt 22 = .ok (.ireturn, 1) := by decide +kernel
set_option maxRecDepth 20000 in
theorem ggX0_starterAt_X0_startersBefore : GoodIn wsX0_starterAt wsX0_startersBefore := goodIn_r _ [6, 1, 7, 8, 9, 10, 11, 12, 13, 14] (by decide +kernel) (by decide +kernel)
set_option maxRecDepth 20000 in
theorem gX0_starterAt_X0_startersBefore : GoodIn wsX0_starterAt (wsV RX0 73 RX0 yX0_startersBefore wsX0_startersBefore) := goodIn_app (goodIn_of _ (by decide +kernel)) ggX0_starterAt_X0_startersBefore
theorem dX0_starterAt_0 : decode cX0_starterAt 0 = .ok (.iconst 0, 1) := by decide +kernel
theorem dX0_starterAt_1 : decode cX0_starterAt 1 = .ok (.istore_n 2, 1) := by decide +kernel
theorem dX0_starterAt_2 : decode cX0_starterAt 2 = .ok (.iload_n 2, 1) := by decide +kernel
theorem dX0_starterAt_3 : decode cX0_starterAt 3 = .ok (.bipush 24, 2) := by decide +kernel
theorem dX0_starterAt_5 : decode cX0_starterAt 5 = .ok (.if_icmp .ge 29, 3) := by decide +kernel
theorem dX0_starterAt_8 : decode cX0_starterAt 8 = .ok (.aload_n 0, 1) := by decide +kernel
theorem dX0_starterAt_9 : decode cX0_starterAt 9 = .ok (.getfield 15, 3) := by decide +kernel
theorem dX0_starterAt_12 : decode cX0_starterAt 12 = .ok (.iload_n 2, 1) := by decide +kernel
theorem dX0_starterAt_13 : decode cX0_starterAt 13 = .ok (.baload, 1) := by decide +kernel
theorem dX0_starterAt_14 : decode cX0_starterAt 14 = .ok (.ifCond .eq 14, 3) := by decide +kernel
theorem dX0_starterAt_17 : decode cX0_starterAt 17 = .ok (.aload_n 0, 1) := by decide +kernel
theorem dX0_starterAt_18 : decode cX0_starterAt 18 = .ok (.iload_n 2, 1) := by decide +kernel
theorem dX0_starterAt_19 : decode cX0_starterAt 19 = .ok (.invokevirtual 73, 3) := by decide +kernel
theorem dX0_starterAt_22 : decode cX0_starterAt 22 = .ok (.iload_n 1, 1) := by decide +kernel
theorem dX0_starterAt_23 : decode cX0_starterAt 23 = .ok (.if_icmp .ne 5, 3) := by decide +kernel
theorem dX0_starterAt_26 : decode cX0_starterAt 26 = .ok (.iload_n 2, 1) := by decide +kernel
theorem dX0_starterAt_27 : decode cX0_starterAt 27 = .ok (.ireturn, 1) := by decide +kernel
theorem dX0_starterAt_28 : decode cX0_starterAt 28 = .ok (.iinc 2 1, 3) := by decide +kernel
theorem dX0_starterAt_31 : decode cX0_starterAt 31 = .ok (.goto (-29), 3) := by decide +kernel
theorem dX0_starterAt_34 : decode cX0_starterAt 34 = .ok (.sipush (-10000), 3) := by decide +kernel
theorem dX0_starterAt_37 : decode cX0_starterAt 37 = .ok (.ireturn, 1) := by decide +kernel
theorem dX0_startersBefore_0 : decode cX0_startersBefore 0 = .ok (.iconst 0, 1) := by decide +kernel
theorem dX0_startersBefore_1 : decode cX0_startersBefore 1 = .ok (.istore_n 2, 1) := by decide +kernel
theorem dX0_startersBefore_2 : decode cX0_startersBefore 2 = .ok (.iconst 0, 1) := by decide +kernel
theorem dX0_startersBefore_3 : decode cX0_startersBefore 3 = .ok (.istore_n 3, 1) := by decide +kernel
theorem dX0_startersBefore_4 : decode cX0_startersBefore 4 = .ok (.iload_n 3, 1) := by decide +kernel
theorem dX0_startersBefore_5 : decode cX0_startersBefore 5 = .ok (.bipush 24, 2) := by decide +kernel
theorem dX0_startersBefore_7 : decode cX0_startersBefore 7 = .ok (.if_icmp .ge 73, 3) := by decide +kernel
theorem dX0_startersBefore_10 : decode cX0_startersBefore 10 = .ok (.aload_n 0, 1) := by decide +kernel
theorem dX0_startersBefore_11 : decode cX0_startersBefore 11 = .ok (.getfield 15, 3) := by decide +kernel
theorem dX0_startersBefore_14 : decode cX0_startersBefore 14 = .ok (.iload_n 3, 1) := by decide +kernel
theorem dX0_startersBefore_15 : decode cX0_startersBefore 15 = .ok (.baload, 1) := by decide +kernel
theorem dX0_startersBefore_16 : decode cX0_startersBefore 16 = .ok (.ifCond .eq 42, 3) := by decide +kernel
theorem dX0_startersBefore_19 : decode cX0_startersBefore 19 = .ok (.aload_n 0, 1) := by decide +kernel
theorem dX0_startersBefore_20 : decode cX0_startersBefore 20 = .ok (.getfield 9, 3) := by decide +kernel
theorem dX0_startersBefore_23 : decode cX0_startersBefore 23 = .ok (.iload_n 3, 1) := by decide +kernel
theorem dX0_startersBefore_24 : decode cX0_startersBefore 24 = .ok (.iaload, 1) := by decide +kernel
theorem dX0_startersBefore_25 : decode cX0_startersBefore 25 = .ok (.aload_n 0, 1) := by decide +kernel
theorem dX0_startersBefore_26 : decode cX0_startersBefore 26 = .ok (.getfield 9, 3) := by decide +kernel
theorem dX0_startersBefore_29 : decode cX0_startersBefore 29 = .ok (.iload_n 1, 1) := by decide +kernel
theorem dX0_startersBefore_30 : decode cX0_startersBefore 30 = .ok (.iaload, 1) := by decide +kernel
theorem dX0_startersBefore_31 : decode cX0_startersBefore 31 = .ok (.if_icmp .lt 23, 3) := by decide +kernel
theorem dX0_startersBefore_34 : decode cX0_startersBefore 34 = .ok (.aload_n 0, 1) := by decide +kernel
theorem dX0_startersBefore_35 : decode cX0_startersBefore 35 = .ok (.getfield 9, 3) := by decide +kernel
theorem dX0_startersBefore_38 : decode cX0_startersBefore 38 = .ok (.iload_n 3, 1) := by decide +kernel
theorem dX0_startersBefore_39 : decode cX0_startersBefore 39 = .ok (.iaload, 1) := by decide +kernel
theorem dX0_startersBefore_40 : decode cX0_startersBefore 40 = .ok (.aload_n 0, 1) := by decide +kernel
theorem dX0_startersBefore_41 : decode cX0_startersBefore 41 = .ok (.getfield 9, 3) := by decide +kernel
theorem dX0_startersBefore_44 : decode cX0_startersBefore 44 = .ok (.iload_n 1, 1) := by decide +kernel
theorem dX0_startersBefore_45 : decode cX0_startersBefore 45 = .ok (.iaload, 1) := by decide +kernel
theorem dX0_startersBefore_46 : decode cX0_startersBefore 46 = .ok (.if_icmp .ne 12, 3) := by decide +kernel
theorem dX0_startersBefore_49 : decode cX0_startersBefore 49 = .ok (.iload_n 3, 1) := by decide +kernel
theorem dX0_startersBefore_50 : decode cX0_startersBefore 50 = .ok (.iload_n 1, 1) := by decide +kernel
theorem dX0_startersBefore_51 : decode cX0_startersBefore 51 = .ok (.if_icmp .le 7, 3) := by decide +kernel
theorem dX0_startersBefore_54 : decode cX0_startersBefore 54 = .ok (.iconst 1, 1) := by decide +kernel
theorem dX0_startersBefore_55 : decode cX0_startersBefore 55 = .ok (.goto 4, 3) := by decide +kernel
theorem dX0_startersBefore_58 : decode cX0_startersBefore 58 = .ok (.iconst 0, 1) := by decide +kernel
theorem dX0_startersBefore_59 : decode cX0_startersBefore 59 = .ok (.istore 4, 2) := by decide +kernel
theorem dX0_startersBefore_61 : decode cX0_startersBefore 61 = .ok (.iload_n 2, 1) := by decide +kernel
theorem dX0_startersBefore_62 : decode cX0_startersBefore 62 = .ok (.iload 4, 2) := by decide +kernel
theorem dX0_startersBefore_64 : decode cX0_startersBefore 64 = .ok (.ifCond .eq 7, 3) := by decide +kernel
theorem dX0_startersBefore_67 : decode cX0_startersBefore 67 = .ok (.iconst 1, 1) := by decide +kernel
theorem dX0_startersBefore_68 : decode cX0_startersBefore 68 = .ok (.goto 4, 3) := by decide +kernel
theorem dX0_startersBefore_71 : decode cX0_startersBefore 71 = .ok (.iconst 0, 1) := by decide +kernel
theorem dX0_startersBefore_72 : decode cX0_startersBefore 72 = .ok (.iadd, 1) := by decide +kernel
theorem dX0_startersBefore_73 : decode cX0_startersBefore 73 = .ok (.istore_n 2, 1) := by decide +kernel
theorem dX0_startersBefore_74 : decode cX0_startersBefore 74 = .ok (.iinc 3 1, 3) := by decide +kernel
theorem dX0_startersBefore_77 : decode cX0_startersBefore 77 = .ok (.goto (-73), 3) := by decide +kernel
theorem dX0_startersBefore_80 : decode cX0_startersBefore 80 = .ok (.iload_n 2, 1) := by decide +kernel
theorem dX0_startersBefore_81 : decode cX0_startersBefore 81 = .ok (.ireturn, 1) := by decide +kernel
theorem dX1_init_0 : decode cX1_init 0 = .ok (.aload_n 0, 1) := by decide +kernel
theorem dX1_init_1 : decode cX1_init 1 = .ok (.invokespecial 3, 3) := by decide +kernel
theorem dX1_init_4 : decode cX1_init 4 = .ok (.aload_n 0, 1) := by decide +kernel
theorem dX1_init_5 : decode cX1_init 5 = .ok (.sipush 200, 3) := by decide +kernel
theorem dX1_init_8 : decode cX1_init 8 = .ok (.newarray .int, 2) := by decide +kernel
theorem dX1_init_10 : decode cX1_init 10 = .ok (.putfield 9, 3) := by decide +kernel
theorem dX1_init_13 : decode cX1_init 13 = .ok (.aload_n 0, 1) := by decide +kernel
theorem dX1_init_14 : decode cX1_init 14 = .ok (.sipush 200, 3) := by decide +kernel
theorem dX1_init_17 : decode cX1_init 17 = .ok (.newarray .int, 2) := by decide +kernel
theorem dX1_init_19 : decode cX1_init 19 = .ok (.putfield 15, 3) := by decide +kernel
theorem dX1_init_22 : decode cX1_init 22 = .ok (.aload_n 0, 1) := by decide +kernel
theorem dX1_init_23 : decode cX1_init 23 = .ok (.sipush 1000, 3) := by decide +kernel
theorem dX1_init_26 : decode cX1_init 26 = .ok (.newarray .int, 2) := by decide +kernel
theorem dX1_init_28 : decode cX1_init 28 = .ok (.putfield 18, 3) := by decide +kernel
theorem dX1_init_31 : decode cX1_init 31 = .ok (.return_, 1) := by decide +kernel
theorem dX1_add_0 : decode cX1_add 0 = .ok (.aload_n 0, 1) := by decide +kernel
theorem dX1_add_1 : decode cX1_add 1 = .ok (.getfield 21, 3) := by decide +kernel
theorem dX1_add_4 : decode cX1_add 4 = .ok (.ifCond .lt 13, 3) := by decide +kernel
theorem dX1_add_7 : decode cX1_add 7 = .ok (.aload_n 0, 1) := by decide +kernel
theorem dX1_add_8 : decode cX1_add 8 = .ok (.getfield 21, 3) := by decide +kernel
theorem dX1_add_11 : decode cX1_add 11 = .ok (.sipush 200, 3) := by decide +kernel
theorem dX1_add_14 : decode cX1_add 14 = .ok (.if_icmp .lt 7, 3) := by decide +kernel
theorem dX1_add_17 : decode cX1_add 17 = .ok (.sipush (-10000), 3) := by decide +kernel
theorem dX1_add_20 : decode cX1_add 20 = .ok (.ireturn, 1) := by decide +kernel
theorem dX1_add_21 : decode cX1_add 21 = .ok (.aload_n 0, 1) := by decide +kernel
theorem dX1_add_22 : decode cX1_add 22 = .ok (.getfield 21, 3) := by decide +kernel
theorem dX1_add_25 : decode cX1_add 25 = .ok (.istore 8, 2) := by decide +kernel
theorem dX1_add_27 : decode cX1_add 27 = .ok (.iload 8, 2) := by decide +kernel
theorem dX1_add_29 : decode cX1_add 29 = .ok (.iconst 5, 1) := by decide +kernel
theorem dX1_add_30 : decode cX1_add 30 = .ok (.imul, 1) := by decide +kernel
theorem dX1_add_31 : decode cX1_add 31 = .ok (.istore 9, 2) := by decide +kernel
theorem dX1_add_33 : decode cX1_add 33 = .ok (.aload_n 0, 1) := by decide +kernel
theorem dX1_add_34 : decode cX1_add 34 = .ok (.getfield 9, 3) := by decide +kernel
theorem dX1_add_37 : decode cX1_add 37 = .ok (.iload 8, 2) := by decide +kernel
theorem dX1_add_39 : decode cX1_add 39 = .ok (.iload_n 1, 1) := by decide +kernel
theorem dX1_add_40 : decode cX1_add 40 = .ok (.iastore, 1) := by decide +kernel
theorem dX1_add_41 : decode cX1_add 41 = .ok (.aload_n 0, 1) := by decide +kernel
theorem dX1_add_42 : decode cX1_add 42 = .ok (.getfield 15, 3) := by decide +kernel
theorem dX1_add_45 : decode cX1_add 45 = .ok (.iload 8, 2) := by decide +kernel
theorem dX1_add_47 : decode cX1_add 47 = .ok (.iload_n 2, 1) := by decide +kernel
theorem dX1_add_48 : decode cX1_add 48 = .ok (.iastore, 1) := by decide +kernel
theorem dX1_add_49 : decode cX1_add 49 = .ok (.aload_n 0, 1) := by decide +kernel
theorem dX1_add_50 : decode cX1_add 50 = .ok (.getfield 18, 3) := by decide +kernel
theorem dX1_add_53 : decode cX1_add 53 = .ok (.iload 9, 2) := by decide +kernel
theorem dX1_add_55 : decode cX1_add 55 = .ok (.iload_n 3, 1) := by decide +kernel
theorem dX1_add_56 : decode cX1_add 56 = .ok (.iastore, 1) := by decide +kernel
theorem dX1_add_57 : decode cX1_add 57 = .ok (.aload_n 0, 1) := by decide +kernel
theorem dX1_add_58 : decode cX1_add 58 = .ok (.getfield 18, 3) := by decide +kernel
theorem dX1_add_61 : decode cX1_add 61 = .ok (.iload 9, 2) := by decide +kernel
theorem dX1_add_63 : decode cX1_add 63 = .ok (.iconst 1, 1) := by decide +kernel
theorem dX1_add_64 : decode cX1_add 64 = .ok (.iadd, 1) := by decide +kernel
theorem dX1_add_65 : decode cX1_add 65 = .ok (.iload 4, 2) := by decide +kernel
theorem dX1_add_67 : decode cX1_add 67 = .ok (.iastore, 1) := by decide +kernel
theorem dX1_add_68 : decode cX1_add 68 = .ok (.aload_n 0, 1) := by decide +kernel
theorem dX1_add_69 : decode cX1_add 69 = .ok (.getfield 18, 3) := by decide +kernel
theorem dX1_add_72 : decode cX1_add 72 = .ok (.iload 9, 2) := by decide +kernel
theorem dX1_add_74 : decode cX1_add 74 = .ok (.iconst 2, 1) := by decide +kernel
theorem dX1_add_75 : decode cX1_add 75 = .ok (.iadd, 1) := by decide +kernel
theorem dX1_add_76 : decode cX1_add 76 = .ok (.iload 5, 2) := by decide +kernel
theorem dX1_add_78 : decode cX1_add 78 = .ok (.iastore, 1) := by decide +kernel
theorem dX1_add_79 : decode cX1_add 79 = .ok (.aload_n 0, 1) := by decide +kernel
theorem dX1_add_80 : decode cX1_add 80 = .ok (.getfield 18, 3) := by decide +kernel
theorem dX1_add_83 : decode cX1_add 83 = .ok (.iload 9, 2) := by decide +kernel
theorem dX1_add_85 : decode cX1_add 85 = .ok (.iconst 3, 1) := by decide +kernel
theorem dX1_add_86 : decode cX1_add 86 = .ok (.iadd, 1) := by decide +kernel
theorem dX1_add_87 : decode cX1_add 87 = .ok (.iload 6, 2) := by decide +kernel
theorem dX1_add_89 : decode cX1_add 89 = .ok (.iastore, 1) := by decide +kernel
theorem dX1_add_90 : decode cX1_add 90 = .ok (.aload_n 0, 1) := by decide +kernel
theorem dX1_add_91 : decode cX1_add 91 = .ok (.getfield 18, 3) := by decide +kernel
theorem dX1_add_94 : decode cX1_add 94 = .ok (.iload 9, 2) := by decide +kernel
theorem dX1_add_96 : decode cX1_add 96 = .ok (.iconst 4, 1) := by decide +kernel
theorem dX1_add_97 : decode cX1_add 97 = .ok (.iadd, 1) := by decide +kernel
theorem dX1_add_98 : decode cX1_add 98 = .ok (.iload 7, 2) := by decide +kernel
theorem dX1_add_100 : decode cX1_add 100 = .ok (.iastore, 1) := by decide +kernel
theorem dX1_add_101 : decode cX1_add 101 = .ok (.aload_n 0, 1) := by decide +kernel
theorem dX1_add_102 : decode cX1_add 102 = .ok (.iload 8, 2) := by decide +kernel
theorem dX1_add_104 : decode cX1_add 104 = .ok (.iconst 1, 1) := by decide +kernel
theorem dX1_add_105 : decode cX1_add 105 = .ok (.iadd, 1) := by decide +kernel
theorem dX1_add_106 : decode cX1_add 106 = .ok (.putfield 21, 3) := by decide +kernel
theorem dX1_add_109 : decode cX1_add 109 = .ok (.iload 8, 2) := by decide +kernel
theorem dX1_add_111 : decode cX1_add 111 = .ok (.ireturn, 1) := by decide +kernel
theorem dX1_value_0 : decode cX1_value 0 = .ok (.iload_n 1, 1) := by decide +kernel
theorem dX1_value_1 : decode cX1_value 1 = .ok (.iconst 5, 1) := by decide +kernel
theorem dX1_value_2 : decode cX1_value 2 = .ok (.imul, 1) := by decide +kernel
theorem dX1_value_3 : decode cX1_value 3 = .ok (.iload_n 2, 1) := by decide +kernel
theorem dX1_value_4 : decode cX1_value 4 = .ok (.iadd, 1) := by decide +kernel
theorem dX1_value_5 : decode cX1_value 5 = .ok (.istore_n 3, 1) := by decide +kernel
theorem dX1_value_6 : decode cX1_value 6 = .ok (.iload_n 3, 1) := by decide +kernel
theorem dX1_value_7 : decode cX1_value 7 = .ok (.ifCond .lt 21, 3) := by decide +kernel
theorem dX1_value_10 : decode cX1_value 10 = .ok (.iload_n 3, 1) := by decide +kernel
theorem dX1_value_11 : decode cX1_value 11 = .ok (.aload_n 0, 1) := by decide +kernel
theorem dX1_value_12 : decode cX1_value 12 = .ok (.getfield 18, 3) := by decide +kernel
theorem dX1_value_15 : decode cX1_value 15 = .ok (.arraylength, 1) := by decide +kernel
theorem dX1_value_16 : decode cX1_value 16 = .ok (.if_icmp .ge 12, 3) := by decide +kernel
theorem dX1_value_19 : decode cX1_value 19 = .ok (.aload_n 0, 1) := by decide +kernel
theorem dX1_value_20 : decode cX1_value 20 = .ok (.getfield 18, 3) := by decide +kernel
theorem dX1_value_23 : decode cX1_value 23 = .ok (.iload_n 3, 1) := by decide +kernel
theorem dX1_value_24 : decode cX1_value 24 = .ok (.iaload, 1) := by decide +kernel
theorem dX1_value_25 : decode cX1_value 25 = .ok (.goto 4, 3) := by decide +kernel
theorem dX1_value_28 : decode cX1_value 28 = .ok (.iconst 0, 1) := by decide +kernel
theorem dX1_value_29 : decode cX1_value 29 = .ok (.ireturn, 1) := by decide +kernel
theorem dX2_init_0 : decode cX2_init 0 = .ok (.aload_n 0, 1) := by decide +kernel
theorem dX2_init_1 : decode cX2_init 1 = .ok (.invokespecial 3, 3) := by decide +kernel
theorem dX2_init_4 : decode cX2_init 4 = .ok (.aload_n 0, 1) := by decide +kernel
theorem dX2_init_5 : decode cX2_init 5 = .ok (.bipush 7, 2) := by decide +kernel
theorem dX2_init_7 : decode cX2_init 7 = .ok (.newarray .int, 2) := by decide +kernel
theorem dX2_init_9 : decode cX2_init 9 = .ok (.putfield 11, 3) := by decide +kernel
theorem dX2_init_12 : decode cX2_init 12 = .ok (.aload_n 0, 1) := by decide +kernel
theorem dX2_init_13 : decode cX2_init 13 = .ok (.bipush 7, 2) := by decide +kernel
theorem dX2_init_15 : decode cX2_init 15 = .ok (.newarray .int, 2) := by decide +kernel
theorem dX2_init_17 : decode cX2_init 17 = .ok (.putfield 15, 3) := by decide +kernel
theorem dX2_init_20 : decode cX2_init 20 = .ok (.getstatic 18, 3) := by decide +kernel
theorem dX2_init_23 : decode cX2_init 23 = .ok (.iconst 0, 1) := by decide +kernel
theorem dX2_init_24 : decode cX2_init 24 = .ok (.aload_n 0, 1) := by decide +kernel
theorem dX2_init_25 : decode cX2_init 25 = .ok (.getfield 11, 3) := by decide +kernel
theorem dX2_init_28 : decode cX2_init 28 = .ok (.iconst 0, 1) := by decide +kernel
theorem dX2_init_29 : decode cX2_init 29 = .ok (.bipush 7, 2) := by decide +kernel
theorem dX2_init_31 : decode cX2_init 31 = .ok (.invokestatic 21, 3) := by decide +kernel
theorem dX2_init_34 : decode cX2_init 34 = .ok (.return_, 1) := by decide +kernel
theorem dX2_isLetter_0 : decode cX2_isLetter 0 = .ok (.iload_n 0, 1) := by decide +kernel
theorem dX2_isLetter_1 : decode cX2_isLetter 1 = .ok (.ifCond .lt 13, 3) := by decide +kernel
theorem dX2_isLetter_4 : decode cX2_isLetter 4 = .ok (.iload_n 0, 1) := by decide +kernel
theorem dX2_isLetter_5 : decode cX2_isLetter 5 = .ok (.bipush 7, 2) := by decide +kernel
theorem dX2_isLetter_7 : decode cX2_isLetter 7 = .ok (.if_icmp .ge 7, 3) := by decide +kernel
theorem dX2_isLetter_10 : decode cX2_isLetter 10 = .ok (.iconst 1, 1) := by decide +kernel
theorem dX2_isLetter_11 : decode cX2_isLetter 11 = .ok (.goto 4, 3) := by decide +kernel
theorem dX2_isLetter_14 : decode cX2_isLetter 14 = .ok (.iconst 0, 1) := by decide +kernel
theorem dX2_isLetter_15 : decode cX2_isLetter 15 = .ok (.ireturn, 1) := by decide +kernel
set_option maxRecDepth 20000 in
theorem ggX2_number_X2_isLetter : GoodIn wsX2_number wsX2_isLetter := goodIn_r _ [5] (by decide +kernel) (by decide +kernel)
set_option maxRecDepth 20000 in
theorem gX2_number_X2_isLetter : GoodIn wsX2_number (va_wsS RX2 27 yX2_isLetter wsX2_isLetter) := goodIn_app (goodIn_of _ (by decide +kernel)) ggX2_number_X2_isLetter
theorem dX2_number_0 : decode cX2_number 0 = .ok (.iload_n 1, 1) := by decide +kernel
theorem dX2_number_1 : decode cX2_number 1 = .ok (.invokestatic 27, 3) := by decide +kernel
theorem dX2_number_4 : decode cX2_number 4 = .ok (.ifCond .eq 12, 3) := by decide +kernel
theorem dX2_number_7 : decode cX2_number 7 = .ok (.aload_n 0, 1) := by decide +kernel
theorem dX2_number_8 : decode cX2_number 8 = .ok (.getfield 11, 3) := by decide +kernel
theorem dX2_number_11 : decode cX2_number 11 = .ok (.iload_n 1, 1) := by decide +kernel
theorem dX2_number_12 : decode cX2_number 12 = .ok (.iaload, 1) := by decide +kernel
theorem dX2_number_13 : decode cX2_number 13 = .ok (.goto 4, 3) := by decide +kernel
theorem dX2_number_16 : decode cX2_number 16 = .ok (.iconst 0, 1) := by decide +kernel
theorem dX2_number_17 : decode cX2_number 17 = .ok (.ireturn, 1) := by decide +kernel
set_option maxRecDepth 20000 in
theorem ggX2_read_X2_isLetter : GoodIn wsX2_read wsX2_isLetter := goodIn_r _ [11] (by decide +kernel) (by decide +kernel)
set_option maxRecDepth 20000 in
theorem gX2_read_X2_isLetter : GoodIn wsX2_read (va_wsS RX2 27 yX2_isLetter wsX2_isLetter) := goodIn_app (goodIn_of _ (by decide +kernel)) ggX2_read_X2_isLetter
set_option maxRecDepth 20000 in
theorem ggX2_read_X2_letterOf : GoodIn wsX2_read wsX2_letterOf := goodIn_r _ [14, 15] (by decide +kernel) (by decide +kernel)
set_option maxRecDepth 20000 in
theorem gX2_read_X2_letterOf : GoodIn wsX2_read (va_wsS RX2 31 yX2_letterOf wsX2_letterOf) := goodIn_app (goodIn_of _ (by decide +kernel)) ggX2_read_X2_letterOf
set_option maxRecDepth 20000 in
theorem ggX2_read_X2_faultOfClause : GoodIn wsX2_read wsX2_faultOfClause := goodIn_r _ [18, 19, 20, 10, 21, 22, 23, 8, 9, 11] (by decide +kernel) (by decide +kernel)
set_option maxRecDepth 20000 in
theorem gX2_read_X2_faultOfClause : GoodIn wsX2_read (va_wsS RX2 35 yX2_faultOfClause wsX2_faultOfClause) := goodIn_app (goodIn_of _ (by decide +kernel)) ggX2_read_X2_faultOfClause
theorem dX2_read_0 : decode cX2_read 0 = .ok (.getstatic 18, 3) := by decide +kernel
theorem dX2_read_3 : decode cX2_read 3 = .ok (.iconst 0, 1) := by decide +kernel
theorem dX2_read_4 : decode cX2_read 4 = .ok (.aload_n 0, 1) := by decide +kernel
theorem dX2_read_5 : decode cX2_read 5 = .ok (.getfield 15, 3) := by decide +kernel
theorem dX2_read_8 : decode cX2_read 8 = .ok (.iconst 0, 1) := by decide +kernel
theorem dX2_read_9 : decode cX2_read 9 = .ok (.bipush 7, 2) := by decide +kernel
theorem dX2_read_11 : decode cX2_read 11 = .ok (.invokestatic 21, 3) := by decide +kernel
theorem dX2_read_14 : decode cX2_read 14 = .ok (.iconst (-1), 1) := by decide +kernel
theorem dX2_read_15 : decode cX2_read 15 = .ok (.istore_n 3, 1) := by decide +kernel
theorem dX2_read_16 : decode cX2_read 16 = .ok (.iconst 0, 1) := by decide +kernel
theorem dX2_read_17 : decode cX2_read 17 = .ok (.istore 4, 2) := by decide +kernel
theorem dX2_read_19 : decode cX2_read 19 = .ok (.iconst 0, 1) := by decide +kernel
theorem dX2_read_20 : decode cX2_read 20 = .ok (.istore 5, 2) := by decide +kernel
theorem dX2_read_22 : decode cX2_read 22 = .ok (.iconst 0, 1) := by decide +kernel
theorem dX2_read_23 : decode cX2_read 23 = .ok (.istore 6, 2) := by decide +kernel
theorem dX2_read_25 : decode cX2_read 25 = .ok (.iload 6, 2) := by decide +kernel
theorem dX2_read_27 : decode cX2_read 27 = .ok (.iload_n 2, 1) := by decide +kernel
theorem dX2_read_28 : decode cX2_read 28 = .ok (.if_icmp .gt 145, 3) := by decide +kernel
theorem dX2_read_31 : decode cX2_read 31 = .ok (.iload 6, 2) := by decide +kernel
theorem dX2_read_33 : decode cX2_read 33 = .ok (.iload_n 2, 1) := by decide +kernel
theorem dX2_read_34 : decode cX2_read 34 = .ok (.if_icmp .ge 17, 3) := by decide +kernel
theorem dX2_read_37 : decode cX2_read 37 = .ok (.iload 6, 2) := by decide +kernel
theorem dX2_read_39 : decode cX2_read 39 = .ok (.aload_n 1, 1) := by decide +kernel
theorem dX2_read_40 : decode cX2_read 40 = .ok (.arraylength, 1) := by decide +kernel
theorem dX2_read_41 : decode cX2_read 41 = .ok (.if_icmp .ge 10, 3) := by decide +kernel
theorem dX2_read_44 : decode cX2_read 44 = .ok (.aload_n 1, 1) := by decide +kernel
theorem dX2_read_45 : decode cX2_read 45 = .ok (.iload 6, 2) := by decide +kernel
theorem dX2_read_47 : decode cX2_read 47 = .ok (.iaload, 1) := by decide +kernel
theorem dX2_read_48 : decode cX2_read 48 = .ok (.goto 4, 3) := by decide +kernel
theorem dX2_read_51 : decode cX2_read 51 = .ok (.iconst (-1), 1) := by decide +kernel
theorem dX2_read_52 : decode cX2_read 52 = .ok (.istore 7, 2) := by decide +kernel
theorem dX2_read_54 : decode cX2_read 54 = .ok (.iload_n 3, 1) := by decide +kernel
theorem dX2_read_55 : decode cX2_read 55 = .ok (.invokestatic 27, 3) := by decide +kernel
theorem dX2_read_58 : decode cX2_read 58 = .ok (.ifCond .ne 31, 3) := by decide +kernel
theorem dX2_read_61 : decode cX2_read 61 = .ok (.iload 7, 2) := by decide +kernel
theorem dX2_read_63 : decode cX2_read 63 = .ok (.invokestatic 31, 3) := by decide +kernel
theorem dX2_read_66 : decode cX2_read 66 = .ok (.istore_n 3, 1) := by decide +kernel
theorem dX2_read_67 : decode cX2_read 67 = .ok (.iload_n 3, 1) := by decide +kernel
theorem dX2_read_68 : decode cX2_read 68 = .ok (.invokestatic 27, 3) := by decide +kernel
theorem dX2_read_71 : decode cX2_read 71 = .ok (.ifCond .ne 9, 3) := by decide +kernel
theorem dX2_read_74 : decode cX2_read 74 = .ok (.bipush 100, 2) := by decide +kernel
theorem dX2_read_76 : decode cX2_read 76 = .ok (.iload 6, 2) := by decide +kernel
theorem dX2_read_78 : decode cX2_read 78 = .ok (.iadd, 1) := by decide +kernel
theorem dX2_read_79 : decode cX2_read 79 = .ok (.ireturn, 1) := by decide +kernel
theorem dX2_read_80 : decode cX2_read 80 = .ok (.iconst 0, 1) := by decide +kernel
theorem dX2_read_81 : decode cX2_read 81 = .ok (.istore 4, 2) := by decide +kernel
theorem dX2_read_83 : decode cX2_read 83 = .ok (.iconst 0, 1) := by decide +kernel
theorem dX2_read_84 : decode cX2_read 84 = .ok (.istore 5, 2) := by decide +kernel
theorem dX2_read_86 : decode cX2_read 86 = .ok (.goto 81, 3) := by decide +kernel
theorem dX2_read_89 : decode cX2_read 89 = .ok (.iload 7, 2) := by decide +kernel
theorem dX2_read_91 : decode cX2_read 91 = .ok (.bipush 48, 2) := by decide +kernel
theorem dX2_read_93 : decode cX2_read 93 = .ok (.if_icmp .lt 42, 3) := by decide +kernel
theorem dX2_read_96 : decode cX2_read 96 = .ok (.iload 7, 2) := by decide +kernel
theorem dX2_read_98 : decode cX2_read 98 = .ok (.bipush 57, 2) := by decide +kernel
theorem dX2_read_100 : decode cX2_read 100 = .ok (.if_icmp .gt 35, 3) := by decide +kernel
theorem dX2_read_103 : decode cX2_read 103 = .ok (.iload 4, 2) := by decide +kernel
theorem dX2_read_105 : decode cX2_read 105 = .ok (.iconst 4, 1) := by decide +kernel
theorem dX2_read_106 : decode cX2_read 106 = .ok (.if_icmp .ne 10, 3) := by decide +kernel
theorem dX2_read_109 : decode cX2_read 109 = .ok (.sipush 300, 3) := by decide +kernel
theorem dX2_read_112 : decode cX2_read 112 = .ok (.iload 6, 2) := by decide +kernel
theorem dX2_read_114 : decode cX2_read 114 = .ok (.iadd, 1) := by decide +kernel
theorem dX2_read_115 : decode cX2_read 115 = .ok (.ireturn, 1) := by decide +kernel
theorem dX2_read_116 : decode cX2_read 116 = .ok (.iload 5, 2) := by decide +kernel
theorem dX2_read_118 : decode cX2_read 118 = .ok (.bipush 10, 2) := by decide +kernel
theorem dX2_read_120 : decode cX2_read 120 = .ok (.imul, 1) := by decide +kernel
theorem dX2_read_121 : decode cX2_read 121 = .ok (.iload 7, 2) := by decide +kernel
theorem dX2_read_123 : decode cX2_read 123 = .ok (.iadd, 1) := by decide +kernel
theorem dX2_read_124 : decode cX2_read 124 = .ok (.bipush 48, 2) := by decide +kernel
theorem dX2_read_126 : decode cX2_read 126 = .ok (.isub, 1) := by decide +kernel
theorem dX2_read_127 : decode cX2_read 127 = .ok (.istore 5, 2) := by decide +kernel
theorem dX2_read_129 : decode cX2_read 129 = .ok (.iinc 4 1, 3) := by decide +kernel
theorem dX2_read_132 : decode cX2_read 132 = .ok (.goto 35, 3) := by decide +kernel
theorem dX2_read_135 : decode cX2_read 135 = .ok (.iload_n 3, 1) := by decide +kernel
theorem dX2_read_136 : decode cX2_read 136 = .ok (.iload 5, 2) := by decide +kernel
theorem dX2_read_138 : decode cX2_read 138 = .ok (.iload 4, 2) := by decide +kernel
theorem dX2_read_140 : decode cX2_read 140 = .ok (.iload 7, 2) := by decide +kernel
theorem dX2_read_142 : decode cX2_read 142 = .ok (.iload 6, 2) := by decide +kernel
theorem dX2_read_144 : decode cX2_read 144 = .ok (.invokestatic 35, 3) := by decide +kernel
theorem dX2_read_147 : decode cX2_read 147 = .ok (.istore 8, 2) := by decide +kernel
theorem dX2_read_149 : decode cX2_read 149 = .ok (.iload 8, 2) := by decide +kernel
theorem dX2_read_151 : decode cX2_read 151 = .ok (.ifCond .eq 6, 3) := by decide +kernel
theorem dX2_read_154 : decode cX2_read 154 = .ok (.iload 8, 2) := by decide +kernel
theorem dX2_read_156 : decode cX2_read 156 = .ok (.ireturn, 1) := by decide +kernel
theorem dX2_read_157 : decode cX2_read 157 = .ok (.aload_n 0, 1) := by decide +kernel
theorem dX2_read_158 : decode cX2_read 158 = .ok (.getfield 15, 3) := by decide +kernel
theorem dX2_read_161 : decode cX2_read 161 = .ok (.iload_n 3, 1) := by decide +kernel
theorem dX2_read_162 : decode cX2_read 162 = .ok (.iload 5, 2) := by decide +kernel
theorem dX2_read_164 : decode cX2_read 164 = .ok (.iastore, 1) := by decide +kernel
theorem dX2_read_165 : decode cX2_read 165 = .ok (.iconst (-1), 1) := by decide +kernel
theorem dX2_read_166 : decode cX2_read 166 = .ok (.istore_n 3, 1) := by decide +kernel
theorem dX2_read_167 : decode cX2_read 167 = .ok (.iinc 6 1, 3) := by decide +kernel
theorem dX2_read_170 : decode cX2_read 170 = .ok (.goto (-145), 3) := by decide +kernel
theorem dX2_read_173 : decode cX2_read 173 = .ok (.aload_n 0, 1) := by decide +kernel
theorem dX2_read_174 : decode cX2_read 174 = .ok (.getfield 15, 3) := by decide +kernel
theorem dX2_read_177 : decode cX2_read 177 = .ok (.iconst 0, 1) := by decide +kernel
theorem dX2_read_178 : decode cX2_read 178 = .ok (.aload_n 0, 1) := by decide +kernel
theorem dX2_read_179 : decode cX2_read 179 = .ok (.getfield 11, 3) := by decide +kernel
theorem dX2_read_182 : decode cX2_read 182 = .ok (.iconst 0, 1) := by decide +kernel
theorem dX2_read_183 : decode cX2_read 183 = .ok (.bipush 7, 2) := by decide +kernel
theorem dX2_read_185 : decode cX2_read 185 = .ok (.invokestatic 21, 3) := by decide +kernel
theorem dX2_read_188 : decode cX2_read 188 = .ok (.iconst 0, 1) := by decide +kernel
theorem dX2_read_189 : decode cX2_read 189 = .ok (.ireturn, 1) := by decide +kernel
set_option maxRecDepth 20000 in
theorem ggX2_faultOfClause_X2_canBe : GoodIn wsX2_faultOfClause wsX2_canBe := goodIn_r _ [4, 5, 6, 7, 8, 3, 9] (by decide +kernel) (by decide +kernel)
set_option maxRecDepth 20000 in
theorem gX2_faultOfClause_X2_canBe : GoodIn wsX2_faultOfClause (va_wsS RX2 39 yX2_canBe wsX2_canBe) := goodIn_app (goodIn_of _ (by decide +kernel)) ggX2_faultOfClause_X2_canBe
theorem dX2_faultOfClause_0 : decode cX2_faultOfClause 0 = .ok (.iload_n 2, 1) := by decide +kernel
theorem dX2_faultOfClause_1 : decode cX2_faultOfClause 1 = .ok (.ifCond .ne 10, 3) := by decide +kernel
theorem dX2_faultOfClause_4 : decode cX2_faultOfClause 4 = .ok (.sipush 200, 3) := by decide +kernel
theorem dX2_faultOfClause_7 : decode cX2_faultOfClause 7 = .ok (.iload 4, 2) := by decide +kernel
theorem dX2_faultOfClause_9 : decode cX2_faultOfClause 9 = .ok (.iadd, 1) := by decide +kernel
theorem dX2_faultOfClause_10 : decode cX2_faultOfClause 10 = .ok (.ireturn, 1) := by decide +kernel
theorem dX2_faultOfClause_11 : decode cX2_faultOfClause 11 = .ok (.iload_n 0, 1) := by decide +kernel
theorem dX2_faultOfClause_12 : decode cX2_faultOfClause 12 = .ok (.iload_n 1, 1) := by decide +kernel
theorem dX2_faultOfClause_13 : decode cX2_faultOfClause 13 = .ok (.invokestatic 39, 3) := by decide +kernel
theorem dX2_faultOfClause_16 : decode cX2_faultOfClause 16 = .ok (.ifCond .ne 12, 3) := by decide +kernel
theorem dX2_faultOfClause_19 : decode cX2_faultOfClause 19 = .ok (.sipush 400, 3) := by decide +kernel
theorem dX2_faultOfClause_22 : decode cX2_faultOfClause 22 = .ok (.iload 4, 2) := by decide +kernel
theorem dX2_faultOfClause_24 : decode cX2_faultOfClause 24 = .ok (.iadd, 1) := by decide +kernel
theorem dX2_faultOfClause_25 : decode cX2_faultOfClause 25 = .ok (.iload_n 2, 1) := by decide +kernel
theorem dX2_faultOfClause_26 : decode cX2_faultOfClause 26 = .ok (.isub, 1) := by decide +kernel
theorem dX2_faultOfClause_27 : decode cX2_faultOfClause 27 = .ok (.ireturn, 1) := by decide +kernel
theorem dX2_faultOfClause_28 : decode cX2_faultOfClause 28 = .ok (.iload_n 3, 1) := by decide +kernel
theorem dX2_faultOfClause_29 : decode cX2_faultOfClause 29 = .ok (.bipush 59, 2) := by decide +kernel
theorem dX2_faultOfClause_31 : decode cX2_faultOfClause 31 = .ok (.if_icmp .eq 8, 3) := by decide +kernel
theorem dX2_faultOfClause_34 : decode cX2_faultOfClause 34 = .ok (.iload_n 3, 1) := by decide +kernel
theorem dX2_faultOfClause_35 : decode cX2_faultOfClause 35 = .ok (.iconst (-1), 1) := by decide +kernel
theorem dX2_faultOfClause_36 : decode cX2_faultOfClause 36 = .ok (.if_icmp .ne 7, 3) := by decide +kernel
theorem dX2_faultOfClause_39 : decode cX2_faultOfClause 39 = .ok (.iconst 0, 1) := by decide +kernel
theorem dX2_faultOfClause_40 : decode cX2_faultOfClause 40 = .ok (.goto 9, 3) := by decide +kernel
theorem dX2_faultOfClause_43 : decode cX2_faultOfClause 43 = .ok (.sipush 500, 3) := by decide +kernel
theorem dX2_faultOfClause_46 : decode cX2_faultOfClause 46 = .ok (.iload 4, 2) := by decide +kernel
theorem dX2_faultOfClause_48 : decode cX2_faultOfClause 48 = .ok (.iadd, 1) := by decide +kernel
theorem dX2_faultOfClause_49 : decode cX2_faultOfClause 49 = .ok (.ireturn, 1) := by decide +kernel
set_option maxRecDepth 20000 in
theorem ggX2_canBe_X2_isLetter : GoodIn wsX2_canBe wsX2_isLetter := goodIn_r _ [6] (by decide +kernel) (by decide +kernel)
set_option maxRecDepth 20000 in
theorem gX2_canBe_X2_isLetter : GoodIn wsX2_canBe (va_wsS RX2 27 yX2_isLetter wsX2_isLetter) := goodIn_app (goodIn_of _ (by decide +kernel)) ggX2_canBe_X2_isLetter
theorem dX2_canBe_0 : decode cX2_canBe 0 = .ok (.iload_n 0, 1) := by decide +kernel
theorem dX2_canBe_1 : decode cX2_canBe 1 = .ok (.invokestatic 27, 3) := by decide +kernel
theorem dX2_canBe_4 : decode cX2_canBe 4 = .ok (.ifCond .eq 25, 3) := by decide +kernel
theorem dX2_canBe_7 : decode cX2_canBe 7 = .ok (.iload_n 1, 1) := by decide +kernel
theorem dX2_canBe_8 : decode cX2_canBe 8 = .ok (.getstatic 43, 3) := by decide +kernel
theorem dX2_canBe_11 : decode cX2_canBe 11 = .ok (.iload_n 0, 1) := by decide +kernel
theorem dX2_canBe_12 : decode cX2_canBe 12 = .ok (.iaload, 1) := by decide +kernel
theorem dX2_canBe_13 : decode cX2_canBe 13 = .ok (.if_icmp .lt 16, 3) := by decide +kernel
theorem dX2_canBe_16 : decode cX2_canBe 16 = .ok (.iload_n 1, 1) := by decide +kernel
theorem dX2_canBe_17 : decode cX2_canBe 17 = .ok (.getstatic 46, 3) := by decide +kernel
theorem dX2_canBe_20 : decode cX2_canBe 20 = .ok (.iload_n 0, 1) := by decide +kernel
theorem dX2_canBe_21 : decode cX2_canBe 21 = .ok (.iaload, 1) := by decide +kernel
theorem dX2_canBe_22 : decode cX2_canBe 22 = .ok (.if_icmp .gt 7, 3) := by decide +kernel
theorem dX2_canBe_25 : decode cX2_canBe 25 = .ok (.iconst 1, 1) := by decide +kernel
theorem dX2_canBe_26 : decode cX2_canBe 26 = .ok (.goto 4, 3) := by decide +kernel
theorem dX2_canBe_29 : decode cX2_canBe 29 = .ok (.iconst 0, 1) := by decide +kernel
theorem dX2_canBe_30 : decode cX2_canBe 30 = .ok (.ireturn, 1) := by decide +kernel
theorem dX2_letterOf_0 : decode cX2_letterOf 0 = .ok (.iconst 0, 1) := by decide +kernel
theorem dX2_letterOf_1 : decode cX2_letterOf 1 = .ok (.istore_n 1, 1) := by decide +kernel
theorem dX2_letterOf_2 : decode cX2_letterOf 2 = .ok (.iload_n 1, 1) := by decide +kernel
theorem dX2_letterOf_3 : decode cX2_letterOf 3 = .ok (.bipush 7, 2) := by decide +kernel
theorem dX2_letterOf_5 : decode cX2_letterOf 5 = .ok (.if_icmp .ge 20, 3) := by decide +kernel
theorem dX2_letterOf_8 : decode cX2_letterOf 8 = .ok (.getstatic 49, 3) := by decide +kernel
theorem dX2_letterOf_11 : decode cX2_letterOf 11 = .ok (.iload_n 1, 1) := by decide +kernel
theorem dX2_letterOf_12 : decode cX2_letterOf 12 = .ok (.caload, 1) := by decide +kernel
theorem dX2_letterOf_13 : decode cX2_letterOf 13 = .ok (.iload_n 0, 1) := by decide +kernel
theorem dX2_letterOf_14 : decode cX2_letterOf 14 = .ok (.if_icmp .ne 5, 3) := by decide +kernel
theorem dX2_letterOf_17 : decode cX2_letterOf 17 = .ok (.iload_n 1, 1) := by decide +kernel
theorem dX2_letterOf_18 : decode cX2_letterOf 18 = .ok (.ireturn, 1) := by decide +kernel
theorem dX2_letterOf_19 : decode cX2_letterOf 19 = .ok (.iinc 1 1, 3) := by decide +kernel
theorem dX2_letterOf_22 : decode cX2_letterOf 22 = .ok (.goto (-20), 3) := by decide +kernel
theorem dX2_letterOf_25 : decode cX2_letterOf 25 = .ok (.iconst (-1), 1) := by decide +kernel
theorem dX2_letterOf_26 : decode cX2_letterOf 26 = .ok (.ireturn, 1) := by decide +kernel
set_option maxRecDepth 20000 in
theorem ggX3_init_X2_init : GoodIn wsX3_init wsX2_init := goodIn_r _ [17, 18, 2, 3, 12, 19, 20, 21, 22, 23, 24, 25, 32, 33] (by decide +kernel) (by decide +kernel)
set_option maxRecDepth 20000 in
theorem gX3_init_X2_init_n11 : GoodIn wsX3_init (wsX2_init) := ggX3_init_X2_init
set_option maxRecDepth 20000 in
theorem ggX3_init_X1_init : GoodIn wsX3_init wsX1_init := goodIn_r _ [27, 28, 2, 3, 12, 29, 30, 31, 44, 45, 46, 47] (by decide +kernel) (by decide +kernel)
set_option maxRecDepth 20000 in
theorem gX3_init_X1_init_n20 : GoodIn wsX3_init (wsX1_init) := ggX3_init_X1_init
theorem dX3_init_0 : decode cX3_init 0 = .ok (.aload_n 0, 1) := by decide +kernel
theorem dX3_init_1 : decode cX3_init 1 = .ok (.invokespecial 3, 3) := by decide +kernel
theorem dX3_init_4 : decode cX3_init 4 = .ok (.aload_n 0, 1) := by decide +kernel
theorem dX3_init_5 : decode cX3_init 5 = .ok (.new 9, 3) := by decide +kernel
theorem dX3_init_8 : decode cX3_init 8 = .ok (.dup, 1) := by decide +kernel
theorem dX3_init_9 : decode cX3_init 9 = .ok (.invokespecial 11, 3) := by decide +kernel
theorem dX3_init_12 : decode cX3_init 12 = .ok (.putfield 12, 3) := by decide +kernel
theorem dX3_init_15 : decode cX3_init 15 = .ok (.aload_n 0, 1) := by decide +kernel
theorem dX3_init_16 : decode cX3_init 16 = .ok (.new 18, 3) := by decide +kernel
theorem dX3_init_19 : decode cX3_init 19 = .ok (.dup, 1) := by decide +kernel
theorem dX3_init_20 : decode cX3_init 20 = .ok (.invokespecial 20, 3) := by decide +kernel
theorem dX3_init_23 : decode cX3_init 23 = .ok (.putfield 21, 3) := by decide +kernel
theorem dX3_init_26 : decode cX3_init 26 = .ok (.aload_n 0, 1) := by decide +kernel
theorem dX3_init_27 : decode cX3_init 27 = .ok (.iconst 5, 1) := by decide +kernel
theorem dX3_init_28 : decode cX3_init 28 = .ok (.newarray .int, 2) := by decide +kernel
theorem dX3_init_30 : decode cX3_init 30 = .ok (.dup, 1) := by decide +kernel
theorem dX3_init_31 : decode cX3_init 31 = .ok (.iconst 0, 1) := by decide +kernel
theorem dX3_init_32 : decode cX3_init 32 = .ok (.iconst 1, 1) := by decide +kernel
theorem dX3_init_33 : decode cX3_init 33 = .ok (.iastore, 1) := by decide +kernel
theorem dX3_init_34 : decode cX3_init 34 = .ok (.dup, 1) := by decide +kernel
theorem dX3_init_35 : decode cX3_init 35 = .ok (.iconst 1, 1) := by decide +kernel
theorem dX3_init_36 : decode cX3_init 36 = .ok (.iconst 1, 1) := by decide +kernel
theorem dX3_init_37 : decode cX3_init 37 = .ok (.iastore, 1) := by decide +kernel
theorem dX3_init_38 : decode cX3_init 38 = .ok (.dup, 1) := by decide +kernel
theorem dX3_init_39 : decode cX3_init 39 = .ok (.iconst 2, 1) := by decide +kernel
theorem dX3_init_40 : decode cX3_init 40 = .ok (.iconst 1, 1) := by decide +kernel
theorem dX3_init_41 : decode cX3_init 41 = .ok (.iastore, 1) := by decide +kernel
theorem dX3_init_42 : decode cX3_init 42 = .ok (.dup, 1) := by decide +kernel
theorem dX3_init_43 : decode cX3_init 43 = .ok (.iconst 3, 1) := by decide +kernel
theorem dX3_init_44 : decode cX3_init 44 = .ok (.iconst 1, 1) := by decide +kernel
theorem dX3_init_45 : decode cX3_init 45 = .ok (.iastore, 1) := by decide +kernel
theorem dX3_init_46 : decode cX3_init 46 = .ok (.dup, 1) := by decide +kernel
theorem dX3_init_47 : decode cX3_init 47 = .ok (.iconst 4, 1) := by decide +kernel
theorem dX3_init_48 : decode cX3_init 48 = .ok (.iconst 1, 1) := by decide +kernel
theorem dX3_init_49 : decode cX3_init 49 = .ok (.iastore, 1) := by decide +kernel
theorem dX3_init_50 : decode cX3_init 50 = .ok (.putfield 25, 3) := by decide +kernel
theorem dX3_init_53 : decode cX3_init 53 = .ok (.aload_n 0, 1) := by decide +kernel
theorem dX3_init_54 : decode cX3_init 54 = .ok (.bipush 20, 2) := by decide +kernel
theorem dX3_init_56 : decode cX3_init 56 = .ok (.putfield 29, 3) := by decide +kernel
theorem dX3_init_59 : decode cX3_init 59 = .ok (.aload_n 0, 1) := by decide +kernel
theorem dX3_init_60 : decode cX3_init 60 = .ok (.sipush 192, 3) := by decide +kernel
theorem dX3_init_63 : decode cX3_init 63 = .ok (.newarray .int, 2) := by decide +kernel
theorem dX3_init_65 : decode cX3_init 65 = .ok (.putfield 33, 3) := by decide +kernel
theorem dX3_init_68 : decode cX3_init 68 = .ok (.return_, 1) := by decide +kernel
set_option maxRecDepth 20000 in
theorem ggX3_know_J7_fill_53178 : GoodIn wsX3_know wsJ7_fill_53178 := goodIn_r _ [6] (by decide +kernel) (by decide +kernel)
set_option maxRecDepth 20000 in
theorem gX3_know_J7_fill_53178 : GoodIn wsX3_know (va_wsS RX3 36 yJ7_fill_53178 wsJ7_fill_53178) := goodIn_app (goodIn_of _ (by decide +kernel)) ggX3_know_J7_fill_53178
theorem dX3_know_0 : decode cX3_know 0 = .ok (.aload_n 0, 1) := by decide +kernel
theorem dX3_know_1 : decode cX3_know 1 = .ok (.getfield 33, 3) := by decide +kernel
theorem dX3_know_4 : decode cX3_know 4 = .ok (.iconst (-1), 1) := by decide +kernel
theorem dX3_know_5 : decode cX3_know 5 = .ok (.invokestatic 36, 3) := by decide +kernel
theorem dX3_know_8 : decode cX3_know 8 = .ok (.iconst 0, 1) := by decide +kernel
theorem dX3_know_9 : decode cX3_know 9 = .ok (.istore_n 2, 1) := by decide +kernel
theorem dX3_know_10 : decode cX3_know 10 = .ok (.iload_n 2, 1) := by decide +kernel
theorem dX3_know_11 : decode cX3_know 11 = .ok (.iload_n 1, 1) := by decide +kernel
theorem dX3_know_12 : decode cX3_know 12 = .ok (.if_icmp .ge 59, 3) := by decide +kernel
theorem dX3_know_15 : decode cX3_know 15 = .ok (.iload_n 2, 1) := by decide +kernel
theorem dX3_know_16 : decode cX3_know 16 = .ok (.sipush 200, 3) := by decide +kernel
theorem dX3_know_19 : decode cX3_know 19 = .ok (.if_icmp .ge 52, 3) := by decide +kernel
theorem dX3_know_22 : decode cX3_know 22 = .ok (.aload_n 0, 1) := by decide +kernel
theorem dX3_know_23 : decode cX3_know 23 = .ok (.getfield 21, 3) := by decide +kernel
theorem dX3_know_26 : decode cX3_know 26 = .ok (.getfield 42, 3) := by decide +kernel
theorem dX3_know_29 : decode cX3_know 29 = .ok (.iload_n 2, 1) := by decide +kernel
theorem dX3_know_30 : decode cX3_know 30 = .ok (.iaload, 1) := by decide +kernel
theorem dX3_know_31 : decode cX3_know 31 = .ok (.bipush 48, 2) := by decide +kernel
theorem dX3_know_33 : decode cX3_know 33 = .ok (.imul, 1) := by decide +kernel
theorem dX3_know_34 : decode cX3_know 34 = .ok (.aload_n 0, 1) := by decide +kernel
theorem dX3_know_35 : decode cX3_know 35 = .ok (.getfield 21, 3) := by decide +kernel
theorem dX3_know_38 : decode cX3_know 38 = .ok (.getfield 45, 3) := by decide +kernel
theorem dX3_know_41 : decode cX3_know 41 = .ok (.iload_n 2, 1) := by decide +kernel
theorem dX3_know_42 : decode cX3_know 42 = .ok (.iaload, 1) := by decide +kernel
theorem dX3_know_43 : decode cX3_know 43 = .ok (.iadd, 1) := by decide +kernel
theorem dX3_know_44 : decode cX3_know 44 = .ok (.istore_n 3, 1) := by decide +kernel
theorem dX3_know_45 : decode cX3_know 45 = .ok (.iload_n 3, 1) := by decide +kernel
theorem dX3_know_46 : decode cX3_know 46 = .ok (.ifCond .lt 19, 3) := by decide +kernel
theorem dX3_know_49 : decode cX3_know 49 = .ok (.iload_n 3, 1) := by decide +kernel
theorem dX3_know_50 : decode cX3_know 50 = .ok (.aload_n 0, 1) := by decide +kernel
theorem dX3_know_51 : decode cX3_know 51 = .ok (.getfield 33, 3) := by decide +kernel
theorem dX3_know_54 : decode cX3_know 54 = .ok (.arraylength, 1) := by decide +kernel
theorem dX3_know_55 : decode cX3_know 55 = .ok (.if_icmp .ge 10, 3) := by decide +kernel
theorem dX3_know_58 : decode cX3_know 58 = .ok (.aload_n 0, 1) := by decide +kernel
theorem dX3_know_59 : decode cX3_know 59 = .ok (.getfield 33, 3) := by decide +kernel
theorem dX3_know_62 : decode cX3_know 62 = .ok (.iload_n 3, 1) := by decide +kernel
theorem dX3_know_63 : decode cX3_know 63 = .ok (.iload_n 2, 1) := by decide +kernel
theorem dX3_know_64 : decode cX3_know 64 = .ok (.iastore, 1) := by decide +kernel
theorem dX3_know_65 : decode cX3_know 65 = .ok (.iinc 2 1, 3) := by decide +kernel
theorem dX3_know_68 : decode cX3_know 68 = .ok (.goto (-58), 3) := by decide +kernel
theorem dX3_know_71 : decode cX3_know 71 = .ok (.return_, 1) := by decide +kernel
theorem dX3_countingOf_0 : decode cX3_countingOf 0 = .ok (.iload_n 1, 1) := by decide +kernel
theorem dX3_countingOf_1 : decode cX3_countingOf 1 = .ok (.bipush 48, 2) := by decide +kernel
theorem dX3_countingOf_3 : decode cX3_countingOf 3 = .ok (.imul, 1) := by decide +kernel
theorem dX3_countingOf_4 : decode cX3_countingOf 4 = .ok (.iload_n 2, 1) := by decide +kernel
theorem dX3_countingOf_5 : decode cX3_countingOf 5 = .ok (.iadd, 1) := by decide +kernel
theorem dX3_countingOf_6 : decode cX3_countingOf 6 = .ok (.istore_n 3, 1) := by decide +kernel
theorem dX3_countingOf_7 : decode cX3_countingOf 7 = .ok (.iload_n 3, 1) := by decide +kernel
theorem dX3_countingOf_8 : decode cX3_countingOf 8 = .ok (.ifCond .lt 21, 3) := by decide +kernel
theorem dX3_countingOf_11 : decode cX3_countingOf 11 = .ok (.iload_n 3, 1) := by decide +kernel
theorem dX3_countingOf_12 : decode cX3_countingOf 12 = .ok (.aload_n 0, 1) := by decide +kernel
theorem dX3_countingOf_13 : decode cX3_countingOf 13 = .ok (.getfield 33, 3) := by decide +kernel
theorem dX3_countingOf_16 : decode cX3_countingOf 16 = .ok (.arraylength, 1) := by decide +kernel
theorem dX3_countingOf_17 : decode cX3_countingOf 17 = .ok (.if_icmp .ge 12, 3) := by decide +kernel
theorem dX3_countingOf_20 : decode cX3_countingOf 20 = .ok (.aload_n 0, 1) := by decide +kernel
theorem dX3_countingOf_21 : decode cX3_countingOf 21 = .ok (.getfield 33, 3) := by decide +kernel
theorem dX3_countingOf_24 : decode cX3_countingOf 24 = .ok (.iload_n 3, 1) := by decide +kernel
theorem dX3_countingOf_25 : decode cX3_countingOf 25 = .ok (.iaload, 1) := by decide +kernel
theorem dX3_countingOf_26 : decode cX3_countingOf 26 = .ok (.goto 4, 3) := by decide +kernel
theorem dX3_countingOf_29 : decode cX3_countingOf 29 = .ok (.iconst (-1), 1) := by decide +kernel
theorem dX3_countingOf_30 : decode cX3_countingOf 30 = .ok (.ireturn, 1) := by decide +kernel
set_option maxRecDepth 20000 in
theorem ggX3_isStruck_X3_countingOf : GoodIn wsX3_isStruck wsX3_countingOf := goodIn_r _ [6, 7, 13, 14, 15, 16, 17, 18, 19, 20, 21, 22] (by decide +kernel) (by decide +kernel)
set_option maxRecDepth 20000 in
theorem gX3_isStruck_X3_countingOf : GoodIn wsX3_isStruck (wsV RX3 48 RX3 yX3_countingOf wsX3_countingOf) := goodIn_app (goodIn_of _ (by decide +kernel)) ggX3_isStruck_X3_countingOf
set_option maxRecDepth 20000 in
theorem ggX3_isStruck_X1_value : GoodIn wsX3_isStruck wsX1_value := goodIn_r _ [11, 12, 23, 24, 25, 26] (by decide +kernel) (by decide +kernel)
set_option maxRecDepth 20000 in
theorem gX3_isStruck_X1_value_n52 : GoodIn wsX3_isStruck (wsX1_value) := ggX3_isStruck_X1_value
theorem dX3_isStruck_0 : decode cX3_isStruck 0 = .ok (.aload_n 0, 1) := by decide +kernel
theorem dX3_isStruck_1 : decode cX3_isStruck 1 = .ok (.iconst 3, 1) := by decide +kernel
theorem dX3_isStruck_2 : decode cX3_isStruck 2 = .ok (.iload_n 1, 1) := by decide +kernel
theorem dX3_isStruck_3 : decode cX3_isStruck 3 = .ok (.invokevirtual 48, 3) := by decide +kernel
theorem dX3_isStruck_6 : decode cX3_isStruck 6 = .ok (.istore_n 2, 1) := by decide +kernel
theorem dX3_isStruck_7 : decode cX3_isStruck 7 = .ok (.iload_n 2, 1) := by decide +kernel
theorem dX3_isStruck_8 : decode cX3_isStruck 8 = .ok (.ifCond .lt 20, 3) := by decide +kernel
theorem dX3_isStruck_11 : decode cX3_isStruck 11 = .ok (.aload_n 0, 1) := by decide +kernel
theorem dX3_isStruck_12 : decode cX3_isStruck 12 = .ok (.getfield 21, 3) := by decide +kernel
theorem dX3_isStruck_15 : decode cX3_isStruck 15 = .ok (.iload_n 2, 1) := by decide +kernel
theorem dX3_isStruck_16 : decode cX3_isStruck 16 = .ok (.iconst 0, 1) := by decide +kernel
theorem dX3_isStruck_17 : decode cX3_isStruck 17 = .ok (.invokevirtual 52, 3) := by decide +kernel
theorem dX3_isStruck_20 : decode cX3_isStruck 20 = .ok (.iconst 1, 1) := by decide +kernel
theorem dX3_isStruck_21 : decode cX3_isStruck 21 = .ok (.if_icmp .ne 7, 3) := by decide +kernel
theorem dX3_isStruck_24 : decode cX3_isStruck 24 = .ok (.iconst 1, 1) := by decide +kernel
theorem dX3_isStruck_25 : decode cX3_isStruck 25 = .ok (.goto 4, 3) := by decide +kernel
theorem dX3_isStruck_28 : decode cX3_isStruck 28 = .ok (.iconst 0, 1) := by decide +kernel
theorem dX3_isStruck_29 : decode cX3_isStruck 29 = .ok (.ireturn, 1) := by decide +kernel
set_option maxRecDepth 20000 in
theorem ggX3_hasPoints_X3_countingOf : GoodIn wsX3_hasPoints wsX3_countingOf := goodIn_r _ [5, 6, 17, 18, 19, 20, 21, 22, 23, 24, 25, 26] (by decide +kernel) (by decide +kernel)
set_option maxRecDepth 20000 in
theorem gX3_hasPoints_X3_countingOf : GoodIn wsX3_hasPoints (wsV RX3 48 RX3 yX3_countingOf wsX3_countingOf) := goodIn_app (goodIn_of _ (by decide +kernel)) ggX3_hasPoints_X3_countingOf
set_option maxRecDepth 20000 in
theorem ggX3_hasPoints_X3_isStruck : GoodIn wsX3_hasPoints wsX3_isStruck := goodIn_r _ [10, 11, 1, 2, 3, 4, 5, 6, 12, 13, 14, 15, 16, 17, 18, 19, 20, 21, 22, 23, 24, 25, 26, 27, 28, 29, 30] (by decide +kernel) (by decide +kernel)
set_option maxRecDepth 20000 in
theorem gX3_hasPoints_X3_isStruck : GoodIn wsX3_hasPoints (wsV RX3 55 RX3 yX3_isStruck wsX3_isStruck) := goodIn_app (goodIn_of _ (by decide +kernel)) ggX3_hasPoints_X3_isStruck
theorem dX3_hasPoints_0 : decode cX3_hasPoints 0 = .ok (.aload_n 0, 1) := by decide +kernel
theorem dX3_hasPoints_1 : decode cX3_hasPoints 1 = .ok (.iconst 0, 1) := by decide +kernel
theorem dX3_hasPoints_2 : decode cX3_hasPoints 2 = .ok (.iload_n 1, 1) := by decide +kernel
theorem dX3_hasPoints_3 : decode cX3_hasPoints 3 = .ok (.invokevirtual 48, 3) := by decide +kernel
theorem dX3_hasPoints_6 : decode cX3_hasPoints 6 = .ok (.ifCond .lt 15, 3) := by decide +kernel
theorem dX3_hasPoints_9 : decode cX3_hasPoints 9 = .ok (.aload_n 0, 1) := by decide +kernel
theorem dX3_hasPoints_10 : decode cX3_hasPoints 10 = .ok (.iload_n 1, 1) := by decide +kernel
theorem dX3_hasPoints_11 : decode cX3_hasPoints 11 = .ok (.invokevirtual 55, 3) := by decide +kernel
theorem dX3_hasPoints_14 : decode cX3_hasPoints 14 = .ok (.ifCond .ne 7, 3) := by decide +kernel
theorem dX3_hasPoints_17 : decode cX3_hasPoints 17 = .ok (.iconst 1, 1) := by decide +kernel
theorem dX3_hasPoints_18 : decode cX3_hasPoints 18 = .ok (.goto 4, 3) := by decide +kernel
theorem dX3_hasPoints_21 : decode cX3_hasPoints 21 = .ok (.iconst 0, 1) := by decide +kernel
theorem dX3_hasPoints_22 : decode cX3_hasPoints 22 = .ok (.ireturn, 1) := by decide +kernel
set_option maxRecDepth 20000 in
theorem ggX3_lengthOf_X3_countingOf : GoodIn wsX3_lengthOf wsX3_countingOf := goodIn_r _ [6, 7, 13, 14, 15, 16, 17, 18, 19, 20, 21, 22] (by decide +kernel) (by decide +kernel)
set_option maxRecDepth 20000 in
theorem gX3_lengthOf_X3_countingOf : GoodIn wsX3_lengthOf (wsV RX3 48 RX3 yX3_countingOf wsX3_countingOf) := goodIn_app (goodIn_of _ (by decide +kernel)) ggX3_lengthOf_X3_countingOf
set_option maxRecDepth 20000 in
theorem ggX3_lengthOf_X1_value : GoodIn wsX3_lengthOf wsX1_value := goodIn_r _ [11, 12, 23, 24, 25, 26] (by decide +kernel) (by decide +kernel)
set_option maxRecDepth 20000 in
theorem gX3_lengthOf_X1_value_n52 : GoodIn wsX3_lengthOf (wsX1_value) := ggX3_lengthOf_X1_value
theorem dX3_lengthOf_0 : decode cX3_lengthOf 0 = .ok (.aload_n 0, 1) := by decide +kernel
theorem dX3_lengthOf_1 : decode cX3_lengthOf 1 = .ok (.getfield 21, 3) := by decide +kernel
theorem dX3_lengthOf_4 : decode cX3_lengthOf 4 = .ok (.aload_n 0, 1) := by decide +kernel
theorem dX3_lengthOf_5 : decode cX3_lengthOf 5 = .ok (.iconst 0, 1) := by decide +kernel
theorem dX3_lengthOf_6 : decode cX3_lengthOf 6 = .ok (.iload_n 1, 1) := by decide +kernel
theorem dX3_lengthOf_7 : decode cX3_lengthOf 7 = .ok (.invokevirtual 48, 3) := by decide +kernel
theorem dX3_lengthOf_10 : decode cX3_lengthOf 10 = .ok (.iconst 0, 1) := by decide +kernel
theorem dX3_lengthOf_11 : decode cX3_lengthOf 11 = .ok (.invokevirtual 52, 3) := by decide +kernel
theorem dX3_lengthOf_14 : decode cX3_lengthOf 14 = .ok (.ireturn, 1) := by decide +kernel
set_option maxRecDepth 20000 in
theorem ggX3_measure_X3_countingOf : GoodIn wsX3_measure wsX3_countingOf := goodIn_r _ [12, 13, 62, 63, 64, 65, 66, 67, 68, 69, 70, 71] (by decide +kernel) (by decide +kernel)
set_option maxRecDepth 20000 in
theorem gX3_measure_X3_countingOf : GoodIn wsX3_measure (wsV RX3 48 RX3 yX3_countingOf wsX3_countingOf) := goodIn_app (goodIn_of _ (by decide +kernel)) ggX3_measure_X3_countingOf
set_option maxRecDepth 20000 in
theorem ggX3_measure_X3_meanOf : GoodIn wsX3_measure wsX3_meanOf := goodIn_r _ [17, 18, 3, 19, 20, 21, 22, 23, 24, 25, 11, 26, 27, 28, 29, 30, 62, 63, 64, 65, 66, 67, 68, 69, 70, 71, 72, 73, 74, 75] (by decide +kernel) (by decide +kernel)
set_option maxRecDepth 20000 in
theorem gX3_measure_X3_meanOf : GoodIn wsX3_measure (wsV RX3 59 RX3 yX3_meanOf wsX3_meanOf) := goodIn_app (goodIn_of _ (by decide +kernel)) ggX3_measure_X3_meanOf
set_option maxRecDepth 20000 in
theorem ggX3_measure_X3_hasPoints : GoodIn wsX3_measure wsX3_hasPoints := goodIn_r _ [34, 8, 9, 10, 11, 12, 13, 35, 36, 37, 38, 3, 19, 20, 21, 22, 23, 62, 63, 64, 65, 66, 67, 68, 69, 70, 71, 72, 73, 74, 75] (by decide +kernel) (by decide +kernel)
set_option maxRecDepth 20000 in
theorem gX3_measure_X3_hasPoints : GoodIn wsX3_measure (wsV RX3 66 RX3 yX3_hasPoints wsX3_hasPoints) := goodIn_app (goodIn_of _ (by decide +kernel)) ggX3_measure_X3_hasPoints
set_option maxRecDepth 20000 in
theorem ggX3_measure_X2_number : GoodIn wsX3_measure wsX2_number := goodIn_r _ [42, 43, 44, 45, 40, 46, 76, 77] (by decide +kernel) (by decide +kernel)
set_option maxRecDepth 20000 in
theorem gX3_measure_X2_number_n69 : GoodIn wsX3_measure (wsX2_number) := ggX3_measure_X2_number
set_option maxRecDepth 20000 in
theorem ggX3_measure_X1_value : GoodIn wsX3_measure wsX1_value := goodIn_r _ [22, 23, 72, 73, 74, 75] (by decide +kernel) (by decide +kernel)
set_option maxRecDepth 20000 in
theorem gX3_measure_X1_value_n52 : GoodIn wsX3_measure (wsX1_value) := ggX3_measure_X1_value
set_option maxRecDepth 20000 in
theorem ggX3_measure_X3_styleOf : GoodIn wsX3_measure wsX3_styleOf := goodIn_r _ [50, 3, 51, 52, 29, 53, 54, 55, 56, 19, 20, 21, 22, 23, 62, 63, 64, 65, 66, 67, 68, 69, 70, 71, 72, 73, 74, 75] (by decide +kernel) (by decide +kernel)
set_option maxRecDepth 20000 in
theorem gX3_measure_X3_styleOf : GoodIn wsX3_measure (wsV RX3 75 RX3 yX3_styleOf wsX3_styleOf) := goodIn_app (goodIn_of _ (by decide +kernel)) ggX3_measure_X3_styleOf
set_option maxRecDepth 20000 in
theorem ggX3_measure_X3_gateOf : GoodIn wsX3_measure wsX3_gateOf := goodIn_r _ [60, 3, 2, 61, 19, 20, 21, 22, 23, 39, 40, 41, 42, 43, 44, 45, 46, 62, 63, 64, 65, 66, 67, 68, 69, 70, 71, 72, 73, 74, 75, 76, 77] (by decide +kernel) (by decide +kernel)
set_option maxRecDepth 20000 in
theorem gX3_measure_X3_gateOf : GoodIn wsX3_measure (wsV RX3 81 RX3 yX3_gateOf wsX3_gateOf) := goodIn_app (goodIn_of _ (by decide +kernel)) ggX3_measure_X3_gateOf
set_option maxRecDepth 20000 in
theorem ggX3_measure_X3_rounded : GoodIn wsX3_measure wsX3_rounded := goodIn_r _ [26, 27, 28, 29, 30] (by decide +kernel) (by decide +kernel)
set_option maxRecDepth 20000 in
theorem gX3_measure_X3_rounded : GoodIn wsX3_measure (va_wsS RX3 87 yX3_rounded wsX3_rounded) := goodIn_app (goodIn_of _ (by decide +kernel)) ggX3_measure_X3_rounded
theorem dX3_measure_0 : decode cX3_measure 0 = .ok (.aload_n 0, 1) := by decide +kernel
theorem dX3_measure_1 : decode cX3_measure 1 = .ok (.aload_n 0, 1) := by decide +kernel
theorem dX3_measure_2 : decode cX3_measure 2 = .ok (.aload_n 0, 1) := by decide +kernel
theorem dX3_measure_3 : decode cX3_measure 3 = .ok (.iconst 1, 1) := by decide +kernel
theorem dX3_measure_4 : decode cX3_measure 4 = .ok (.iload_n 1, 1) := by decide +kernel
theorem dX3_measure_5 : decode cX3_measure 5 = .ok (.invokevirtual 48, 3) := by decide +kernel
theorem dX3_measure_8 : decode cX3_measure 8 = .ok (.invokevirtual 59, 3) := by decide +kernel
theorem dX3_measure_11 : decode cX3_measure 11 = .ok (.putfield 63, 3) := by decide +kernel
theorem dX3_measure_14 : decode cX3_measure 14 = .ok (.aload_n 0, 1) := by decide +kernel
theorem dX3_measure_15 : decode cX3_measure 15 = .ok (.iload_n 1, 1) := by decide +kernel
theorem dX3_measure_16 : decode cX3_measure 16 = .ok (.invokevirtual 66, 3) := by decide +kernel
theorem dX3_measure_19 : decode cX3_measure 19 = .ok (.ifCond .ne 5, 3) := by decide +kernel
theorem dX3_measure_22 : decode cX3_measure 22 = .ok (.iconst 0, 1) := by decide +kernel
theorem dX3_measure_23 : decode cX3_measure 23 = .ok (.ireturn, 1) := by decide +kernel
theorem dX3_measure_24 : decode cX3_measure 24 = .ok (.aload_n 0, 1) := by decide +kernel
theorem dX3_measure_25 : decode cX3_measure 25 = .ok (.iconst 0, 1) := by decide +kernel
theorem dX3_measure_26 : decode cX3_measure 26 = .ok (.iload_n 1, 1) := by decide +kernel
theorem dX3_measure_27 : decode cX3_measure 27 = .ok (.invokevirtual 48, 3) := by decide +kernel
theorem dX3_measure_30 : decode cX3_measure 30 = .ok (.istore_n 2, 1) := by decide +kernel
theorem dX3_measure_31 : decode cX3_measure 31 = .ok (.aload_n 0, 1) := by decide +kernel
theorem dX3_measure_32 : decode cX3_measure 32 = .ok (.sipush 1200, 3) := by decide +kernel
theorem dX3_measure_35 : decode cX3_measure 35 = .ok (.aload_n 0, 1) := by decide +kernel
theorem dX3_measure_36 : decode cX3_measure 36 = .ok (.getfield 12, 3) := by decide +kernel
theorem dX3_measure_39 : decode cX3_measure 39 = .ok (.iconst 1, 1) := by decide +kernel
theorem dX3_measure_40 : decode cX3_measure 40 = .ok (.invokevirtual 69, 3) := by decide +kernel
theorem dX3_measure_43 : decode cX3_measure 43 = .ok (.aload_n 0, 1) := by decide +kernel
theorem dX3_measure_44 : decode cX3_measure 44 = .ok (.getfield 21, 3) := by decide +kernel
theorem dX3_measure_47 : decode cX3_measure 47 = .ok (.iload_n 2, 1) := by decide +kernel
theorem dX3_measure_48 : decode cX3_measure 48 = .ok (.iconst 0, 1) := by decide +kernel
theorem dX3_measure_49 : decode cX3_measure 49 = .ok (.invokevirtual 52, 3) := by decide +kernel
theorem dX3_measure_52 : decode cX3_measure 52 = .ok (.aload_n 0, 1) := by decide +kernel
theorem dX3_measure_53 : decode cX3_measure 53 = .ok (.getfield 12, 3) := by decide +kernel
theorem dX3_measure_56 : decode cX3_measure 56 = .ok (.iconst 0, 1) := by decide +kernel
theorem dX3_measure_57 : decode cX3_measure 57 = .ok (.invokevirtual 69, 3) := by decide +kernel
theorem dX3_measure_60 : decode cX3_measure 60 = .ok (.isub, 1) := by decide +kernel
theorem dX3_measure_61 : decode cX3_measure 61 = .ok (.imul, 1) := by decide +kernel
theorem dX3_measure_62 : decode cX3_measure 62 = .ok (.iadd, 1) := by decide +kernel
theorem dX3_measure_63 : decode cX3_measure 63 = .ok (.putfield 72, 3) := by decide +kernel
theorem dX3_measure_66 : decode cX3_measure 66 = .ok (.aload_n 0, 1) := by decide +kernel
theorem dX3_measure_67 : decode cX3_measure 67 = .ok (.aload_n 0, 1) := by decide +kernel
theorem dX3_measure_68 : decode cX3_measure 68 = .ok (.aload_n 0, 1) := by decide +kernel
theorem dX3_measure_69 : decode cX3_measure 69 = .ok (.iconst 2, 1) := by decide +kernel
theorem dX3_measure_70 : decode cX3_measure 70 = .ok (.iload_n 1, 1) := by decide +kernel
theorem dX3_measure_71 : decode cX3_measure 71 = .ok (.invokevirtual 48, 3) := by decide +kernel
theorem dX3_measure_74 : decode cX3_measure 74 = .ok (.invokevirtual 75, 3) := by decide +kernel
theorem dX3_measure_77 : decode cX3_measure 77 = .ok (.putfield 78, 3) := by decide +kernel
theorem dX3_measure_80 : decode cX3_measure 80 = .ok (.aload_n 0, 1) := by decide +kernel
theorem dX3_measure_81 : decode cX3_measure 81 = .ok (.aload_n 0, 1) := by decide +kernel
theorem dX3_measure_82 : decode cX3_measure 82 = .ok (.iload_n 2, 1) := by decide +kernel
theorem dX3_measure_83 : decode cX3_measure 83 = .ok (.invokevirtual 81, 3) := by decide +kernel
theorem dX3_measure_86 : decode cX3_measure 86 = .ok (.putfield 84, 3) := by decide +kernel
theorem dX3_measure_89 : decode cX3_measure 89 = .ok (.aload_n 0, 1) := by decide +kernel
theorem dX3_measure_90 : decode cX3_measure 90 = .ok (.bipush (-2), 2) := by decide +kernel
theorem dX3_measure_92 : decode cX3_measure 92 = .ok (.aload_n 0, 1) := by decide +kernel
theorem dX3_measure_93 : decode cX3_measure 93 = .ok (.getfield 63, 3) := by decide +kernel
theorem dX3_measure_96 : decode cX3_measure 96 = .ok (.aload_n 0, 1) := by decide +kernel
theorem dX3_measure_97 : decode cX3_measure 97 = .ok (.getfield 12, 3) := by decide +kernel
theorem dX3_measure_100 : decode cX3_measure 100 = .ok (.iconst 2, 1) := by decide +kernel
theorem dX3_measure_101 : decode cX3_measure 101 = .ok (.invokevirtual 69, 3) := by decide +kernel
theorem dX3_measure_104 : decode cX3_measure 104 = .ok (.imul, 1) := by decide +kernel
theorem dX3_measure_105 : decode cX3_measure 105 = .ok (.bipush 100, 2) := by decide +kernel
theorem dX3_measure_107 : decode cX3_measure 107 = .ok (.invokestatic 87, 3) := by decide +kernel
theorem dX3_measure_110 : decode cX3_measure 110 = .ok (.imul, 1) := by decide +kernel
theorem dX3_measure_111 : decode cX3_measure 111 = .ok (.putfield 90, 3) := by decide +kernel
theorem dX3_measure_114 : decode cX3_measure 114 = .ok (.iconst 1, 1) := by decide +kernel
theorem dX3_measure_115 : decode cX3_measure 115 = .ok (.ireturn, 1) := by decide +kernel
theorem dX3_sum_0 : decode cX3_sum 0 = .ok (.iconst 0, 1) := by decide +kernel
theorem dX3_sum_1 : decode cX3_sum 1 = .ok (.aload_n 0, 1) := by decide +kernel
theorem dX3_sum_2 : decode cX3_sum 2 = .ok (.getfield 72, 3) := by decide +kernel
theorem dX3_sum_5 : decode cX3_sum 5 = .ok (.aload_n 0, 1) := by decide +kernel
theorem dX3_sum_6 : decode cX3_sum 6 = .ok (.getfield 78, 3) := by decide +kernel
theorem dX3_sum_9 : decode cX3_sum 9 = .ok (.iadd, 1) := by decide +kernel
theorem dX3_sum_10 : decode cX3_sum 10 = .ok (.aload_n 0, 1) := by decide +kernel
theorem dX3_sum_11 : decode cX3_sum 11 = .ok (.getfield 84, 3) := by decide +kernel
theorem dX3_sum_14 : decode cX3_sum 14 = .ok (.iadd, 1) := by decide +kernel
theorem dX3_sum_15 : decode cX3_sum 15 = .ok (.aload_n 0, 1) := by decide +kernel
theorem dX3_sum_16 : decode cX3_sum 16 = .ok (.getfield 90, 3) := by decide +kernel
theorem dX3_sum_19 : decode cX3_sum 19 = .ok (.iadd, 1) := by decide +kernel
theorem dX3_sum_20 : decode cX3_sum 20 = .ok (.invokestatic 93, 3) := by decide +kernel
theorem dX3_sum_23 : decode cX3_sum 23 = .ok (.ireturn, 1) := by decide +kernel
set_option maxRecDepth 20000 in
theorem ggX3_worthOf_X3_sum : GoodIn wsX3_worthOf wsX3_sum := goodIn_r _ [13, 1, 2, 3, 4, 5, 6, 7, 8, 14, 15, 16, 17, 18, 19, 20, 21, 22, 23] (by decide +kernel) (by decide +kernel)
set_option maxRecDepth 20000 in
theorem gX3_worthOf_X3_sum : GoodIn wsX3_worthOf (wsV RX3 98 RX3 yX3_sum wsX3_sum) := goodIn_app (goodIn_of _ (by decide +kernel)) ggX3_worthOf_X3_sum
theorem dX3_worthOf_0 : decode cX3_worthOf 0 = .ok (.aload_n 0, 1) := by decide +kernel
theorem dX3_worthOf_1 : decode cX3_worthOf 1 = .ok (.invokevirtual 98, 3) := by decide +kernel
theorem dX3_worthOf_4 : decode cX3_worthOf 4 = .ok (.iconst 0, 1) := by decide +kernel
theorem dX3_worthOf_5 : decode cX3_worthOf 5 = .ok (.aload_n 0, 1) := by decide +kernel
theorem dX3_worthOf_6 : decode cX3_worthOf 6 = .ok (.getfield 72, 3) := by decide +kernel
theorem dX3_worthOf_9 : decode cX3_worthOf 9 = .ok (.aload_n 0, 1) := by decide +kernel
theorem dX3_worthOf_10 : decode cX3_worthOf 10 = .ok (.getfield 78, 3) := by decide +kernel
theorem dX3_worthOf_13 : decode cX3_worthOf 13 = .ok (.iadd, 1) := by decide +kernel
theorem dX3_worthOf_14 : decode cX3_worthOf 14 = .ok (.aload_n 0, 1) := by decide +kernel
theorem dX3_worthOf_15 : decode cX3_worthOf 15 = .ok (.getfield 84, 3) := by decide +kernel
theorem dX3_worthOf_18 : decode cX3_worthOf 18 = .ok (.iadd, 1) := by decide +kernel
theorem dX3_worthOf_19 : decode cX3_worthOf 19 = .ok (.aload_n 0, 1) := by decide +kernel
theorem dX3_worthOf_20 : decode cX3_worthOf 20 = .ok (.getfield 90, 3) := by decide +kernel
theorem dX3_worthOf_23 : decode cX3_worthOf 23 = .ok (.iadd, 1) := by decide +kernel
theorem dX3_worthOf_24 : decode cX3_worthOf 24 = .ok (.iload_n 1, 1) := by decide +kernel
theorem dX3_worthOf_25 : decode cX3_worthOf 25 = .ok (.isub, 1) := by decide +kernel
theorem dX3_worthOf_26 : decode cX3_worthOf 26 = .ok (.invokestatic 93, 3) := by decide +kernel
theorem dX3_worthOf_29 : decode cX3_worthOf 29 = .ok (.isub, 1) := by decide +kernel
theorem dX3_worthOf_30 : decode cX3_worthOf 30 = .ok (.ireturn, 1) := by decide +kernel
set_option maxRecDepth 20000 in
theorem ggX3_styleOf_X1_value : GoodIn wsX3_styleOf wsX1_value := goodIn_r _ [12, 13, 24, 25, 26, 27] (by decide +kernel) (by decide +kernel)
set_option maxRecDepth 20000 in
theorem gX3_styleOf_X1_value_n52 : GoodIn wsX3_styleOf (wsX1_value) := ggX3_styleOf_X1_value
theorem dX3_styleOf_0 : decode cX3_styleOf 0 = .ok (.iload_n 1, 1) := by decide +kernel
theorem dX3_styleOf_1 : decode cX3_styleOf 1 = .ok (.ifCond .ge 5, 3) := by decide +kernel
theorem dX3_styleOf_4 : decode cX3_styleOf 4 = .ok (.iconst 0, 1) := by decide +kernel
theorem dX3_styleOf_5 : decode cX3_styleOf 5 = .ok (.ireturn, 1) := by decide +kernel
theorem dX3_styleOf_6 : decode cX3_styleOf 6 = .ok (.iconst 0, 1) := by decide +kernel
theorem dX3_styleOf_7 : decode cX3_styleOf 7 = .ok (.istore_n 2, 1) := by decide +kernel
theorem dX3_styleOf_8 : decode cX3_styleOf 8 = .ok (.bipush 40, 2) := by decide +kernel
theorem dX3_styleOf_10 : decode cX3_styleOf 10 = .ok (.istore_n 3, 1) := by decide +kernel
theorem dX3_styleOf_11 : decode cX3_styleOf 11 = .ok (.iconst 0, 1) := by decide +kernel
theorem dX3_styleOf_12 : decode cX3_styleOf 12 = .ok (.istore 4, 2) := by decide +kernel
theorem dX3_styleOf_14 : decode cX3_styleOf 14 = .ok (.iconst 0, 1) := by decide +kernel
theorem dX3_styleOf_15 : decode cX3_styleOf 15 = .ok (.istore 5, 2) := by decide +kernel
theorem dX3_styleOf_17 : decode cX3_styleOf 17 = .ok (.iload 5, 2) := by decide +kernel
theorem dX3_styleOf_19 : decode cX3_styleOf 19 = .ok (.iconst 5, 1) := by decide +kernel
theorem dX3_styleOf_20 : decode cX3_styleOf 20 = .ok (.if_icmp .ge 42, 3) := by decide +kernel
theorem dX3_styleOf_23 : decode cX3_styleOf 23 = .ok (.aload_n 0, 1) := by decide +kernel
theorem dX3_styleOf_24 : decode cX3_styleOf 24 = .ok (.getfield 21, 3) := by decide +kernel
theorem dX3_styleOf_27 : decode cX3_styleOf 27 = .ok (.iload_n 1, 1) := by decide +kernel
theorem dX3_styleOf_28 : decode cX3_styleOf 28 = .ok (.iload 5, 2) := by decide +kernel
theorem dX3_styleOf_30 : decode cX3_styleOf 30 = .ok (.invokevirtual 52, 3) := by decide +kernel
theorem dX3_styleOf_33 : decode cX3_styleOf 33 = .ok (.istore 6, 2) := by decide +kernel
theorem dX3_styleOf_35 : decode cX3_styleOf 35 = .ok (.iload_n 2, 1) := by decide +kernel
theorem dX3_styleOf_36 : decode cX3_styleOf 36 = .ok (.iload 6, 2) := by decide +kernel
theorem dX3_styleOf_38 : decode cX3_styleOf 38 = .ok (.iadd, 1) := by decide +kernel
theorem dX3_styleOf_39 : decode cX3_styleOf 39 = .ok (.istore_n 2, 1) := by decide +kernel
theorem dX3_styleOf_40 : decode cX3_styleOf 40 = .ok (.iload_n 3, 1) := by decide +kernel
theorem dX3_styleOf_41 : decode cX3_styleOf 41 = .ok (.iload 6, 2) := by decide +kernel
theorem dX3_styleOf_43 : decode cX3_styleOf 43 = .ok (.invokestatic 102, 3) := by decide +kernel
theorem dX3_styleOf_46 : decode cX3_styleOf 46 = .ok (.istore_n 3, 1) := by decide +kernel
theorem dX3_styleOf_47 : decode cX3_styleOf 47 = .ok (.iload 4, 2) := by decide +kernel
theorem dX3_styleOf_49 : decode cX3_styleOf 49 = .ok (.iload 6, 2) := by decide +kernel
theorem dX3_styleOf_51 : decode cX3_styleOf 51 = .ok (.invokestatic 93, 3) := by decide +kernel
theorem dX3_styleOf_54 : decode cX3_styleOf 54 = .ok (.istore 4, 2) := by decide +kernel
theorem dX3_styleOf_56 : decode cX3_styleOf 56 = .ok (.iinc 5 1, 3) := by decide +kernel
theorem dX3_styleOf_59 : decode cX3_styleOf 59 = .ok (.goto (-42), 3) := by decide +kernel
theorem dX3_styleOf_62 : decode cX3_styleOf 62 = .ok (.bipush 10, 2) := by decide +kernel
theorem dX3_styleOf_64 : decode cX3_styleOf 64 = .ok (.iload_n 2, 1) := by decide +kernel
theorem dX3_styleOf_65 : decode cX3_styleOf 65 = .ok (.iload_n 3, 1) := by decide +kernel
theorem dX3_styleOf_66 : decode cX3_styleOf 66 = .ok (.isub, 1) := by decide +kernel
theorem dX3_styleOf_67 : decode cX3_styleOf 67 = .ok (.iload 4, 2) := by decide +kernel
theorem dX3_styleOf_69 : decode cX3_styleOf 69 = .ok (.isub, 1) := by decide +kernel
theorem dX3_styleOf_70 : decode cX3_styleOf 70 = .ok (.imul, 1) := by decide +kernel
theorem dX3_styleOf_71 : decode cX3_styleOf 71 = .ok (.ireturn, 1) := by decide +kernel
set_option maxRecDepth 20000 in
theorem ggX3_gateOf_X1_value : GoodIn wsX3_gateOf wsX1_value := goodIn_r _ [7, 8, 27, 28, 29, 30] (by decide +kernel) (by decide +kernel)
set_option maxRecDepth 20000 in
theorem gX3_gateOf_X1_value_n52 : GoodIn wsX3_gateOf (wsX1_value) := ggX3_gateOf_X1_value
set_option maxRecDepth 20000 in
theorem ggX3_gateOf_X2_number : GoodIn wsX3_gateOf wsX2_number := goodIn_r _ [12, 13, 14, 15, 10, 16, 31, 32] (by decide +kernel) (by decide +kernel)
set_option maxRecDepth 20000 in
theorem gX3_gateOf_X2_number_n69 : GoodIn wsX3_gateOf (wsX2_number) := ggX3_gateOf_X2_number
theorem dX3_gateOf_0 : decode cX3_gateOf 0 = .ok (.aload_n 0, 1) := by decide +kernel
theorem dX3_gateOf_1 : decode cX3_gateOf 1 = .ok (.getfield 21, 3) := by decide +kernel
theorem dX3_gateOf_4 : decode cX3_gateOf 4 = .ok (.iload_n 1, 1) := by decide +kernel
theorem dX3_gateOf_5 : decode cX3_gateOf 5 = .ok (.iconst 2, 1) := by decide +kernel
theorem dX3_gateOf_6 : decode cX3_gateOf 6 = .ok (.invokevirtual 52, 3) := by decide +kernel
theorem dX3_gateOf_9 : decode cX3_gateOf 9 = .ok (.iconst 1, 1) := by decide +kernel
theorem dX3_gateOf_10 : decode cX3_gateOf 10 = .ok (.if_icmp .ne 7, 3) := by decide +kernel
theorem dX3_gateOf_13 : decode cX3_gateOf 13 = .ok (.iconst 1, 1) := by decide +kernel
theorem dX3_gateOf_14 : decode cX3_gateOf 14 = .ok (.goto 4, 3) := by decide +kernel
theorem dX3_gateOf_17 : decode cX3_gateOf 17 = .ok (.iconst 0, 1) := by decide +kernel
theorem dX3_gateOf_18 : decode cX3_gateOf 18 = .ok (.istore_n 2, 1) := by decide +kernel
theorem dX3_gateOf_19 : decode cX3_gateOf 19 = .ok (.iload_n 2, 1) := by decide +kernel
theorem dX3_gateOf_20 : decode cX3_gateOf 20 = .ok (.ifCond .eq 37, 3) := by decide +kernel
theorem dX3_gateOf_23 : decode cX3_gateOf 23 = .ok (.bipush 100, 2) := by decide +kernel
theorem dX3_gateOf_25 : decode cX3_gateOf 25 = .ok (.aload_n 0, 1) := by decide +kernel
theorem dX3_gateOf_26 : decode cX3_gateOf 26 = .ok (.getfield 21, 3) := by decide +kernel
theorem dX3_gateOf_29 : decode cX3_gateOf 29 = .ok (.iload_n 1, 1) := by decide +kernel
theorem dX3_gateOf_30 : decode cX3_gateOf 30 = .ok (.iconst 0, 1) := by decide +kernel
theorem dX3_gateOf_31 : decode cX3_gateOf 31 = .ok (.invokevirtual 52, 3) := by decide +kernel
theorem dX3_gateOf_34 : decode cX3_gateOf 34 = .ok (.imul, 1) := by decide +kernel
theorem dX3_gateOf_35 : decode cX3_gateOf 35 = .ok (.aload_n 0, 1) := by decide +kernel
theorem dX3_gateOf_36 : decode cX3_gateOf 36 = .ok (.getfield 12, 3) := by decide +kernel
theorem dX3_gateOf_39 : decode cX3_gateOf 39 = .ok (.iconst 4, 1) := by decide +kernel
theorem dX3_gateOf_40 : decode cX3_gateOf 40 = .ok (.invokevirtual 69, 3) := by decide +kernel
theorem dX3_gateOf_43 : decode cX3_gateOf 43 = .ok (.aload_n 0, 1) := by decide +kernel
theorem dX3_gateOf_44 : decode cX3_gateOf 44 = .ok (.getfield 12, 3) := by decide +kernel
theorem dX3_gateOf_47 : decode cX3_gateOf 47 = .ok (.iconst 0, 1) := by decide +kernel
theorem dX3_gateOf_48 : decode cX3_gateOf 48 = .ok (.invokevirtual 69, 3) := by decide +kernel
theorem dX3_gateOf_51 : decode cX3_gateOf 51 = .ok (.imul, 1) := by decide +kernel
theorem dX3_gateOf_52 : decode cX3_gateOf 52 = .ok (.if_icmp .ge 5, 3) := by decide +kernel
theorem dX3_gateOf_55 : decode cX3_gateOf 55 = .ok (.iconst 0, 1) := by decide +kernel
theorem dX3_gateOf_56 : decode cX3_gateOf 56 = .ok (.ireturn, 1) := by decide +kernel
theorem dX3_gateOf_57 : decode cX3_gateOf 57 = .ok (.iconst 2, 1) := by decide +kernel
theorem dX3_gateOf_58 : decode cX3_gateOf 58 = .ok (.aload_n 0, 1) := by decide +kernel
theorem dX3_gateOf_59 : decode cX3_gateOf 59 = .ok (.getfield 12, 3) := by decide +kernel
theorem dX3_gateOf_62 : decode cX3_gateOf 62 = .ok (.iconst 3, 1) := by decide +kernel
theorem dX3_gateOf_63 : decode cX3_gateOf 63 = .ok (.invokevirtual 69, 3) := by decide +kernel
theorem dX3_gateOf_66 : decode cX3_gateOf 66 = .ok (.imul, 1) := by decide +kernel
theorem dX3_gateOf_67 : decode cX3_gateOf 67 = .ok (.aload_n 0, 1) := by decide +kernel
theorem dX3_gateOf_68 : decode cX3_gateOf 68 = .ok (.getfield 29, 3) := by decide +kernel
theorem dX3_gateOf_71 : decode cX3_gateOf 71 = .ok (.aload_n 0, 1) := by decide +kernel
theorem dX3_gateOf_72 : decode cX3_gateOf 72 = .ok (.getfield 21, 3) := by decide +kernel
theorem dX3_gateOf_75 : decode cX3_gateOf 75 = .ok (.iload_n 1, 1) := by decide +kernel
theorem dX3_gateOf_76 : decode cX3_gateOf 76 = .ok (.iconst 1, 1) := by decide +kernel
theorem dX3_gateOf_77 : decode cX3_gateOf 77 = .ok (.invokevirtual 52, 3) := by decide +kernel
theorem dX3_gateOf_80 : decode cX3_gateOf 80 = .ok (.isub, 1) := by decide +kernel
theorem dX3_gateOf_81 : decode cX3_gateOf 81 = .ok (.imul, 1) := by decide +kernel
theorem dX3_gateOf_82 : decode cX3_gateOf 82 = .ok (.ireturn, 1) := by decide +kernel
set_option maxRecDepth 20000 in
theorem ggX3_meanOf_X1_value : GoodIn wsX3_meanOf wsX1_value := goodIn_r _ [6, 7, 26, 27, 28, 29] (by decide +kernel) (by decide +kernel)
set_option maxRecDepth 20000 in
theorem gX3_meanOf_X1_value_n52 : GoodIn wsX3_meanOf (wsX1_value) := ggX3_meanOf_X1_value
set_option maxRecDepth 20000 in
theorem ggX3_meanOf_X3_rounded : GoodIn wsX3_meanOf wsX3_rounded := goodIn_r _ [11, 12, 13, 14, 15] (by decide +kernel) (by decide +kernel)
set_option maxRecDepth 20000 in
theorem gX3_meanOf_X3_rounded : GoodIn wsX3_meanOf (va_wsS RX3 87 yX3_rounded wsX3_rounded) := goodIn_app (goodIn_of _ (by decide +kernel)) ggX3_meanOf_X3_rounded
theorem dX3_meanOf_0 : decode cX3_meanOf 0 = .ok (.iload_n 1, 1) := by decide +kernel
theorem dX3_meanOf_1 : decode cX3_meanOf 1 = .ok (.ifCond .ge 5, 3) := by decide +kernel
theorem dX3_meanOf_4 : decode cX3_meanOf 4 = .ok (.iconst 0, 1) := by decide +kernel
theorem dX3_meanOf_5 : decode cX3_meanOf 5 = .ok (.ireturn, 1) := by decide +kernel
theorem dX3_meanOf_6 : decode cX3_meanOf 6 = .ok (.iconst 0, 1) := by decide +kernel
theorem dX3_meanOf_7 : decode cX3_meanOf 7 = .ok (.istore_n 2, 1) := by decide +kernel
theorem dX3_meanOf_8 : decode cX3_meanOf 8 = .ok (.iconst 0, 1) := by decide +kernel
theorem dX3_meanOf_9 : decode cX3_meanOf 9 = .ok (.istore_n 3, 1) := by decide +kernel
theorem dX3_meanOf_10 : decode cX3_meanOf 10 = .ok (.iconst 0, 1) := by decide +kernel
theorem dX3_meanOf_11 : decode cX3_meanOf 11 = .ok (.istore 4, 2) := by decide +kernel
theorem dX3_meanOf_13 : decode cX3_meanOf 13 = .ok (.iload 4, 2) := by decide +kernel
theorem dX3_meanOf_15 : decode cX3_meanOf 15 = .ok (.aload_n 0, 1) := by decide +kernel
theorem dX3_meanOf_16 : decode cX3_meanOf 16 = .ok (.getfield 25, 3) := by decide +kernel
theorem dX3_meanOf_19 : decode cX3_meanOf 19 = .ok (.arraylength, 1) := by decide +kernel
theorem dX3_meanOf_20 : decode cX3_meanOf 20 = .ok (.if_icmp .ge 52, 3) := by decide +kernel
theorem dX3_meanOf_23 : decode cX3_meanOf 23 = .ok (.aload_n 0, 1) := by decide +kernel
theorem dX3_meanOf_24 : decode cX3_meanOf 24 = .ok (.getfield 21, 3) := by decide +kernel
theorem dX3_meanOf_27 : decode cX3_meanOf 27 = .ok (.iload_n 1, 1) := by decide +kernel
theorem dX3_meanOf_28 : decode cX3_meanOf 28 = .ok (.iload 4, 2) := by decide +kernel
theorem dX3_meanOf_30 : decode cX3_meanOf 30 = .ok (.invokevirtual 52, 3) := by decide +kernel
theorem dX3_meanOf_33 : decode cX3_meanOf 33 = .ok (.istore 5, 2) := by decide +kernel
theorem dX3_meanOf_35 : decode cX3_meanOf 35 = .ok (.iload 5, 2) := by decide +kernel
theorem dX3_meanOf_37 : decode cX3_meanOf 37 = .ok (.sipush (-10000), 3) := by decide +kernel
theorem dX3_meanOf_40 : decode cX3_meanOf 40 = .ok (.if_icmp .eq 26, 3) := by decide +kernel
theorem dX3_meanOf_43 : decode cX3_meanOf 43 = .ok (.iload_n 2, 1) := by decide +kernel
theorem dX3_meanOf_44 : decode cX3_meanOf 44 = .ok (.aload_n 0, 1) := by decide +kernel
theorem dX3_meanOf_45 : decode cX3_meanOf 45 = .ok (.getfield 25, 3) := by decide +kernel
theorem dX3_meanOf_48 : decode cX3_meanOf 48 = .ok (.iload 4, 2) := by decide +kernel
theorem dX3_meanOf_50 : decode cX3_meanOf 50 = .ok (.iaload, 1) := by decide +kernel
theorem dX3_meanOf_51 : decode cX3_meanOf 51 = .ok (.iload 5, 2) := by decide +kernel
theorem dX3_meanOf_53 : decode cX3_meanOf 53 = .ok (.imul, 1) := by decide +kernel
theorem dX3_meanOf_54 : decode cX3_meanOf 54 = .ok (.iadd, 1) := by decide +kernel
theorem dX3_meanOf_55 : decode cX3_meanOf 55 = .ok (.istore_n 2, 1) := by decide +kernel
theorem dX3_meanOf_56 : decode cX3_meanOf 56 = .ok (.iload_n 3, 1) := by decide +kernel
theorem dX3_meanOf_57 : decode cX3_meanOf 57 = .ok (.aload_n 0, 1) := by decide +kernel
theorem dX3_meanOf_58 : decode cX3_meanOf 58 = .ok (.getfield 25, 3) := by decide +kernel
theorem dX3_meanOf_61 : decode cX3_meanOf 61 = .ok (.iload 4, 2) := by decide +kernel
theorem dX3_meanOf_63 : decode cX3_meanOf 63 = .ok (.iaload, 1) := by decide +kernel
theorem dX3_meanOf_64 : decode cX3_meanOf 64 = .ok (.iadd, 1) := by decide +kernel
theorem dX3_meanOf_65 : decode cX3_meanOf 65 = .ok (.istore_n 3, 1) := by decide +kernel
theorem dX3_meanOf_66 : decode cX3_meanOf 66 = .ok (.iinc 4 1, 3) := by decide +kernel
theorem dX3_meanOf_69 : decode cX3_meanOf 69 = .ok (.goto (-56), 3) := by decide +kernel
theorem dX3_meanOf_72 : decode cX3_meanOf 72 = .ok (.iload_n 2, 1) := by decide +kernel
theorem dX3_meanOf_73 : decode cX3_meanOf 73 = .ok (.iload_n 3, 1) := by decide +kernel
theorem dX3_meanOf_74 : decode cX3_meanOf 74 = .ok (.invokestatic 87, 3) := by decide +kernel
theorem dX3_meanOf_77 : decode cX3_meanOf 77 = .ok (.ireturn, 1) := by decide +kernel
theorem dX3_rounded_0 : decode cX3_rounded 0 = .ok (.iload_n 1, 1) := by decide +kernel
theorem dX3_rounded_1 : decode cX3_rounded 1 = .ok (.ifCond .gt 5, 3) := by decide +kernel
theorem dX3_rounded_4 : decode cX3_rounded 4 = .ok (.iconst 0, 1) := by decide +kernel
theorem dX3_rounded_5 : decode cX3_rounded 5 = .ok (.ireturn, 1) := by decide +kernel
theorem dX3_rounded_6 : decode cX3_rounded 6 = .ok (.iconst 2, 1) := by decide +kernel
theorem dX3_rounded_7 : decode cX3_rounded 7 = .ok (.iload_n 0, 1) := by decide +kernel
theorem dX3_rounded_8 : decode cX3_rounded 8 = .ok (.invokestatic 105, 3) := by decide +kernel
theorem dX3_rounded_11 : decode cX3_rounded 11 = .ok (.imul, 1) := by decide +kernel
theorem dX3_rounded_12 : decode cX3_rounded 12 = .ok (.iload_n 1, 1) := by decide +kernel
theorem dX3_rounded_13 : decode cX3_rounded 13 = .ok (.iadd, 1) := by decide +kernel
theorem dX3_rounded_14 : decode cX3_rounded 14 = .ok (.iconst 2, 1) := by decide +kernel
theorem dX3_rounded_15 : decode cX3_rounded 15 = .ok (.iload_n 1, 1) := by decide +kernel
theorem dX3_rounded_16 : decode cX3_rounded 16 = .ok (.imul, 1) := by decide +kernel
theorem dX3_rounded_17 : decode cX3_rounded 17 = .ok (.idiv, 1) := by decide +kernel
theorem dX3_rounded_18 : decode cX3_rounded 18 = .ok (.istore_n 2, 1) := by decide +kernel
theorem dX3_rounded_19 : decode cX3_rounded 19 = .ok (.iload_n 0, 1) := by decide +kernel
theorem dX3_rounded_20 : decode cX3_rounded 20 = .ok (.ifCond .ge 8, 3) := by decide +kernel
theorem dX3_rounded_23 : decode cX3_rounded 23 = .ok (.iload_n 2, 1) := by decide +kernel
theorem dX3_rounded_24 : decode cX3_rounded 24 = .ok (.ineg, 1) := by decide +kernel
theorem dX3_rounded_25 : decode cX3_rounded 25 = .ok (.goto 4, 3) := by decide +kernel
theorem dX3_rounded_28 : decode cX3_rounded 28 = .ok (.iload_n 2, 1) := by decide +kernel
theorem dX3_rounded_29 : decode cX3_rounded 29 = .ok (.ireturn, 1) := by decide +kernel
set_option maxRecDepth 20000 in
theorem ggX3_mayBeRecord_X3_countingOf : GoodIn wsX3_mayBeRecord wsX3_countingOf := goodIn_r _ [6, 7, 21, 22, 23, 24, 25, 26, 27, 28, 29, 30] (by decide +kernel) (by decide +kernel)
set_option maxRecDepth 20000 in
theorem gX3_mayBeRecord_X3_countingOf : GoodIn wsX3_mayBeRecord (wsV RX3 48 RX3 yX3_countingOf wsX3_countingOf) := goodIn_app (goodIn_of _ (by decide +kernel)) ggX3_mayBeRecord_X3_countingOf
set_option maxRecDepth 20000 in
theorem ggX3_mayBeRecord_X3_hasPoints : GoodIn wsX3_mayBeRecord wsX3_hasPoints := goodIn_r _ [11, 2, 3, 4, 5, 6, 7, 12, 13, 14, 15, 1, 16, 17, 18, 19, 20, 21, 22, 23, 24, 25, 26, 27, 28, 29, 30, 31, 32, 33, 34] (by decide +kernel) (by decide +kernel)
set_option maxRecDepth 20000 in
theorem gX3_mayBeRecord_X3_hasPoints : GoodIn wsX3_mayBeRecord (wsV RX3 66 RX3 yX3_hasPoints wsX3_hasPoints) := goodIn_app (goodIn_of _ (by decide +kernel)) ggX3_mayBeRecord_X3_hasPoints
set_option maxRecDepth 20000 in
theorem ggX3_mayBeRecord_X1_value : GoodIn wsX3_mayBeRecord wsX1_value := goodIn_r _ [19, 20, 31, 32, 33, 34] (by decide +kernel) (by decide +kernel)
set_option maxRecDepth 20000 in
theorem gX3_mayBeRecord_X1_value_n52 : GoodIn wsX3_mayBeRecord (wsX1_value) := ggX3_mayBeRecord_X1_value
theorem dX3_mayBeRecord_0 : decode cX3_mayBeRecord 0 = .ok (.aload_n 0, 1) := by decide +kernel
theorem dX3_mayBeRecord_1 : decode cX3_mayBeRecord 1 = .ok (.iconst 2, 1) := by decide +kernel
theorem dX3_mayBeRecord_2 : decode cX3_mayBeRecord 2 = .ok (.iload_n 1, 1) := by decide +kernel
theorem dX3_mayBeRecord_3 : decode cX3_mayBeRecord 3 = .ok (.invokevirtual 48, 3) := by decide +kernel
theorem dX3_mayBeRecord_6 : decode cX3_mayBeRecord 6 = .ok (.istore_n 2, 1) := by decide +kernel
theorem dX3_mayBeRecord_7 : decode cX3_mayBeRecord 7 = .ok (.iload_n 2, 1) := by decide +kernel
theorem dX3_mayBeRecord_8 : decode cX3_mayBeRecord 8 = .ok (.ifCond .lt 11, 3) := by decide +kernel
theorem dX3_mayBeRecord_11 : decode cX3_mayBeRecord 11 = .ok (.aload_n 0, 1) := by decide +kernel
theorem dX3_mayBeRecord_12 : decode cX3_mayBeRecord 12 = .ok (.iload_n 1, 1) := by decide +kernel
theorem dX3_mayBeRecord_13 : decode cX3_mayBeRecord 13 = .ok (.invokevirtual 66, 3) := by decide +kernel
theorem dX3_mayBeRecord_16 : decode cX3_mayBeRecord 16 = .ok (.ifCond .ne 5, 3) := by decide +kernel
theorem dX3_mayBeRecord_19 : decode cX3_mayBeRecord 19 = .ok (.iconst 0, 1) := by decide +kernel
theorem dX3_mayBeRecord_20 : decode cX3_mayBeRecord 20 = .ok (.ireturn, 1) := by decide +kernel
theorem dX3_mayBeRecord_21 : decode cX3_mayBeRecord 21 = .ok (.iconst 0, 1) := by decide +kernel
theorem dX3_mayBeRecord_22 : decode cX3_mayBeRecord 22 = .ok (.istore_n 3, 1) := by decide +kernel
theorem dX3_mayBeRecord_23 : decode cX3_mayBeRecord 23 = .ok (.iload_n 3, 1) := by decide +kernel
theorem dX3_mayBeRecord_24 : decode cX3_mayBeRecord 24 = .ok (.iconst 5, 1) := by decide +kernel
theorem dX3_mayBeRecord_25 : decode cX3_mayBeRecord 25 = .ok (.if_icmp .ge 25, 3) := by decide +kernel
theorem dX3_mayBeRecord_28 : decode cX3_mayBeRecord 28 = .ok (.aload_n 0, 1) := by decide +kernel
theorem dX3_mayBeRecord_29 : decode cX3_mayBeRecord 29 = .ok (.getfield 21, 3) := by decide +kernel
theorem dX3_mayBeRecord_32 : decode cX3_mayBeRecord 32 = .ok (.iload_n 2, 1) := by decide +kernel
theorem dX3_mayBeRecord_33 : decode cX3_mayBeRecord 33 = .ok (.iload_n 3, 1) := by decide +kernel
theorem dX3_mayBeRecord_34 : decode cX3_mayBeRecord 34 = .ok (.invokevirtual 52, 3) := by decide +kernel
theorem dX3_mayBeRecord_37 : decode cX3_mayBeRecord 37 = .ok (.bipush 20, 2) := by decide +kernel
theorem dX3_mayBeRecord_39 : decode cX3_mayBeRecord 39 = .ok (.if_icmp .ge 5, 3) := by decide +kernel
theorem dX3_mayBeRecord_42 : decode cX3_mayBeRecord 42 = .ok (.iconst 0, 1) := by decide +kernel
theorem dX3_mayBeRecord_43 : decode cX3_mayBeRecord 43 = .ok (.ireturn, 1) := by decide +kernel
theorem dX3_mayBeRecord_44 : decode cX3_mayBeRecord 44 = .ok (.iinc 3 1, 3) := by decide +kernel
theorem dX3_mayBeRecord_47 : decode cX3_mayBeRecord 47 = .ok (.goto (-24), 3) := by decide +kernel
theorem dX3_mayBeRecord_50 : decode cX3_mayBeRecord 50 = .ok (.iconst 1, 1) := by decide +kernel
theorem dX3_mayBeRecord_51 : decode cX3_mayBeRecord 51 = .ok (.ireturn, 1) := by decide +kernel
set_option maxRecDepth 20000 in
theorem ggX3_isLonger_X3_lengthOf : GoodIn wsX3_isLonger wsX3_lengthOf := goodIn_r _ [5, 6, 7, 8, 9, 4, 10, 11, 12, 13, 14, 15, 16, 17, 18, 19, 20, 21, 22, 23, 24, 25, 26, 27, 28, 29, 30] (by decide +kernel) (by decide +kernel)
set_option maxRecDepth 20000 in
theorem gX3_isLonger_X3_lengthOf : GoodIn wsX3_isLonger (wsV RX3 108 RX3 yX3_lengthOf wsX3_lengthOf) := goodIn_app (goodIn_of _ (by decide +kernel)) ggX3_isLonger_X3_lengthOf
set_option maxRecDepth 20000 in
theorem ggX3_isLonger_X3_countingOf : GoodIn wsX3_isLonger wsX3_countingOf := goodIn_r _ [10, 11, 17, 18, 19, 20, 21, 22, 23, 24, 25, 26] (by decide +kernel) (by decide +kernel)
set_option maxRecDepth 20000 in
theorem gX3_isLonger_X3_countingOf : GoodIn wsX3_isLonger (wsV RX3 48 RX3 yX3_countingOf wsX3_countingOf) := goodIn_app (goodIn_of _ (by decide +kernel)) ggX3_isLonger_X3_countingOf
theorem dX3_isLonger_0 : decode cX3_isLonger 0 = .ok (.aload_n 0, 1) := by decide +kernel
theorem dX3_isLonger_1 : decode cX3_isLonger 1 = .ok (.iload_n 1, 1) := by decide +kernel
theorem dX3_isLonger_2 : decode cX3_isLonger 2 = .ok (.invokevirtual 108, 3) := by decide +kernel
theorem dX3_isLonger_5 : decode cX3_isLonger 5 = .ok (.aload_n 0, 1) := by decide +kernel
theorem dX3_isLonger_6 : decode cX3_isLonger 6 = .ok (.iload_n 2, 1) := by decide +kernel
theorem dX3_isLonger_7 : decode cX3_isLonger 7 = .ok (.invokevirtual 108, 3) := by decide +kernel
theorem dX3_isLonger_10 : decode cX3_isLonger 10 = .ok (.isub, 1) := by decide +kernel
theorem dX3_isLonger_11 : decode cX3_isLonger 11 = .ok (.istore_n 3, 1) := by decide +kernel
theorem dX3_isLonger_12 : decode cX3_isLonger 12 = .ok (.iload_n 3, 1) := by decide +kernel
theorem dX3_isLonger_13 : decode cX3_isLonger 13 = .ok (.ifCond .gt 22, 3) := by decide +kernel
theorem dX3_isLonger_16 : decode cX3_isLonger 16 = .ok (.iload_n 3, 1) := by decide +kernel
theorem dX3_isLonger_17 : decode cX3_isLonger 17 = .ok (.ifCond .ne 22, 3) := by decide +kernel
theorem dX3_isLonger_20 : decode cX3_isLonger 20 = .ok (.aload_n 0, 1) := by decide +kernel
theorem dX3_isLonger_21 : decode cX3_isLonger 21 = .ok (.iconst 0, 1) := by decide +kernel
theorem dX3_isLonger_22 : decode cX3_isLonger 22 = .ok (.iload_n 1, 1) := by decide +kernel
theorem dX3_isLonger_23 : decode cX3_isLonger 23 = .ok (.invokevirtual 48, 3) := by decide +kernel
theorem dX3_isLonger_26 : decode cX3_isLonger 26 = .ok (.aload_n 0, 1) := by decide +kernel
theorem dX3_isLonger_27 : decode cX3_isLonger 27 = .ok (.iconst 0, 1) := by decide +kernel
theorem dX3_isLonger_28 : decode cX3_isLonger 28 = .ok (.iload_n 2, 1) := by decide +kernel
theorem dX3_isLonger_29 : decode cX3_isLonger 29 = .ok (.invokevirtual 48, 3) := by decide +kernel
theorem dX3_isLonger_32 : decode cX3_isLonger 32 = .ok (.if_icmp .ge 7, 3) := by decide +kernel
theorem dX3_isLonger_35 : decode cX3_isLonger 35 = .ok (.iconst 1, 1) := by decide +kernel
theorem dX3_isLonger_36 : decode cX3_isLonger 36 = .ok (.goto 4, 3) := by decide +kernel
theorem dX3_isLonger_39 : decode cX3_isLonger 39 = .ok (.iconst 0, 1) := by decide +kernel
theorem dX3_isLonger_40 : decode cX3_isLonger 40 = .ok (.ireturn, 1) := by decide +kernel
