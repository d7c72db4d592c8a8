theorem dX8_init_0 : decode cX8_init 0 = .ok (.aload_n 0, 1) := by decide +kernel
theorem dX8_init_1 : decode cX8_init 1 = .ok (.invokespecial 1, 3) := by decide +kernel
theorem dX8_init_4 : decode cX8_init 4 = .ok (.aload_n 0, 1) := by decide +kernel
theorem dX8_init_5 : decode cX8_init 5 = .ok (.bipush 30, 2) := by decide +kernel
theorem dX8_init_7 : decode cX8_init 7 = .ok (.putfield 7, 3) := by decide +kernel
theorem dX8_init_10 : decode cX8_init 10 = .ok (.aload_n 0, 1) := by decide +kernel
theorem dX8_init_11 : decode cX8_init 11 = .ok (.bipush 40, 2) := by decide +kernel
theorem dX8_init_13 : decode cX8_init 13 = .ok (.newarray .int, 2) := by decide +kernel
theorem dX8_init_15 : decode cX8_init 15 = .ok (.putfield 13, 3) := by decide +kernel
theorem dX8_init_18 : decode cX8_init 18 = .ok (.aload_n 0, 1) := by decide +kernel
theorem dX8_init_19 : decode cX8_init 19 = .ok (.bipush 21, 2) := by decide +kernel
theorem dX8_init_21 : decode cX8_init 21 = .ok (.newarray .int, 2) := by decide +kernel
theorem dX8_init_23 : decode cX8_init 23 = .ok (.putfield 17, 3) := by decide +kernel
theorem dX8_init_26 : decode cX8_init 26 = .ok (.aload_n 0, 1) := by decide +kernel
theorem dX8_init_27 : decode cX8_init 27 = .ok (.bipush 7, 2) := by decide +kernel
theorem dX8_init_29 : decode cX8_init 29 = .ok (.newarray .int, 2) := by decide +kernel
theorem dX8_init_31 : decode cX8_init 31 = .ok (.putfield 20, 3) := by decide +kernel
theorem dX8_init_34 : decode cX8_init 34 = .ok (.aload_n 0, 1) := by decide +kernel
theorem dX8_init_35 : decode cX8_init 35 = .ok (.bipush 7, 2) := by decide +kernel
theorem dX8_init_37 : decode cX8_init 37 = .ok (.newarray .int, 2) := by decide +kernel
theorem dX8_init_39 : decode cX8_init 39 = .ok (.putfield 23, 3) := by decide +kernel
theorem dX8_init_42 : decode cX8_init 42 = .ok (.aload_n 0, 1) := by decide +kernel
theorem dX8_init_43 : decode cX8_init 43 = .ok (.bipush 7, 2) := by decide +kernel
theorem dX8_init_45 : decode cX8_init 45 = .ok (.newarray .int, 2) := by decide +kernel
theorem dX8_init_47 : decode cX8_init 47 = .ok (.putfield 26, 3) := by decide +kernel
theorem dX8_init_50 : decode cX8_init 50 = .ok (.aload_n 0, 1) := by decide +kernel
theorem dX8_init_51 : decode cX8_init 51 = .ok (.bipush 35, 2) := by decide +kernel
theorem dX8_init_53 : decode cX8_init 53 = .ok (.newarray .int, 2) := by decide +kernel
theorem dX8_init_55 : decode cX8_init 55 = .ok (.putfield 29, 3) := by decide +kernel
theorem dX8_init_58 : decode cX8_init 58 = .ok (.aload_n 0, 1) := by decide +kernel
theorem dX8_init_59 : decode cX8_init 59 = .ok (.bipush 35, 2) := by decide +kernel
theorem dX8_init_61 : decode cX8_init 61 = .ok (.newarray .int, 2) := by decide +kernel
theorem dX8_init_63 : decode cX8_init 63 = .ok (.putfield 32, 3) := by decide +kernel
theorem dX8_init_66 : decode cX8_init 66 = .ok (.aload_n 0, 1) := by decide +kernel
theorem dX8_init_67 : decode cX8_init 67 = .ok (.bipush 49, 2) := by decide +kernel
theorem dX8_init_69 : decode cX8_init 69 = .ok (.newarray .int, 2) := by decide +kernel
theorem dX8_init_71 : decode cX8_init 71 = .ok (.putfield 35, 3) := by decide +kernel
theorem dX8_init_74 : decode cX8_init 74 = .ok (.aload_n 0, 1) := by decide +kernel
theorem dX8_init_75 : decode cX8_init 75 = .ok (.bipush 7, 2) := by decide +kernel
theorem dX8_init_77 : decode cX8_init 77 = .ok (.newarray .int, 2) := by decide +kernel
theorem dX8_init_79 : decode cX8_init 79 = .ok (.putfield 38, 3) := by decide +kernel
theorem dX8_init_82 : decode cX8_init 82 = .ok (.aload_n 0, 1) := by decide +kernel
theorem dX8_init_83 : decode cX8_init 83 = .ok (.lconst 1, 1) := by decide +kernel
theorem dX8_init_84 : decode cX8_init 84 = .ok (.putfield 41, 3) := by decide +kernel
theorem dX8_init_87 : decode cX8_init 87 = .ok (.aload_n 0, 1) := by decide +kernel
theorem dX8_init_88 : decode cX8_init 88 = .ok (.sipush 260, 3) := by decide +kernel
theorem dX8_init_91 : decode cX8_init 91 = .ok (.newarray .int, 2) := by decide +kernel
theorem dX8_init_93 : decode cX8_init 93 = .ok (.putfield 45, 3) := by decide +kernel
theorem dX8_init_96 : decode cX8_init 96 = .ok (.aload_n 0, 1) := by decide +kernel
theorem dX8_init_97 : decode cX8_init 97 = .ok (.iconst 4, 1) := by decide +kernel
theorem dX8_init_98 : decode cX8_init 98 = .ok (.newarray .int, 2) := by decide +kernel
theorem dX8_init_100 : decode cX8_init 100 = .ok (.putfield 48, 3) := by decide +kernel
theorem dX8_init_103 : decode cX8_init 103 = .ok (.aload_n 0, 1) := by decide +kernel
theorem dX8_init_104 : decode cX8_init 104 = .ok (.iconst 4, 1) := by decide +kernel
theorem dX8_init_105 : decode cX8_init 105 = .ok (.newarray .int, 2) := by decide +kernel
theorem dX8_init_107 : decode cX8_init 107 = .ok (.putfield 51, 3) := by decide +kernel
theorem dX8_init_110 : decode cX8_init 110 = .ok (.aload_n 0, 1) := by decide +kernel
theorem dX8_init_111 : decode cX8_init 111 = .ok (.sipush 240, 3) := by decide +kernel
theorem dX8_init_114 : decode cX8_init 114 = .ok (.newarray .int, 2) := by decide +kernel
theorem dX8_init_116 : decode cX8_init 116 = .ok (.putfield 54, 3) := by decide +kernel
theorem dX8_init_119 : decode cX8_init 119 = .ok (.aload_n 0, 1) := by decide +kernel
theorem dX8_init_120 : decode cX8_init 120 = .ok (.sipush 200, 3) := by decide +kernel
theorem dX8_init_123 : decode cX8_init 123 = .ok (.newarray .int, 2) := by decide +kernel
theorem dX8_init_125 : decode cX8_init 125 = .ok (.putfield 57, 3) := by decide +kernel
theorem dX8_init_128 : decode cX8_init 128 = .ok (.aload_n 0, 1) := by decide +kernel
theorem dX8_init_129 : decode cX8_init 129 = .ok (.bipush 20, 2) := by decide +kernel
theorem dX8_init_131 : decode cX8_init 131 = .ok (.newarray .int, 2) := by decide +kernel
theorem dX8_init_133 : decode cX8_init 133 = .ok (.putfield 60, 3) := by decide +kernel
theorem dX8_init_136 : decode cX8_init 136 = .ok (.aload_n 0, 1) := by decide +kernel
theorem dX8_init_137 : decode cX8_init 137 = .ok (.bipush 49, 2) := by decide +kernel
theorem dX8_init_139 : decode cX8_init 139 = .ok (.newarray .int, 2) := by decide +kernel
theorem dX8_init_141 : decode cX8_init 141 = .ok (.putfield 63, 3) := by decide +kernel
theorem dX8_init_144 : decode cX8_init 144 = .ok (.aload_n 0, 1) := by decide +kernel
theorem dX8_init_145 : decode cX8_init 145 = .ok (.sipush 280, 3) := by decide +kernel
theorem dX8_init_148 : decode cX8_init 148 = .ok (.newarray .long, 2) := by decide +kernel
theorem dX8_init_150 : decode cX8_init 150 = .ok (.putfield 66, 3) := by decide +kernel
theorem dX8_init_153 : decode cX8_init 153 = .ok (.aload_n 0, 1) := by decide +kernel
theorem dX8_init_154 : decode cX8_init 154 = .ok (.sipush 128, 3) := by decide +kernel
theorem dX8_init_157 : decode cX8_init 157 = .ok (.newarray .int, 2) := by decide +kernel
theorem dX8_init_159 : decode cX8_init 159 = .ok (.putfield 70, 3) := by decide +kernel
theorem dX8_init_162 : decode cX8_init 162 = .ok (.aload_n 0, 1) := by decide +kernel
theorem dX8_init_163 : decode cX8_init 163 = .ok (.sipush 128, 3) := by decide +kernel
theorem dX8_init_166 : decode cX8_init 166 = .ok (.newarray .int, 2) := by decide +kernel
theorem dX8_init_168 : decode cX8_init 168 = .ok (.putfield 73, 3) := by decide +kernel
theorem dX8_init_171 : decode cX8_init 171 = .ok (.aload_n 0, 1) := by decide +kernel
theorem dX8_init_172 : decode cX8_init 172 = .ok (.sipush 128, 3) := by decide +kernel
theorem dX8_init_175 : decode cX8_init 175 = .ok (.newarray .long, 2) := by decide +kernel
theorem dX8_init_177 : decode cX8_init 177 = .ok (.putfield 76, 3) := by decide +kernel
theorem dX8_init_180 : decode cX8_init 180 = .ok (.aload_n 0, 1) := by decide +kernel
theorem dX8_init_181 : decode cX8_init 181 = .ok (.sipush 128, 3) := by decide +kernel
theorem dX8_init_184 : decode cX8_init 184 = .ok (.newarray .long, 2) := by decide +kernel
theorem dX8_init_186 : decode cX8_init 186 = .ok (.putfield 79, 3) := by decide +kernel
theorem dX8_init_189 : decode cX8_init 189 = .ok (.aload_n 0, 1) := by decide +kernel
theorem dX8_init_190 : decode cX8_init 190 = .ok (.sipush 128, 3) := by decide +kernel
theorem dX8_init_193 : decode cX8_init 193 = .ok (.newarray .long, 2) := by decide +kernel
theorem dX8_init_195 : decode cX8_init 195 = .ok (.putfield 82, 3) := by decide +kernel
theorem dX8_init_198 : decode cX8_init 198 = .ok (.aload_n 0, 1) := by decide +kernel
theorem dX8_init_199 : decode cX8_init 199 = .ok (.bipush 40, 2) := by decide +kernel
theorem dX8_init_201 : decode cX8_init 201 = .ok (.newarray .long, 2) := by decide +kernel
theorem dX8_init_203 : decode cX8_init 203 = .ok (.putfield 85, 3) := by decide +kernel
theorem dX8_init_206 : decode cX8_init 206 = .ok (.aload_n 0, 1) := by decide +kernel
theorem dX8_init_207 : decode cX8_init 207 = .ok (.iconst 2, 1) := by decide +kernel
theorem dX8_init_208 : decode cX8_init 208 = .ok (.newarray .int, 2) := by decide +kernel
theorem dX8_init_210 : decode cX8_init 210 = .ok (.putfield 88, 3) := by decide +kernel
theorem dX8_init_213 : decode cX8_init 213 = .ok (.aload_n 0, 1) := by decide +kernel
theorem dX8_init_214 : decode cX8_init 214 = .ok (.sipush 260, 3) := by decide +kernel
theorem dX8_init_217 : decode cX8_init 217 = .ok (.newarray .int, 2) := by decide +kernel
theorem dX8_init_219 : decode cX8_init 219 = .ok (.putfield 91, 3) := by decide +kernel
theorem dX8_init_222 : decode cX8_init 222 = .ok (.iconst 0, 1) := by decide +kernel
theorem dX8_init_223 : decode cX8_init 223 = .ok (.istore_n 1, 1) := by decide +kernel
theorem dX8_init_224 : decode cX8_init 224 = .ok (.iload_n 1, 1) := by decide +kernel
theorem dX8_init_225 : decode cX8_init 225 = .ok (.bipush 40, 2) := by decide +kernel
theorem dX8_init_227 : decode cX8_init 227 = .ok (.if_icmp .ge 22, 3) := by decide +kernel
theorem dX8_init_230 : decode cX8_init 230 = .ok (.aload_n 0, 1) := by decide +kernel
theorem dX8_init_231 : decode cX8_init 231 = .ok (.getfield 13, 3) := by decide +kernel
theorem dX8_init_234 : decode cX8_init 234 = .ok (.iload_n 1, 1) := by decide +kernel
theorem dX8_init_235 : decode cX8_init 235 = .ok (.sipush 500, 3) := by decide +kernel
theorem dX8_init_238 : decode cX8_init 238 = .ok (.iconst 5, 1) := by decide +kernel
theorem dX8_init_239 : decode cX8_init 239 = .ok (.iload_n 1, 1) := by decide +kernel
theorem dX8_init_240 : decode cX8_init 240 = .ok (.imul, 1) := by decide +kernel
theorem dX8_init_241 : decode cX8_init 241 = .ok (.isub, 1) := by decide +kernel
theorem dX8_init_242 : decode cX8_init 242 = .ok (.iastore, 1) := by decide +kernel
theorem dX8_init_243 : decode cX8_init 243 = .ok (.iinc 1 1, 3) := by decide +kernel
theorem dX8_init_246 : decode cX8_init 246 = .ok (.goto (-22), 3) := by decide +kernel
theorem dX8_init_249 : decode cX8_init 249 = .ok (.iconst 0, 1) := by decide +kernel
theorem dX8_init_250 : decode cX8_init 250 = .ok (.istore_n 1, 1) := by decide +kernel
theorem dX8_init_251 : decode cX8_init 251 = .ok (.iload_n 1, 1) := by decide +kernel
theorem dX8_init_252 : decode cX8_init 252 = .ok (.bipush 21, 2) := by decide +kernel
theorem dX8_init_254 : decode cX8_init 254 = .ok (.if_icmp .ge 29, 3) := by decide +kernel
theorem dX8_init_257 : decode cX8_init 257 = .ok (.aload_n 0, 1) := by decide +kernel
theorem dX8_init_258 : decode cX8_init 258 = .ok (.getfield 17, 3) := by decide +kernel
theorem dX8_init_261 : decode cX8_init 261 = .ok (.iload_n 1, 1) := by decide +kernel
theorem dX8_init_262 : decode cX8_init 262 = .ok (.iload_n 1, 1) := by decide +kernel
theorem dX8_init_263 : decode cX8_init 263 = .ok (.bipush 9, 2) := by decide +kernel
theorem dX8_init_265 : decode cX8_init 265 = .ok (.if_icmp .ge 10, 3) := by decide +kernel
theorem dX8_init_268 : decode cX8_init 268 = .ok (.bipush 9, 2) := by decide +kernel
theorem dX8_init_270 : decode cX8_init 270 = .ok (.iload_n 1, 1) := by decide +kernel
theorem dX8_init_271 : decode cX8_init 271 = .ok (.isub, 1) := by decide +kernel
theorem dX8_init_272 : decode cX8_init 272 = .ok (.goto 4, 3) := by decide +kernel
theorem dX8_init_275 : decode cX8_init 275 = .ok (.iconst 0, 1) := by decide +kernel
theorem dX8_init_276 : decode cX8_init 276 = .ok (.iastore, 1) := by decide +kernel
theorem dX8_init_277 : decode cX8_init 277 = .ok (.iinc 1 1, 3) := by decide +kernel
theorem dX8_init_280 : decode cX8_init 280 = .ok (.goto (-29), 3) := by decide +kernel
theorem dX8_init_283 : decode cX8_init 283 = .ok (.iconst 0, 1) := by decide +kernel
theorem dX8_init_284 : decode cX8_init 284 = .ok (.istore_n 1, 1) := by decide +kernel
theorem dX8_init_285 : decode cX8_init 285 = .ok (.iload_n 1, 1) := by decide +kernel
theorem dX8_init_286 : decode cX8_init 286 = .ok (.iconst 4, 1) := by decide +kernel
theorem dX8_init_287 : decode cX8_init 287 = .ok (.if_icmp .ge 16, 3) := by decide +kernel
theorem dX8_init_290 : decode cX8_init 290 = .ok (.aload_n 0, 1) := by decide +kernel
theorem dX8_init_291 : decode cX8_init 291 = .ok (.getfield 51, 3) := by decide +kernel
theorem dX8_init_294 : decode cX8_init 294 = .ok (.iload_n 1, 1) := by decide +kernel
theorem dX8_init_295 : decode cX8_init 295 = .ok (.iconst (-1), 1) := by decide +kernel
theorem dX8_init_296 : decode cX8_init 296 = .ok (.iastore, 1) := by decide +kernel
theorem dX8_init_297 : decode cX8_init 297 = .ok (.iinc 1 1, 3) := by decide +kernel
theorem dX8_init_300 : decode cX8_init 300 = .ok (.goto (-15), 3) := by decide +kernel
theorem dX8_init_303 : decode cX8_init 303 = .ok (.return_, 1) := by decide +kernel
theorem dX8_meet_0 : decode cX8_meet 0 = .ok (.aload_n 0, 1) := by decide +kernel
theorem dX8_meet_1 : decode cX8_meet 1 = .ok (.dup, 1) := by decide +kernel
theorem dX8_meet_2 : decode cX8_meet 2 = .ok (.getfield 94, 3) := by decide +kernel
theorem dX8_meet_5 : decode cX8_meet 5 = .ok (.iconst 1, 1) := by decide +kernel
theorem dX8_meet_6 : decode cX8_meet 6 = .ok (.iadd, 1) := by decide +kernel
theorem dX8_meet_7 : decode cX8_meet 7 = .ok (.putfield 94, 3) := by decide +kernel
theorem dX8_meet_10 : decode cX8_meet 10 = .ok (.iload_n 1, 1) := by decide +kernel
theorem dX8_meet_11 : decode cX8_meet 11 = .ok (.ireturn, 1) := by decide +kernel
theorem dX8_isIn_0 : decode cX8_isIn 0 = .ok (.iload_n 0, 1) := by decide +kernel
theorem dX8_isIn_1 : decode cX8_isIn 1 = .ok (.iload_n 1, 1) := by decide +kernel
theorem dX8_isIn_2 : decode cX8_isIn 2 = .ok (.if_icmp .lt 12, 3) := by decide +kernel
theorem dX8_isIn_5 : decode cX8_isIn 5 = .ok (.iload_n 0, 1) := by decide +kernel
theorem dX8_isIn_6 : decode cX8_isIn 6 = .ok (.iload_n 2, 1) := by decide +kernel
theorem dX8_isIn_7 : decode cX8_isIn 7 = .ok (.if_icmp .gt 7, 3) := by decide +kernel
theorem dX8_isIn_10 : decode cX8_isIn 10 = .ok (.iconst 1, 1) := by decide +kernel
theorem dX8_isIn_11 : decode cX8_isIn 11 = .ok (.goto 4, 3) := by decide +kernel
theorem dX8_isIn_14 : decode cX8_isIn 14 = .ok (.iconst 0, 1) := by decide +kernel
theorem dX8_isIn_15 : decode cX8_isIn 15 = .ok (.ireturn, 1) := by decide +kernel
theorem dX8_isFind_0 : decode cX8_isFind 0 = .ok (.iload_n 1, 1) := by decide +kernel
theorem dX8_isFind_1 : decode cX8_isFind 1 = .ok (.ifCond .lt 15, 3) := by decide +kernel
theorem dX8_isFind_4 : decode cX8_isFind 4 = .ok (.iload_n 1, 1) := by decide +kernel
theorem dX8_isFind_5 : decode cX8_isFind 5 = .ok (.aload_n 0, 1) := by decide +kernel
theorem dX8_isFind_6 : decode cX8_isFind 6 = .ok (.getfield 97, 3) := by decide +kernel
theorem dX8_isFind_9 : decode cX8_isFind 9 = .ok (.if_icmp .ge 7, 3) := by decide +kernel
theorem dX8_isFind_12 : decode cX8_isFind 12 = .ok (.iconst 1, 1) := by decide +kernel
theorem dX8_isFind_13 : decode cX8_isFind 13 = .ok (.goto 4, 3) := by decide +kernel
theorem dX8_isFind_16 : decode cX8_isFind 16 = .ok (.iconst 0, 1) := by decide +kernel
theorem dX8_isFind_17 : decode cX8_isFind 17 = .ok (.ireturn, 1) := by decide +kernel
theorem dX8_isYear_0 : decode cX8_isYear 0 = .ok (.iload_n 1, 1) := by decide +kernel
theorem dX8_isYear_1 : decode cX8_isYear 1 = .ok (.ifCond .lt 15, 3) := by decide +kernel
theorem dX8_isYear_4 : decode cX8_isYear 4 = .ok (.iload_n 1, 1) := by decide +kernel
theorem dX8_isYear_5 : decode cX8_isYear 5 = .ok (.aload_n 0, 1) := by decide +kernel
theorem dX8_isYear_6 : decode cX8_isYear 6 = .ok (.getfield 7, 3) := by decide +kernel
theorem dX8_isYear_9 : decode cX8_isYear 9 = .ok (.if_icmp .ge 7, 3) := by decide +kernel
theorem dX8_isYear_12 : decode cX8_isYear 12 = .ok (.iconst 1, 1) := by decide +kernel
theorem dX8_isYear_13 : decode cX8_isYear 13 = .ok (.goto 4, 3) := by decide +kernel
theorem dX8_isYear_16 : decode cX8_isYear 16 = .ok (.iconst 0, 1) := by decide +kernel
theorem dX8_isYear_17 : decode cX8_isYear 17 = .ok (.ireturn, 1) := by decide +kernel
theorem dX8_years_0 : decode cX8_years 0 = .ok (.iload_n 1, 1) := by decide +kernel
theorem dX8_years_1 : decode cX8_years 1 = .ok (.iconst 1, 1) := by decide +kernel
theorem dX8_years_2 : decode cX8_years 2 = .ok (.bipush 40, 2) := by decide +kernel
theorem dX8_years_4 : decode cX8_years 4 = .ok (.invokestatic 100, 3) := by decide +kernel
theorem dX8_years_7 : decode cX8_years 7 = .ok (.ifCond .ne 6, 3) := by decide +kernel
theorem dX8_years_10 : decode cX8_years 10 = .ok (.bipush (-2), 2) := by decide +kernel
theorem dX8_years_12 : decode cX8_years 12 = .ok (.ireturn, 1) := by decide +kernel
theorem dX8_years_13 : decode cX8_years 13 = .ok (.aload_n 0, 1) := by decide +kernel
theorem dX8_years_14 : decode cX8_years 14 = .ok (.getfield 7, 3) := by decide +kernel
theorem dX8_years_17 : decode cX8_years 17 = .ok (.istore_n 2, 1) := by decide +kernel
theorem dX8_years_18 : decode cX8_years 18 = .ok (.aload_n 0, 1) := by decide +kernel
theorem dX8_years_19 : decode cX8_years 19 = .ok (.iload_n 1, 1) := by decide +kernel
theorem dX8_years_20 : decode cX8_years 20 = .ok (.putfield 7, 3) := by decide +kernel
theorem dX8_years_23 : decode cX8_years 23 = .ok (.iload_n 2, 1) := by decide +kernel
theorem dX8_years_24 : decode cX8_years 24 = .ok (.ireturn, 1) := by decide +kernel
theorem dX8_curve_0 : decode cX8_curve 0 = .ok (.iload_n 1, 1) := by decide +kernel
theorem dX8_curve_1 : decode cX8_curve 1 = .ok (.iconst 0, 1) := by decide +kernel
theorem dX8_curve_2 : decode cX8_curve 2 = .ok (.bipush 39, 2) := by decide +kernel
theorem dX8_curve_4 : decode cX8_curve 4 = .ok (.invokestatic 100, 3) := by decide +kernel
theorem dX8_curve_7 : decode cX8_curve 7 = .ok (.ifCond .eq 14, 3) := by decide +kernel
theorem dX8_curve_10 : decode cX8_curve 10 = .ok (.iload_n 2, 1) := by decide +kernel
theorem dX8_curve_11 : decode cX8_curve 11 = .ok (.iconst 0, 1) := by decide +kernel
theorem dX8_curve_12 : decode cX8_curve 12 = .ok (.sipush 2000, 3) := by decide +kernel
theorem dX8_curve_15 : decode cX8_curve 15 = .ok (.invokestatic 100, 3) := by decide +kernel
theorem dX8_curve_18 : decode cX8_curve 18 = .ok (.ifCond .ne 6, 3) := by decide +kernel
theorem dX8_curve_21 : decode cX8_curve 21 = .ok (.bipush (-2), 2) := by decide +kernel
theorem dX8_curve_23 : decode cX8_curve 23 = .ok (.ireturn, 1) := by decide +kernel
theorem dX8_curve_24 : decode cX8_curve 24 = .ok (.aload_n 0, 1) := by decide +kernel
theorem dX8_curve_25 : decode cX8_curve 25 = .ok (.getfield 13, 3) := by decide +kernel
theorem dX8_curve_28 : decode cX8_curve 28 = .ok (.iload_n 1, 1) := by decide +kernel
theorem dX8_curve_29 : decode cX8_curve 29 = .ok (.iaload, 1) := by decide +kernel
theorem dX8_curve_30 : decode cX8_curve 30 = .ok (.istore_n 3, 1) := by decide +kernel
theorem dX8_curve_31 : decode cX8_curve 31 = .ok (.aload_n 0, 1) := by decide +kernel
theorem dX8_curve_32 : decode cX8_curve 32 = .ok (.getfield 13, 3) := by decide +kernel
theorem dX8_curve_35 : decode cX8_curve 35 = .ok (.iload_n 1, 1) := by decide +kernel
theorem dX8_curve_36 : decode cX8_curve 36 = .ok (.iload_n 2, 1) := by decide +kernel
theorem dX8_curve_37 : decode cX8_curve 37 = .ok (.iastore, 1) := by decide +kernel
theorem dX8_curve_38 : decode cX8_curve 38 = .ok (.iload_n 3, 1) := by decide +kernel
theorem dX8_curve_39 : decode cX8_curve 39 = .ok (.ireturn, 1) := by decide +kernel
theorem dX8_miss_0 : decode cX8_miss 0 = .ok (.iload_n 1, 1) := by decide +kernel
theorem dX8_miss_1 : decode cX8_miss 1 = .ok (.iconst 0, 1) := by decide +kernel
theorem dX8_miss_2 : decode cX8_miss 2 = .ok (.bipush 20, 2) := by decide +kernel
theorem dX8_miss_4 : decode cX8_miss 4 = .ok (.invokestatic 100, 3) := by decide +kernel
theorem dX8_miss_7 : decode cX8_miss 7 = .ok (.ifCond .eq 13, 3) := by decide +kernel
theorem dX8_miss_10 : decode cX8_miss 10 = .ok (.iload_n 2, 1) := by decide +kernel
theorem dX8_miss_11 : decode cX8_miss 11 = .ok (.iconst 0, 1) := by decide +kernel
theorem dX8_miss_12 : decode cX8_miss 12 = .ok (.bipush 9, 2) := by decide +kernel
theorem dX8_miss_14 : decode cX8_miss 14 = .ok (.invokestatic 100, 3) := by decide +kernel
theorem dX8_miss_17 : decode cX8_miss 17 = .ok (.ifCond .ne 6, 3) := by decide +kernel
theorem dX8_miss_20 : decode cX8_miss 20 = .ok (.bipush (-2), 2) := by decide +kernel
theorem dX8_miss_22 : decode cX8_miss 22 = .ok (.ireturn, 1) := by decide +kernel
theorem dX8_miss_23 : decode cX8_miss 23 = .ok (.aload_n 0, 1) := by decide +kernel
theorem dX8_miss_24 : decode cX8_miss 24 = .ok (.getfield 17, 3) := by decide +kernel
theorem dX8_miss_27 : decode cX8_miss 27 = .ok (.iload_n 1, 1) := by decide +kernel
theorem dX8_miss_28 : decode cX8_miss 28 = .ok (.iaload, 1) := by decide +kernel
theorem dX8_miss_29 : decode cX8_miss 29 = .ok (.istore_n 3, 1) := by decide +kernel
theorem dX8_miss_30 : decode cX8_miss 30 = .ok (.aload_n 0, 1) := by decide +kernel
theorem dX8_miss_31 : decode cX8_miss 31 = .ok (.getfield 17, 3) := by decide +kernel
theorem dX8_miss_34 : decode cX8_miss 34 = .ok (.iload_n 1, 1) := by decide +kernel
theorem dX8_miss_35 : decode cX8_miss 35 = .ok (.iload_n 2, 1) := by decide +kernel
theorem dX8_miss_36 : decode cX8_miss 36 = .ok (.iastore, 1) := by decide +kernel
theorem dX8_miss_37 : decode cX8_miss 37 = .ok (.iload_n 3, 1) := by decide +kernel
theorem dX8_miss_38 : decode cX8_miss 38 = .ok (.ireturn, 1) := by decide +kernel
theorem dX8_isSheet_0 : decode cX8_isSheet 0 = .ok (.iload_n 0, 1) := by decide +kernel
theorem dX8_isSheet_1 : decode cX8_isSheet 1 = .ok (.ifCond .lt 12, 3) := by decide +kernel
theorem dX8_isSheet_4 : decode cX8_isSheet 4 = .ok (.iload_n 0, 1) := by decide +kernel
theorem dX8_isSheet_5 : decode cX8_isSheet 5 = .ok (.iconst 4, 1) := by decide +kernel
theorem dX8_isSheet_6 : decode cX8_isSheet 6 = .ok (.if_icmp .ge 7, 3) := by decide +kernel
theorem dX8_isSheet_9 : decode cX8_isSheet 9 = .ok (.iconst 1, 1) := by decide +kernel
theorem dX8_isSheet_10 : decode cX8_isSheet 10 = .ok (.goto 4, 3) := by decide +kernel
theorem dX8_isSheet_13 : decode cX8_isSheet 13 = .ok (.iconst 0, 1) := by decide +kernel
theorem dX8_isSheet_14 : decode cX8_isSheet 14 = .ok (.ireturn, 1) := by decide +kernel
theorem dX8_sheet_0 : decode cX8_sheet 0 = .ok (.iload_n 1, 1) := by decide +kernel
theorem dX8_sheet_1 : decode cX8_sheet 1 = .ok (.invokestatic 104, 3) := by decide +kernel
theorem dX8_sheet_4 : decode cX8_sheet 4 = .ok (.ifCond .eq 18, 3) := by decide +kernel
theorem dX8_sheet_7 : decode cX8_sheet 7 = .ok (.iload_n 2, 1) := by decide +kernel
theorem dX8_sheet_8 : decode cX8_sheet 8 = .ok (.iconst 0, 1) := by decide +kernel
theorem dX8_sheet_9 : decode cX8_sheet 9 = .ok (.iconst 3, 1) := by decide +kernel
theorem dX8_sheet_10 : decode cX8_sheet 10 = .ok (.invokestatic 100, 3) := by decide +kernel
theorem dX8_sheet_13 : decode cX8_sheet 13 = .ok (.ifCond .eq 9, 3) := by decide +kernel
theorem dX8_sheet_16 : decode cX8_sheet 16 = .ok (.iload_n 3, 1) := by decide +kernel
theorem dX8_sheet_17 : decode cX8_sheet 17 = .ok (.bipush 60, 2) := by decide +kernel
theorem dX8_sheet_19 : decode cX8_sheet 19 = .ok (.if_icmp .le 6, 3) := by decide +kernel
theorem dX8_sheet_22 : decode cX8_sheet 22 = .ok (.bipush (-2), 2) := by decide +kernel
theorem dX8_sheet_24 : decode cX8_sheet 24 = .ok (.ireturn, 1) := by decide +kernel
theorem dX8_sheet_25 : decode cX8_sheet 25 = .ok (.iload_n 3, 1) := by decide +kernel
theorem dX8_sheet_26 : decode cX8_sheet 26 = .ok (.ifCond .ge 10, 3) := by decide +kernel
theorem dX8_sheet_29 : decode cX8_sheet 29 = .ok (.aload_n 0, 1) := by decide +kernel
theorem dX8_sheet_30 : decode cX8_sheet 30 = .ok (.bipush (-13), 2) := by decide +kernel
theorem dX8_sheet_32 : decode cX8_sheet 32 = .ok (.invokevirtual 108, 3) := by decide +kernel
theorem dX8_sheet_35 : decode cX8_sheet 35 = .ok (.ireturn, 1) := by decide +kernel
theorem dX8_sheet_36 : decode cX8_sheet 36 = .ok (.aload_n 0, 1) := by decide +kernel
theorem dX8_sheet_37 : decode cX8_sheet 37 = .ok (.getfield 48, 3) := by decide +kernel
theorem dX8_sheet_40 : decode cX8_sheet 40 = .ok (.iload_n 1, 1) := by decide +kernel
theorem dX8_sheet_41 : decode cX8_sheet 41 = .ok (.iload_n 2, 1) := by decide +kernel
theorem dX8_sheet_42 : decode cX8_sheet 42 = .ok (.iastore, 1) := by decide +kernel
theorem dX8_sheet_43 : decode cX8_sheet 43 = .ok (.aload_n 0, 1) := by decide +kernel
theorem dX8_sheet_44 : decode cX8_sheet 44 = .ok (.getfield 51, 3) := by decide +kernel
theorem dX8_sheet_47 : decode cX8_sheet 47 = .ok (.iload_n 1, 1) := by decide +kernel
theorem dX8_sheet_48 : decode cX8_sheet 48 = .ok (.iload_n 3, 1) := by decide +kernel
theorem dX8_sheet_49 : decode cX8_sheet 49 = .ok (.iastore, 1) := by decide +kernel
theorem dX8_sheet_50 : decode cX8_sheet 50 = .ok (.iconst 0, 1) := by decide +kernel
theorem dX8_sheet_51 : decode cX8_sheet 51 = .ok (.istore 4, 2) := by decide +kernel
theorem dX8_sheet_53 : decode cX8_sheet 53 = .ok (.iload 4, 2) := by decide +kernel
theorem dX8_sheet_55 : decode cX8_sheet 55 = .ok (.iload_n 3, 1) := by decide +kernel
theorem dX8_sheet_56 : decode cX8_sheet 56 = .ok (.if_icmp .ge 22, 3) := by decide +kernel
theorem dX8_sheet_59 : decode cX8_sheet 59 = .ok (.aload_n 0, 1) := by decide +kernel
theorem dX8_sheet_60 : decode cX8_sheet 60 = .ok (.getfield 54, 3) := by decide +kernel
theorem dX8_sheet_63 : decode cX8_sheet 63 = .ok (.bipush 60, 2) := by decide +kernel
theorem dX8_sheet_65 : decode cX8_sheet 65 = .ok (.iload_n 1, 1) := by decide +kernel
theorem dX8_sheet_66 : decode cX8_sheet 66 = .ok (.imul, 1) := by decide +kernel
theorem dX8_sheet_67 : decode cX8_sheet 67 = .ok (.iload 4, 2) := by decide +kernel
theorem dX8_sheet_69 : decode cX8_sheet 69 = .ok (.iadd, 1) := by decide +kernel
theorem dX8_sheet_70 : decode cX8_sheet 70 = .ok (.iconst 0, 1) := by decide +kernel
theorem dX8_sheet_71 : decode cX8_sheet 71 = .ok (.iastore, 1) := by decide +kernel
theorem dX8_sheet_72 : decode cX8_sheet 72 = .ok (.iinc 4 1, 3) := by decide +kernel
theorem dX8_sheet_75 : decode cX8_sheet 75 = .ok (.goto (-22), 3) := by decide +kernel
theorem dX8_sheet_78 : decode cX8_sheet 78 = .ok (.iload_n 3, 1) := by decide +kernel
theorem dX8_sheet_79 : decode cX8_sheet 79 = .ok (.ireturn, 1) := by decide +kernel
theorem dX8_write_0 : decode cX8_write 0 = .ok (.iload_n 1, 1) := by decide +kernel
theorem dX8_write_1 : decode cX8_write 1 = .ok (.invokestatic 104, 3) := by decide +kernel
theorem dX8_write_4 : decode cX8_write 4 = .ok (.ifCond .ne 6, 3) := by decide +kernel
theorem dX8_write_7 : decode cX8_write 7 = .ok (.bipush (-2), 2) := by decide +kernel
theorem dX8_write_9 : decode cX8_write 9 = .ok (.ireturn, 1) := by decide +kernel
theorem dX8_write_10 : decode cX8_write 10 = .ok (.aload_n 0, 1) := by decide +kernel
theorem dX8_write_11 : decode cX8_write 11 = .ok (.getfield 51, 3) := by decide +kernel
theorem dX8_write_14 : decode cX8_write 14 = .ok (.iload_n 1, 1) := by decide +kernel
theorem dX8_write_15 : decode cX8_write 15 = .ok (.iaload, 1) := by decide +kernel
theorem dX8_write_16 : decode cX8_write 16 = .ok (.ifCond .ge 10, 3) := by decide +kernel
theorem dX8_write_19 : decode cX8_write 19 = .ok (.aload_n 0, 1) := by decide +kernel
theorem dX8_write_20 : decode cX8_write 20 = .ok (.bipush (-10), 2) := by decide +kernel
theorem dX8_write_22 : decode cX8_write 22 = .ok (.invokevirtual 108, 3) := by decide +kernel
theorem dX8_write_25 : decode cX8_write 25 = .ok (.ireturn, 1) := by decide +kernel
theorem dX8_write_26 : decode cX8_write 26 = .ok (.iload_n 2, 1) := by decide +kernel
theorem dX8_write_27 : decode cX8_write 27 = .ok (.ifCond .lt 13, 3) := by decide +kernel
theorem dX8_write_30 : decode cX8_write 30 = .ok (.iload_n 2, 1) := by decide +kernel
theorem dX8_write_31 : decode cX8_write 31 = .ok (.aload_n 0, 1) := by decide +kernel
theorem dX8_write_32 : decode cX8_write 32 = .ok (.getfield 51, 3) := by decide +kernel
theorem dX8_write_35 : decode cX8_write 35 = .ok (.iload_n 1, 1) := by decide +kernel
theorem dX8_write_36 : decode cX8_write 36 = .ok (.iaload, 1) := by decide +kernel
theorem dX8_write_37 : decode cX8_write 37 = .ok (.if_icmp .lt 10, 3) := by decide +kernel
theorem dX8_write_40 : decode cX8_write 40 = .ok (.aload_n 0, 1) := by decide +kernel
theorem dX8_write_41 : decode cX8_write 41 = .ok (.bipush (-11), 2) := by decide +kernel
theorem dX8_write_43 : decode cX8_write 43 = .ok (.invokevirtual 108, 3) := by decide +kernel
theorem dX8_write_46 : decode cX8_write 46 = .ok (.ireturn, 1) := by decide +kernel
theorem dX8_write_47 : decode cX8_write 47 = .ok (.aload_n 0, 1) := by decide +kernel
theorem dX8_write_48 : decode cX8_write 48 = .ok (.getfield 54, 3) := by decide +kernel
theorem dX8_write_51 : decode cX8_write 51 = .ok (.bipush 60, 2) := by decide +kernel
theorem dX8_write_53 : decode cX8_write 53 = .ok (.iload_n 1, 1) := by decide +kernel
theorem dX8_write_54 : decode cX8_write 54 = .ok (.imul, 1) := by decide +kernel
theorem dX8_write_55 : decode cX8_write 55 = .ok (.iload_n 2, 1) := by decide +kernel
theorem dX8_write_56 : decode cX8_write 56 = .ok (.iadd, 1) := by decide +kernel
theorem dX8_write_57 : decode cX8_write 57 = .ok (.iaload, 1) := by decide +kernel
theorem dX8_write_58 : decode cX8_write 58 = .ok (.istore 4, 2) := by decide +kernel
theorem dX8_write_60 : decode cX8_write 60 = .ok (.aload_n 0, 1) := by decide +kernel
theorem dX8_write_61 : decode cX8_write 61 = .ok (.getfield 48, 3) := by decide +kernel
theorem dX8_write_64 : decode cX8_write 64 = .ok (.iload_n 1, 1) := by decide +kernel
theorem dX8_write_65 : decode cX8_write 65 = .ok (.iaload, 1) := by decide +kernel
theorem dX8_write_66 : decode cX8_write 66 = .ok (.istore 5, 2) := by decide +kernel
theorem dX8_write_68 : decode cX8_write 68 = .ok (.aload_n 0, 1) := by decide +kernel
theorem dX8_write_69 : decode cX8_write 69 = .ok (.getfield 54, 3) := by decide +kernel
theorem dX8_write_72 : decode cX8_write 72 = .ok (.bipush 60, 2) := by decide +kernel
theorem dX8_write_74 : decode cX8_write 74 = .ok (.iload_n 1, 1) := by decide +kernel
theorem dX8_write_75 : decode cX8_write 75 = .ok (.imul, 1) := by decide +kernel
theorem dX8_write_76 : decode cX8_write 76 = .ok (.iload_n 2, 1) := by decide +kernel
theorem dX8_write_77 : decode cX8_write 77 = .ok (.iadd, 1) := by decide +kernel
theorem dX8_write_78 : decode cX8_write 78 = .ok (.iload 5, 2) := by decide +kernel
theorem dX8_write_80 : decode cX8_write 80 = .ok (.ifCond .ne 8, 3) := by decide +kernel
theorem dX8_write_83 : decode cX8_write 83 = .ok (.iload_n 3, 1) := by decide +kernel
theorem dX8_write_84 : decode cX8_write 84 = .ok (.i2b, 1) := by decide +kernel
theorem dX8_write_85 : decode cX8_write 85 = .ok (.goto 28, 3) := by decide +kernel
theorem dX8_write_88 : decode cX8_write 88 = .ok (.iload 5, 2) := by decide +kernel
theorem dX8_write_90 : decode cX8_write 90 = .ok (.iconst 1, 1) := by decide +kernel
theorem dX8_write_91 : decode cX8_write 91 = .ok (.if_icmp .ne 8, 3) := by decide +kernel
theorem dX8_write_94 : decode cX8_write 94 = .ok (.iload_n 3, 1) := by decide +kernel
theorem dX8_write_95 : decode cX8_write 95 = .ok (.i2s, 1) := by decide +kernel
theorem dX8_write_96 : decode cX8_write 96 = .ok (.goto 17, 3) := by decide +kernel
theorem dX8_write_99 : decode cX8_write 99 = .ok (.iload 5, 2) := by decide +kernel
theorem dX8_write_101 : decode cX8_write 101 = .ok (.iconst 2, 1) := by decide +kernel
theorem dX8_write_102 : decode cX8_write 102 = .ok (.if_icmp .ne 10, 3) := by decide +kernel
theorem dX8_write_105 : decode cX8_write 105 = .ok (.iload_n 3, 1) := by decide +kernel
theorem dX8_write_106 : decode cX8_write 106 = .ok (.ldc 112, 2) := by decide +kernel
theorem dX8_write_108 : decode cX8_write 108 = .ok (.iand, 1) := by decide +kernel
theorem dX8_write_109 : decode cX8_write 109 = .ok (.goto 4, 3) := by decide +kernel
theorem dX8_write_112 : decode cX8_write 112 = .ok (.iload_n 3, 1) := by decide +kernel
theorem dX8_write_113 : decode cX8_write 113 = .ok (.iastore, 1) := by decide +kernel
theorem dX8_write_114 : decode cX8_write 114 = .ok (.iload 4, 2) := by decide +kernel
theorem dX8_write_116 : decode cX8_write 116 = .ok (.ireturn, 1) := by decide +kernel
theorem dX8_lose_0 : decode cX8_lose 0 = .ok (.iload_n 1, 1) := by decide +kernel
theorem dX8_lose_1 : decode cX8_lose 1 = .ok (.invokestatic 104, 3) := by decide +kernel
theorem dX8_lose_4 : decode cX8_lose 4 = .ok (.ifCond .ne 6, 3) := by decide +kernel
theorem dX8_lose_7 : decode cX8_lose 7 = .ok (.bipush (-2), 2) := by decide +kernel
theorem dX8_lose_9 : decode cX8_lose 9 = .ok (.ireturn, 1) := by decide +kernel
theorem dX8_lose_10 : decode cX8_lose 10 = .ok (.aload_n 0, 1) := by decide +kernel
theorem dX8_lose_11 : decode cX8_lose 11 = .ok (.getfield 51, 3) := by decide +kernel
theorem dX8_lose_14 : decode cX8_lose 14 = .ok (.iload_n 1, 1) := by decide +kernel
theorem dX8_lose_15 : decode cX8_lose 15 = .ok (.iaload, 1) := by decide +kernel
theorem dX8_lose_16 : decode cX8_lose 16 = .ok (.ifCond .lt 7, 3) := by decide +kernel
theorem dX8_lose_19 : decode cX8_lose 19 = .ok (.iconst 1, 1) := by decide +kernel
theorem dX8_lose_20 : decode cX8_lose 20 = .ok (.goto 4, 3) := by decide +kernel
theorem dX8_lose_23 : decode cX8_lose 23 = .ok (.iconst 0, 1) := by decide +kernel
theorem dX8_lose_24 : decode cX8_lose 24 = .ok (.istore_n 2, 1) := by decide +kernel
theorem dX8_lose_25 : decode cX8_lose 25 = .ok (.aload_n 0, 1) := by decide +kernel
theorem dX8_lose_26 : decode cX8_lose 26 = .ok (.getfield 51, 3) := by decide +kernel
theorem dX8_lose_29 : decode cX8_lose 29 = .ok (.iload_n 1, 1) := by decide +kernel
theorem dX8_lose_30 : decode cX8_lose 30 = .ok (.iconst (-1), 1) := by decide +kernel
theorem dX8_lose_31 : decode cX8_lose 31 = .ok (.iastore, 1) := by decide +kernel
theorem dX8_lose_32 : decode cX8_lose 32 = .ok (.iload_n 2, 1) := by decide +kernel
theorem dX8_lose_33 : decode cX8_lose 33 = .ok (.ireturn, 1) := by decide +kernel
theorem dX8_lay_0 : decode cX8_lay 0 = .ok (.iload_n 1, 1) := by decide +kernel
theorem dX8_lay_1 : decode cX8_lay 1 = .ok (.invokestatic 104, 3) := by decide +kernel
theorem dX8_lay_4 : decode cX8_lay 4 = .ok (.ifCond .eq 37, 3) := by decide +kernel
theorem dX8_lay_7 : decode cX8_lay 7 = .ok (.iload_n 2, 1) := by decide +kernel
theorem dX8_lay_8 : decode cX8_lay 8 = .ok (.iconst 0, 1) := by decide +kernel
theorem dX8_lay_9 : decode cX8_lay 9 = .ok (.iconst 3, 1) := by decide +kernel
theorem dX8_lay_10 : decode cX8_lay 10 = .ok (.invokestatic 100, 3) := by decide +kernel
theorem dX8_lay_13 : decode cX8_lay 13 = .ok (.ifCond .eq 28, 3) := by decide +kernel
theorem dX8_lay_16 : decode cX8_lay 16 = .ok (.iload 4, 2) := by decide +kernel
theorem dX8_lay_18 : decode cX8_lay 18 = .ok (.iconst 0, 1) := by decide +kernel
theorem dX8_lay_19 : decode cX8_lay 19 = .ok (.bipush 39, 2) := by decide +kernel
theorem dX8_lay_21 : decode cX8_lay 21 = .ok (.invokestatic 100, 3) := by decide +kernel
theorem dX8_lay_24 : decode cX8_lay 24 = .ok (.ifCond .eq 17, 3) := by decide +kernel
theorem dX8_lay_27 : decode cX8_lay 27 = .ok (.iload 5, 2) := by decide +kernel
theorem dX8_lay_29 : decode cX8_lay 29 = .ok (.iconst 0, 1) := by decide +kernel
theorem dX8_lay_30 : decode cX8_lay 30 = .ok (.bipush 40, 2) := by decide +kernel
theorem dX8_lay_32 : decode cX8_lay 32 = .ok (.iload 4, 2) := by decide +kernel
theorem dX8_lay_34 : decode cX8_lay 34 = .ok (.isub, 1) := by decide +kernel
theorem dX8_lay_35 : decode cX8_lay 35 = .ok (.invokestatic 100, 3) := by decide +kernel
theorem dX8_lay_38 : decode cX8_lay 38 = .ok (.ifCond .ne 6, 3) := by decide +kernel
theorem dX8_lay_41 : decode cX8_lay 41 = .ok (.bipush (-2), 2) := by decide +kernel
theorem dX8_lay_43 : decode cX8_lay 43 = .ok (.ireturn, 1) := by decide +kernel
theorem dX8_lay_44 : decode cX8_lay 44 = .ok (.aload_n 0, 1) := by decide +kernel
theorem dX8_lay_45 : decode cX8_lay 45 = .ok (.getfield 51, 3) := by decide +kernel
theorem dX8_lay_48 : decode cX8_lay 48 = .ok (.iload_n 1, 1) := by decide +kernel
theorem dX8_lay_49 : decode cX8_lay 49 = .ok (.iaload, 1) := by decide +kernel
theorem dX8_lay_50 : decode cX8_lay 50 = .ok (.ifCond .ge 10, 3) := by decide +kernel
theorem dX8_lay_53 : decode cX8_lay 53 = .ok (.aload_n 0, 1) := by decide +kernel
theorem dX8_lay_54 : decode cX8_lay 54 = .ok (.bipush (-10), 2) := by decide +kernel
theorem dX8_lay_56 : decode cX8_lay 56 = .ok (.invokevirtual 108, 3) := by decide +kernel
theorem dX8_lay_59 : decode cX8_lay 59 = .ok (.ireturn, 1) := by decide +kernel
theorem dX8_lay_60 : decode cX8_lay 60 = .ok (.aload_n 0, 1) := by decide +kernel
theorem dX8_lay_61 : decode cX8_lay 61 = .ok (.getfield 48, 3) := by decide +kernel
theorem dX8_lay_64 : decode cX8_lay 64 = .ok (.iload_n 1, 1) := by decide +kernel
theorem dX8_lay_65 : decode cX8_lay 65 = .ok (.iaload, 1) := by decide +kernel
theorem dX8_lay_66 : decode cX8_lay 66 = .ok (.iload_n 2, 1) := by decide +kernel
theorem dX8_lay_67 : decode cX8_lay 67 = .ok (.if_icmp .eq 10, 3) := by decide +kernel
theorem dX8_lay_70 : decode cX8_lay 70 = .ok (.aload_n 0, 1) := by decide +kernel
theorem dX8_lay_71 : decode cX8_lay 71 = .ok (.bipush (-12), 2) := by decide +kernel
theorem dX8_lay_73 : decode cX8_lay 73 = .ok (.invokevirtual 108, 3) := by decide +kernel
theorem dX8_lay_76 : decode cX8_lay 76 = .ok (.ireturn, 1) := by decide +kernel
theorem dX8_lay_77 : decode cX8_lay 77 = .ok (.iload 5, 2) := by decide +kernel
theorem dX8_lay_79 : decode cX8_lay 79 = .ok (.ifCond .le 27, 3) := by decide +kernel
theorem dX8_lay_82 : decode cX8_lay 82 = .ok (.iload_n 3, 1) := by decide +kernel
theorem dX8_lay_83 : decode cX8_lay 83 = .ok (.ifCond .lt 16, 3) := by decide +kernel
theorem dX8_lay_86 : decode cX8_lay 86 = .ok (.iload_n 3, 1) := by decide +kernel
theorem dX8_lay_87 : decode cX8_lay 87 = .ok (.aload_n 0, 1) := by decide +kernel
theorem dX8_lay_88 : decode cX8_lay 88 = .ok (.getfield 51, 3) := by decide +kernel
theorem dX8_lay_91 : decode cX8_lay 91 = .ok (.iload_n 1, 1) := by decide +kernel
theorem dX8_lay_92 : decode cX8_lay 92 = .ok (.iaload, 1) := by decide +kernel
theorem dX8_lay_93 : decode cX8_lay 93 = .ok (.iload 5, 2) := by decide +kernel
theorem dX8_lay_95 : decode cX8_lay 95 = .ok (.isub, 1) := by decide +kernel
theorem dX8_lay_96 : decode cX8_lay 96 = .ok (.if_icmp .le 10, 3) := by decide +kernel
theorem dX8_lay_99 : decode cX8_lay 99 = .ok (.aload_n 0, 1) := by decide +kernel
theorem dX8_lay_100 : decode cX8_lay 100 = .ok (.bipush (-11), 2) := by decide +kernel
theorem dX8_lay_102 : decode cX8_lay 102 = .ok (.invokevirtual 108, 3) := by decide +kernel
theorem dX8_lay_105 : decode cX8_lay 105 = .ok (.ireturn, 1) := by decide +kernel
theorem dX8_lay_106 : decode cX8_lay 106 = .ok (.iconst 0, 1) := by decide +kernel
theorem dX8_lay_107 : decode cX8_lay 107 = .ok (.istore 6, 2) := by decide +kernel
theorem dX8_lay_109 : decode cX8_lay 109 = .ok (.iconst 0, 1) := by decide +kernel
theorem dX8_lay_110 : decode cX8_lay 110 = .ok (.istore 7, 2) := by decide +kernel
theorem dX8_lay_112 : decode cX8_lay 112 = .ok (.iload 7, 2) := by decide +kernel
theorem dX8_lay_114 : decode cX8_lay 114 = .ok (.iload 5, 2) := by decide +kernel
theorem dX8_lay_116 : decode cX8_lay 116 = .ok (.if_icmp .ge 83, 3) := by decide +kernel
theorem dX8_lay_119 : decode cX8_lay 119 = .ok (.aload_n 0, 1) := by decide +kernel
theorem dX8_lay_120 : decode cX8_lay 120 = .ok (.getfield 54, 3) := by decide +kernel
theorem dX8_lay_123 : decode cX8_lay 123 = .ok (.bipush 60, 2) := by decide +kernel
theorem dX8_lay_125 : decode cX8_lay 125 = .ok (.iload_n 1, 1) := by decide +kernel
theorem dX8_lay_126 : decode cX8_lay 126 = .ok (.imul, 1) := by decide +kernel
theorem dX8_lay_127 : decode cX8_lay 127 = .ok (.iload_n 3, 1) := by decide +kernel
theorem dX8_lay_128 : decode cX8_lay 128 = .ok (.iadd, 1) := by decide +kernel
theorem dX8_lay_129 : decode cX8_lay 129 = .ok (.iload 7, 2) := by decide +kernel
theorem dX8_lay_131 : decode cX8_lay 131 = .ok (.iadd, 1) := by decide +kernel
theorem dX8_lay_132 : decode cX8_lay 132 = .ok (.iaload, 1) := by decide +kernel
theorem dX8_lay_133 : decode cX8_lay 133 = .ok (.istore 8, 2) := by decide +kernel
theorem dX8_lay_135 : decode cX8_lay 135 = .ok (.iload 6, 2) := by decide +kernel
theorem dX8_lay_137 : decode cX8_lay 137 = .ok (.iload 8, 2) := by decide +kernel
theorem dX8_lay_139 : decode cX8_lay 139 = .ok (.ifCond .lt 11, 3) := by decide +kernel
theorem dX8_lay_142 : decode cX8_lay 142 = .ok (.iload 8, 2) := by decide +kernel
theorem dX8_lay_144 : decode cX8_lay 144 = .ok (.sipush 2000, 3) := by decide +kernel
theorem dX8_lay_147 : decode cX8_lay 147 = .ok (.if_icmp .le 7, 3) := by decide +kernel
theorem dX8_lay_150 : decode cX8_lay 150 = .ok (.iconst 1, 1) := by decide +kernel
theorem dX8_lay_151 : decode cX8_lay 151 = .ok (.goto 4, 3) := by decide +kernel
theorem dX8_lay_154 : decode cX8_lay 154 = .ok (.iconst 0, 1) := by decide +kernel
theorem dX8_lay_155 : decode cX8_lay 155 = .ok (.iadd, 1) := by decide +kernel
theorem dX8_lay_156 : decode cX8_lay 156 = .ok (.istore 6, 2) := by decide +kernel
theorem dX8_lay_158 : decode cX8_lay 158 = .ok (.aload_n 0, 1) := by decide +kernel
theorem dX8_lay_159 : decode cX8_lay 159 = .ok (.getfield 13, 3) := by decide +kernel
theorem dX8_lay_162 : decode cX8_lay 162 = .ok (.iload 4, 2) := by decide +kernel
theorem dX8_lay_164 : decode cX8_lay 164 = .ok (.iload 7, 2) := by decide +kernel
theorem dX8_lay_166 : decode cX8_lay 166 = .ok (.iadd, 1) := by decide +kernel
theorem dX8_lay_167 : decode cX8_lay 167 = .ok (.iload 8, 2) := by decide +kernel
theorem dX8_lay_169 : decode cX8_lay 169 = .ok (.ifCond .ge 7, 3) := by decide +kernel
theorem dX8_lay_172 : decode cX8_lay 172 = .ok (.iconst 0, 1) := by decide +kernel
theorem dX8_lay_173 : decode cX8_lay 173 = .ok (.goto 19, 3) := by decide +kernel
theorem dX8_lay_176 : decode cX8_lay 176 = .ok (.iload 8, 2) := by decide +kernel
theorem dX8_lay_178 : decode cX8_lay 178 = .ok (.sipush 2000, 3) := by decide +kernel
theorem dX8_lay_181 : decode cX8_lay 181 = .ok (.if_icmp .le 9, 3) := by decide +kernel
theorem dX8_lay_184 : decode cX8_lay 184 = .ok (.sipush 2000, 3) := by decide +kernel
theorem dX8_lay_187 : decode cX8_lay 187 = .ok (.goto 5, 3) := by decide +kernel
theorem dX8_lay_190 : decode cX8_lay 190 = .ok (.iload 8, 2) := by decide +kernel
theorem dX8_lay_192 : decode cX8_lay 192 = .ok (.iastore, 1) := by decide +kernel
theorem dX8_lay_193 : decode cX8_lay 193 = .ok (.iinc 7 1, 3) := by decide +kernel
theorem dX8_lay_196 : decode cX8_lay 196 = .ok (.goto (-84), 3) := by decide +kernel
theorem dX8_lay_199 : decode cX8_lay 199 = .ok (.iload 6, 2) := by decide +kernel
theorem dX8_lay_201 : decode cX8_lay 201 = .ok (.ireturn, 1) := by decide +kernel
theorem dX8_find_0 : decode cX8_find 0 = .ok (.iload_n 1, 1) := by decide +kernel
theorem dX8_find_1 : decode cX8_find 1 = .ok (.iconst 2, 1) := by decide +kernel
theorem dX8_find_2 : decode cX8_find 2 = .ok (.if_icmp .eq 38, 3) := by decide +kernel
theorem dX8_find_5 : decode cX8_find 5 = .ok (.iload_n 1, 1) := by decide +kernel
theorem dX8_find_6 : decode cX8_find 6 = .ok (.ifCond .eq 8, 3) := by decide +kernel
theorem dX8_find_9 : decode cX8_find 9 = .ok (.iload_n 1, 1) := by decide +kernel
theorem dX8_find_10 : decode cX8_find 10 = .ok (.iconst 1, 1) := by decide +kernel
theorem dX8_find_11 : decode cX8_find 11 = .ok (.if_icmp .ne 14, 3) := by decide +kernel
theorem dX8_find_14 : decode cX8_find 14 = .ok (.iload_n 2, 1) := by decide +kernel
theorem dX8_find_15 : decode cX8_find 15 = .ok (.iconst 0, 1) := by decide +kernel
theorem dX8_find_16 : decode cX8_find 16 = .ok (.sipush 2000, 3) := by decide +kernel
theorem dX8_find_19 : decode cX8_find 19 = .ok (.invokestatic 100, 3) := by decide +kernel
theorem dX8_find_22 : decode cX8_find 22 = .ok (.ifCond .ne 18, 3) := by decide +kernel
theorem dX8_find_25 : decode cX8_find 25 = .ok (.iload_n 1, 1) := by decide +kernel
theorem dX8_find_26 : decode cX8_find 26 = .ok (.iconst 3, 1) := by decide +kernel
theorem dX8_find_27 : decode cX8_find 27 = .ok (.if_icmp .ne 17, 3) := by decide +kernel
theorem dX8_find_30 : decode cX8_find 30 = .ok (.iload_n 2, 1) := by decide +kernel
theorem dX8_find_31 : decode cX8_find 31 = .ok (.iconst 0, 1) := by decide +kernel
theorem dX8_find_32 : decode cX8_find 32 = .ok (.bipush 39, 2) := by decide +kernel
theorem dX8_find_34 : decode cX8_find 34 = .ok (.invokestatic 100, 3) := by decide +kernel
theorem dX8_find_37 : decode cX8_find 37 = .ok (.ifCond .eq 7, 3) := by decide +kernel
theorem dX8_find_40 : decode cX8_find 40 = .ok (.iconst 1, 1) := by decide +kernel
theorem dX8_find_41 : decode cX8_find 41 = .ok (.goto 4, 3) := by decide +kernel
theorem dX8_find_44 : decode cX8_find 44 = .ok (.iconst 0, 1) := by decide +kernel
theorem dX8_find_45 : decode cX8_find 45 = .ok (.istore_n 3, 1) := by decide +kernel
theorem dX8_find_46 : decode cX8_find 46 = .ok (.iload_n 3, 1) := by decide +kernel
theorem dX8_find_47 : decode cX8_find 47 = .ok (.ifCond .eq 12, 3) := by decide +kernel
theorem dX8_find_50 : decode cX8_find 50 = .ok (.aload_n 0, 1) := by decide +kernel
theorem dX8_find_51 : decode cX8_find 51 = .ok (.getfield 97, 3) := by decide +kernel
theorem dX8_find_54 : decode cX8_find 54 = .ok (.bipush 7, 2) := by decide +kernel
theorem dX8_find_56 : decode cX8_find 56 = .ok (.if_icmp .ne 6, 3) := by decide +kernel
theorem dX8_find_59 : decode cX8_find 59 = .ok (.bipush (-2), 2) := by decide +kernel
theorem dX8_find_61 : decode cX8_find 61 = .ok (.ireturn, 1) := by decide +kernel
theorem dX8_find_62 : decode cX8_find 62 = .ok (.aload_n 0, 1) := by decide +kernel
theorem dX8_find_63 : decode cX8_find 63 = .ok (.getfield 97, 3) := by decide +kernel
theorem dX8_find_66 : decode cX8_find 66 = .ok (.istore 4, 2) := by decide +kernel
theorem dX8_find_68 : decode cX8_find 68 = .ok (.aload_n 0, 1) := by decide +kernel
theorem dX8_find_69 : decode cX8_find 69 = .ok (.getfield 20, 3) := by decide +kernel
theorem dX8_find_72 : decode cX8_find 72 = .ok (.iload 4, 2) := by decide +kernel
theorem dX8_find_74 : decode cX8_find 74 = .ok (.iload_n 1, 1) := by decide +kernel
theorem dX8_find_75 : decode cX8_find 75 = .ok (.iastore, 1) := by decide +kernel
theorem dX8_find_76 : decode cX8_find 76 = .ok (.aload_n 0, 1) := by decide +kernel
theorem dX8_find_77 : decode cX8_find 77 = .ok (.getfield 23, 3) := by decide +kernel
theorem dX8_find_80 : decode cX8_find 80 = .ok (.iload 4, 2) := by decide +kernel
theorem dX8_find_82 : decode cX8_find 82 = .ok (.iconst 0, 1) := by decide +kernel
theorem dX8_find_83 : decode cX8_find 83 = .ok (.iastore, 1) := by decide +kernel
theorem dX8_find_84 : decode cX8_find 84 = .ok (.aload_n 0, 1) := by decide +kernel
theorem dX8_find_85 : decode cX8_find 85 = .ok (.getfield 26, 3) := by decide +kernel
theorem dX8_find_88 : decode cX8_find 88 = .ok (.iload 4, 2) := by decide +kernel
theorem dX8_find_90 : decode cX8_find 90 = .ok (.iload_n 1, 1) := by decide +kernel
theorem dX8_find_91 : decode cX8_find 91 = .ok (.ifCond .eq 8, 3) := by decide +kernel
theorem dX8_find_94 : decode cX8_find 94 = .ok (.iload_n 1, 1) := by decide +kernel
theorem dX8_find_95 : decode cX8_find 95 = .ok (.iconst 1, 1) := by decide +kernel
theorem dX8_find_96 : decode cX8_find 96 = .ok (.if_icmp .ne 7, 3) := by decide +kernel
theorem dX8_find_99 : decode cX8_find 99 = .ok (.iconst 1, 1) := by decide +kernel
theorem dX8_find_100 : decode cX8_find 100 = .ok (.goto 4, 3) := by decide +kernel
theorem dX8_find_103 : decode cX8_find 103 = .ok (.iconst 0, 1) := by decide +kernel
theorem dX8_find_104 : decode cX8_find 104 = .ok (.iastore, 1) := by decide +kernel
theorem dX8_find_105 : decode cX8_find 105 = .ok (.aload_n 0, 1) := by decide +kernel
theorem dX8_find_106 : decode cX8_find 106 = .ok (.getfield 29, 3) := by decide +kernel
theorem dX8_find_109 : decode cX8_find 109 = .ok (.iconst 5, 1) := by decide +kernel
theorem dX8_find_110 : decode cX8_find 110 = .ok (.iload 4, 2) := by decide +kernel
theorem dX8_find_112 : decode cX8_find 112 = .ok (.imul, 1) := by decide +kernel
theorem dX8_find_113 : decode cX8_find 113 = .ok (.iload_n 1, 1) := by decide +kernel
theorem dX8_find_114 : decode cX8_find 114 = .ok (.iconst 2, 1) := by decide +kernel
theorem dX8_find_115 : decode cX8_find 115 = .ok (.if_icmp .ne 7, 3) := by decide +kernel
theorem dX8_find_118 : decode cX8_find 118 = .ok (.iconst 0, 1) := by decide +kernel
theorem dX8_find_119 : decode cX8_find 119 = .ok (.goto 4, 3) := by decide +kernel
theorem dX8_find_122 : decode cX8_find 122 = .ok (.iload_n 2, 1) := by decide +kernel
theorem dX8_find_123 : decode cX8_find 123 = .ok (.iastore, 1) := by decide +kernel
theorem dX8_find_124 : decode cX8_find 124 = .ok (.aload_n 0, 1) := by decide +kernel
theorem dX8_find_125 : decode cX8_find 125 = .ok (.getfield 32, 3) := by decide +kernel
theorem dX8_find_128 : decode cX8_find 128 = .ok (.iconst 5, 1) := by decide +kernel
theorem dX8_find_129 : decode cX8_find 129 = .ok (.iload 4, 2) := by decide +kernel
theorem dX8_find_131 : decode cX8_find 131 = .ok (.imul, 1) := by decide +kernel
theorem dX8_find_132 : decode cX8_find 132 = .ok (.iconst 0, 1) := by decide +kernel
theorem dX8_find_133 : decode cX8_find 133 = .ok (.iastore, 1) := by decide +kernel
theorem dX8_find_134 : decode cX8_find 134 = .ok (.iconst 0, 1) := by decide +kernel
theorem dX8_find_135 : decode cX8_find 135 = .ok (.istore 5, 2) := by decide +kernel
theorem dX8_find_137 : decode cX8_find 137 = .ok (.iload 5, 2) := by decide +kernel
theorem dX8_find_139 : decode cX8_find 139 = .ok (.bipush 7, 2) := by decide +kernel
theorem dX8_find_141 : decode cX8_find 141 = .ok (.if_icmp .ge 37, 3) := by decide +kernel
theorem dX8_find_144 : decode cX8_find 144 = .ok (.aload_n 0, 1) := by decide +kernel
theorem dX8_find_145 : decode cX8_find 145 = .ok (.getfield 35, 3) := by decide +kernel
theorem dX8_find_148 : decode cX8_find 148 = .ok (.bipush 7, 2) := by decide +kernel
theorem dX8_find_150 : decode cX8_find 150 = .ok (.iload 4, 2) := by decide +kernel
theorem dX8_find_152 : decode cX8_find 152 = .ok (.imul, 1) := by decide +kernel
theorem dX8_find_153 : decode cX8_find 153 = .ok (.iload 5, 2) := by decide +kernel
theorem dX8_find_155 : decode cX8_find 155 = .ok (.iadd, 1) := by decide +kernel
theorem dX8_find_156 : decode cX8_find 156 = .ok (.iconst 0, 1) := by decide +kernel
theorem dX8_find_157 : decode cX8_find 157 = .ok (.iastore, 1) := by decide +kernel
theorem dX8_find_158 : decode cX8_find 158 = .ok (.aload_n 0, 1) := by decide +kernel
theorem dX8_find_159 : decode cX8_find 159 = .ok (.getfield 35, 3) := by decide +kernel
theorem dX8_find_162 : decode cX8_find 162 = .ok (.bipush 7, 2) := by decide +kernel
theorem dX8_find_164 : decode cX8_find 164 = .ok (.iload 5, 2) := by decide +kernel
theorem dX8_find_166 : decode cX8_find 166 = .ok (.imul, 1) := by decide +kernel
theorem dX8_find_167 : decode cX8_find 167 = .ok (.iload 4, 2) := by decide +kernel
theorem dX8_find_169 : decode cX8_find 169 = .ok (.iadd, 1) := by decide +kernel
theorem dX8_find_170 : decode cX8_find 170 = .ok (.iconst 0, 1) := by decide +kernel
theorem dX8_find_171 : decode cX8_find 171 = .ok (.iastore, 1) := by decide +kernel
theorem dX8_find_172 : decode cX8_find 172 = .ok (.iinc 5 1, 3) := by decide +kernel
theorem dX8_find_175 : decode cX8_find 175 = .ok (.goto (-38), 3) := by decide +kernel
theorem dX8_find_178 : decode cX8_find 178 = .ok (.aload_n 0, 1) := by decide +kernel
theorem dX8_find_179 : decode cX8_find 179 = .ok (.dup, 1) := by decide +kernel
theorem dX8_find_180 : decode cX8_find 180 = .ok (.getfield 97, 3) := by decide +kernel
theorem dX8_find_183 : decode cX8_find 183 = .ok (.iconst 1, 1) := by decide +kernel
theorem dX8_find_184 : decode cX8_find 184 = .ok (.iadd, 1) := by decide +kernel
theorem dX8_find_185 : decode cX8_find 185 = .ok (.putfield 97, 3) := by decide +kernel
theorem dX8_find_188 : decode cX8_find 188 = .ok (.aload_n 0, 1) := by decide +kernel
theorem dX8_find_189 : decode cX8_find 189 = .ok (.iconst 0, 1) := by decide +kernel
theorem dX8_find_190 : decode cX8_find 190 = .ok (.putfield 113, 3) := by decide +kernel
theorem dX8_find_193 : decode cX8_find 193 = .ok (.iload 4, 2) := by decide +kernel
theorem dX8_find_195 : decode cX8_find 195 = .ok (.ireturn, 1) := by decide +kernel
theorem dX8_ring_0 : decode cX8_ring 0 = .ok (.aload_n 0, 1) := by decide +kernel
theorem dX8_ring_1 : decode cX8_ring 1 = .ok (.iload_n 1, 1) := by decide +kernel
theorem dX8_ring_2 : decode cX8_ring 2 = .ok (.invokevirtual 117, 3) := by decide +kernel
theorem dX8_ring_5 : decode cX8_ring 5 = .ok (.ifCond .eq 24, 3) := by decide +kernel
theorem dX8_ring_8 : decode cX8_ring 8 = .ok (.iload_n 2, 1) := by decide +kernel
theorem dX8_ring_9 : decode cX8_ring 9 = .ok (.iconst 0, 1) := by decide +kernel
theorem dX8_ring_10 : decode cX8_ring 10 = .ok (.sipush 2000, 3) := by decide +kernel
theorem dX8_ring_13 : decode cX8_ring 13 = .ok (.invokestatic 100, 3) := by decide +kernel
theorem dX8_ring_16 : decode cX8_ring 16 = .ok (.ifCond .eq 13, 3) := by decide +kernel
theorem dX8_ring_19 : decode cX8_ring 19 = .ok (.iload_n 3, 1) := by decide +kernel
theorem dX8_ring_20 : decode cX8_ring 20 = .ok (.iconst 0, 1) := by decide +kernel
theorem dX8_ring_21 : decode cX8_ring 21 = .ok (.bipush 39, 2) := by decide +kernel
theorem dX8_ring_23 : decode cX8_ring 23 = .ok (.invokestatic 100, 3) := by decide +kernel
theorem dX8_ring_26 : decode cX8_ring 26 = .ok (.ifCond .ne 6, 3) := by decide +kernel
theorem dX8_ring_29 : decode cX8_ring 29 = .ok (.bipush (-2), 2) := by decide +kernel
theorem dX8_ring_31 : decode cX8_ring 31 = .ok (.ireturn, 1) := by decide +kernel
theorem dX8_ring_32 : decode cX8_ring 32 = .ok (.aload_n 0, 1) := by decide +kernel
theorem dX8_ring_33 : decode cX8_ring 33 = .ok (.getfield 20, 3) := by decide +kernel
theorem dX8_ring_36 : decode cX8_ring 36 = .ok (.iload_n 1, 1) := by decide +kernel
theorem dX8_ring_37 : decode cX8_ring 37 = .ok (.iaload, 1) := by decide +kernel
theorem dX8_ring_38 : decode cX8_ring 38 = .ok (.iconst 1, 1) := by decide +kernel
theorem dX8_ring_39 : decode cX8_ring 39 = .ok (.if_icmp .eq 10, 3) := by decide +kernel
theorem dX8_ring_42 : decode cX8_ring 42 = .ok (.aload_n 0, 1) := by decide +kernel
theorem dX8_ring_43 : decode cX8_ring 43 = .ok (.bipush (-12), 2) := by decide +kernel
theorem dX8_ring_45 : decode cX8_ring 45 = .ok (.invokevirtual 108, 3) := by decide +kernel
theorem dX8_ring_48 : decode cX8_ring 48 = .ok (.ireturn, 1) := by decide +kernel
theorem dX8_ring_49 : decode cX8_ring 49 = .ok (.aload_n 0, 1) := by decide +kernel
theorem dX8_ring_50 : decode cX8_ring 50 = .ok (.getfield 26, 3) := by decide +kernel
theorem dX8_ring_53 : decode cX8_ring 53 = .ok (.iload_n 1, 1) := by decide +kernel
theorem dX8_ring_54 : decode cX8_ring 54 = .ok (.iaload, 1) := by decide +kernel
theorem dX8_ring_55 : decode cX8_ring 55 = .ok (.iconst 5, 1) := by decide +kernel
theorem dX8_ring_56 : decode cX8_ring 56 = .ok (.if_icmp .ne 6, 3) := by decide +kernel
theorem dX8_ring_59 : decode cX8_ring 59 = .ok (.bipush (-2), 2) := by decide +kernel
theorem dX8_ring_61 : decode cX8_ring 61 = .ok (.ireturn, 1) := by decide +kernel
theorem dX8_ring_62 : decode cX8_ring 62 = .ok (.aload_n 0, 1) := by decide +kernel
theorem dX8_ring_63 : decode cX8_ring 63 = .ok (.getfield 29, 3) := by decide +kernel
theorem dX8_ring_66 : decode cX8_ring 66 = .ok (.iconst 5, 1) := by decide +kernel
theorem dX8_ring_67 : decode cX8_ring 67 = .ok (.iload_n 1, 1) := by decide +kernel
theorem dX8_ring_68 : decode cX8_ring 68 = .ok (.imul, 1) := by decide +kernel
theorem dX8_ring_69 : decode cX8_ring 69 = .ok (.aload_n 0, 1) := by decide +kernel
theorem dX8_ring_70 : decode cX8_ring 70 = .ok (.getfield 26, 3) := by decide +kernel
theorem dX8_ring_73 : decode cX8_ring 73 = .ok (.iload_n 1, 1) := by decide +kernel
theorem dX8_ring_74 : decode cX8_ring 74 = .ok (.iaload, 1) := by decide +kernel
theorem dX8_ring_75 : decode cX8_ring 75 = .ok (.iadd, 1) := by decide +kernel
theorem dX8_ring_76 : decode cX8_ring 76 = .ok (.iload_n 2, 1) := by decide +kernel
theorem dX8_ring_77 : decode cX8_ring 77 = .ok (.iastore, 1) := by decide +kernel
theorem dX8_ring_78 : decode cX8_ring 78 = .ok (.aload_n 0, 1) := by decide +kernel
theorem dX8_ring_79 : decode cX8_ring 79 = .ok (.getfield 32, 3) := by decide +kernel
theorem dX8_ring_82 : decode cX8_ring 82 = .ok (.iconst 5, 1) := by decide +kernel
theorem dX8_ring_83 : decode cX8_ring 83 = .ok (.iload_n 1, 1) := by decide +kernel
theorem dX8_ring_84 : decode cX8_ring 84 = .ok (.imul, 1) := by decide +kernel
theorem dX8_ring_85 : decode cX8_ring 85 = .ok (.aload_n 0, 1) := by decide +kernel
theorem dX8_ring_86 : decode cX8_ring 86 = .ok (.getfield 26, 3) := by decide +kernel
theorem dX8_ring_89 : decode cX8_ring 89 = .ok (.iload_n 1, 1) := by decide +kernel
theorem dX8_ring_90 : decode cX8_ring 90 = .ok (.iaload, 1) := by decide +kernel
theorem dX8_ring_91 : decode cX8_ring 91 = .ok (.iadd, 1) := by decide +kernel
theorem dX8_ring_92 : decode cX8_ring 92 = .ok (.iload_n 3, 1) := by decide +kernel
theorem dX8_ring_93 : decode cX8_ring 93 = .ok (.iastore, 1) := by decide +kernel
theorem dX8_ring_94 : decode cX8_ring 94 = .ok (.aload_n 0, 1) := by decide +kernel
theorem dX8_ring_95 : decode cX8_ring 95 = .ok (.getfield 26, 3) := by decide +kernel
theorem dX8_ring_98 : decode cX8_ring 98 = .ok (.iload_n 1, 1) := by decide +kernel
theorem dX8_ring_99 : decode cX8_ring 99 = .ok (.dup2, 1) := by decide +kernel
theorem dX8_ring_100 : decode cX8_ring 100 = .ok (.iaload, 1) := by decide +kernel
theorem dX8_ring_101 : decode cX8_ring 101 = .ok (.iconst 1, 1) := by decide +kernel
theorem dX8_ring_102 : decode cX8_ring 102 = .ok (.iadd, 1) := by decide +kernel
theorem dX8_ring_103 : decode cX8_ring 103 = .ok (.iastore, 1) := by decide +kernel
theorem dX8_ring_104 : decode cX8_ring 104 = .ok (.aload_n 0, 1) := by decide +kernel
theorem dX8_ring_105 : decode cX8_ring 105 = .ok (.getfield 26, 3) := by decide +kernel
theorem dX8_ring_108 : decode cX8_ring 108 = .ok (.iload_n 1, 1) := by decide +kernel
theorem dX8_ring_109 : decode cX8_ring 109 = .ok (.iaload, 1) := by decide +kernel
theorem dX8_ring_110 : decode cX8_ring 110 = .ok (.ireturn, 1) := by decide +kernel
theorem dX8_odd_0 : decode cX8_odd 0 = .ok (.aload_n 0, 1) := by decide +kernel
theorem dX8_odd_1 : decode cX8_odd 1 = .ok (.iload_n 1, 1) := by decide +kernel
theorem dX8_odd_2 : decode cX8_odd 2 = .ok (.invokevirtual 117, 3) := by decide +kernel
theorem dX8_odd_5 : decode cX8_odd 5 = .ok (.ifCond .eq 13, 3) := by decide +kernel
theorem dX8_odd_8 : decode cX8_odd 8 = .ok (.iload_n 2, 1) := by decide +kernel
theorem dX8_odd_9 : decode cX8_odd 9 = .ok (.iconst 0, 1) := by decide +kernel
theorem dX8_odd_10 : decode cX8_odd 10 = .ok (.bipush 9, 2) := by decide +kernel
theorem dX8_odd_12 : decode cX8_odd 12 = .ok (.invokestatic 100, 3) := by decide +kernel
theorem dX8_odd_15 : decode cX8_odd 15 = .ok (.ifCond .ne 6, 3) := by decide +kernel
theorem dX8_odd_18 : decode cX8_odd 18 = .ok (.bipush (-2), 2) := by decide +kernel
theorem dX8_odd_20 : decode cX8_odd 20 = .ok (.ireturn, 1) := by decide +kernel
theorem dX8_odd_21 : decode cX8_odd 21 = .ok (.aload_n 0, 1) := by decide +kernel
theorem dX8_odd_22 : decode cX8_odd 22 = .ok (.getfield 23, 3) := by decide +kernel
theorem dX8_odd_25 : decode cX8_odd 25 = .ok (.iload_n 1, 1) := by decide +kernel
theorem dX8_odd_26 : decode cX8_odd 26 = .ok (.iaload, 1) := by decide +kernel
theorem dX8_odd_27 : decode cX8_odd 27 = .ok (.istore_n 3, 1) := by decide +kernel
theorem dX8_odd_28 : decode cX8_odd 28 = .ok (.aload_n 0, 1) := by decide +kernel
theorem dX8_odd_29 : decode cX8_odd 29 = .ok (.getfield 23, 3) := by decide +kernel
theorem dX8_odd_32 : decode cX8_odd 32 = .ok (.iload_n 1, 1) := by decide +kernel
theorem dX8_odd_33 : decode cX8_odd 33 = .ok (.iload_n 2, 1) := by decide +kernel
theorem dX8_odd_34 : decode cX8_odd 34 = .ok (.iastore, 1) := by decide +kernel
theorem dX8_odd_35 : decode cX8_odd 35 = .ok (.iload_n 3, 1) := by decide +kernel
theorem dX8_odd_36 : decode cX8_odd 36 = .ok (.ireturn, 1) := by decide +kernel
theorem dX8_pair_0 : decode cX8_pair 0 = .ok (.aload_n 0, 1) := by decide +kernel
theorem dX8_pair_1 : decode cX8_pair 1 = .ok (.iload_n 1, 1) := by decide +kernel
theorem dX8_pair_2 : decode cX8_pair 2 = .ok (.invokevirtual 117, 3) := by decide +kernel
theorem dX8_pair_5 : decode cX8_pair 5 = .ok (.ifCond .eq 25, 3) := by decide +kernel
theorem dX8_pair_8 : decode cX8_pair 8 = .ok (.aload_n 0, 1) := by decide +kernel
theorem dX8_pair_9 : decode cX8_pair 9 = .ok (.iload_n 2, 1) := by decide +kernel
theorem dX8_pair_10 : decode cX8_pair 10 = .ok (.invokevirtual 117, 3) := by decide +kernel
theorem dX8_pair_13 : decode cX8_pair 13 = .ok (.ifCond .eq 17, 3) := by decide +kernel
theorem dX8_pair_16 : decode cX8_pair 16 = .ok (.iload_n 1, 1) := by decide +kernel
theorem dX8_pair_17 : decode cX8_pair 17 = .ok (.iload_n 2, 1) := by decide +kernel
theorem dX8_pair_18 : decode cX8_pair 18 = .ok (.if_icmp .eq 12, 3) := by decide +kernel
theorem dX8_pair_21 : decode cX8_pair 21 = .ok (.iload_n 3, 1) := by decide +kernel
theorem dX8_pair_22 : decode cX8_pair 22 = .ok (.iconst 0, 1) := by decide +kernel
theorem dX8_pair_23 : decode cX8_pair 23 = .ok (.iconst 2, 1) := by decide +kernel
theorem dX8_pair_24 : decode cX8_pair 24 = .ok (.invokestatic 100, 3) := by decide +kernel
theorem dX8_pair_27 : decode cX8_pair 27 = .ok (.ifCond .ne 6, 3) := by decide +kernel
theorem dX8_pair_30 : decode cX8_pair 30 = .ok (.bipush (-2), 2) := by decide +kernel
theorem dX8_pair_32 : decode cX8_pair 32 = .ok (.ireturn, 1) := by decide +kernel
theorem dX8_pair_33 : decode cX8_pair 33 = .ok (.aload_n 0, 1) := by decide +kernel
theorem dX8_pair_34 : decode cX8_pair 34 = .ok (.getfield 35, 3) := by decide +kernel
theorem dX8_pair_37 : decode cX8_pair 37 = .ok (.bipush 7, 2) := by decide +kernel
theorem dX8_pair_39 : decode cX8_pair 39 = .ok (.iload_n 1, 1) := by decide +kernel
theorem dX8_pair_40 : decode cX8_pair 40 = .ok (.imul, 1) := by decide +kernel
theorem dX8_pair_41 : decode cX8_pair 41 = .ok (.iload_n 2, 1) := by decide +kernel
theorem dX8_pair_42 : decode cX8_pair 42 = .ok (.iadd, 1) := by decide +kernel
theorem dX8_pair_43 : decode cX8_pair 43 = .ok (.iaload, 1) := by decide +kernel
theorem dX8_pair_44 : decode cX8_pair 44 = .ok (.istore 4, 2) := by decide +kernel
theorem dX8_pair_46 : decode cX8_pair 46 = .ok (.aload_n 0, 1) := by decide +kernel
theorem dX8_pair_47 : decode cX8_pair 47 = .ok (.getfield 35, 3) := by decide +kernel
theorem dX8_pair_50 : decode cX8_pair 50 = .ok (.bipush 7, 2) := by decide +kernel
theorem dX8_pair_52 : decode cX8_pair 52 = .ok (.iload_n 1, 1) := by decide +kernel
theorem dX8_pair_53 : decode cX8_pair 53 = .ok (.imul, 1) := by decide +kernel
theorem dX8_pair_54 : decode cX8_pair 54 = .ok (.iload_n 2, 1) := by decide +kernel
theorem dX8_pair_55 : decode cX8_pair 55 = .ok (.iadd, 1) := by decide +kernel
theorem dX8_pair_56 : decode cX8_pair 56 = .ok (.iload_n 3, 1) := by decide +kernel
theorem dX8_pair_57 : decode cX8_pair 57 = .ok (.iastore, 1) := by decide +kernel
theorem dX8_pair_58 : decode cX8_pair 58 = .ok (.iload 4, 2) := by decide +kernel
theorem dX8_pair_60 : decode cX8_pair 60 = .ok (.ireturn, 1) := by decide +kernel
theorem dX8_missOf_0 : decode cX8_missOf 0 = .ok (.iload_n 1, 1) := by decide +kernel
theorem dX8_missOf_1 : decode cX8_missOf 1 = .ok (.aload_n 0, 1) := by decide +kernel
theorem dX8_missOf_2 : decode cX8_missOf 2 = .ok (.getfield 13, 3) := by decide +kernel
theorem dX8_missOf_5 : decode cX8_missOf 5 = .ok (.iload_n 2, 1) := by decide +kernel
theorem dX8_missOf_6 : decode cX8_missOf 6 = .ok (.iaload, 1) := by decide +kernel
theorem dX8_missOf_7 : decode cX8_missOf 7 = .ok (.if_icmp .le 14, 3) := by decide +kernel
theorem dX8_missOf_10 : decode cX8_missOf 10 = .ok (.iload_n 1, 1) := by decide +kernel
theorem dX8_missOf_11 : decode cX8_missOf 11 = .ok (.aload_n 0, 1) := by decide +kernel
theorem dX8_missOf_12 : decode cX8_missOf 12 = .ok (.getfield 13, 3) := by decide +kernel
theorem dX8_missOf_15 : decode cX8_missOf 15 = .ok (.iload_n 2, 1) := by decide +kernel
theorem dX8_missOf_16 : decode cX8_missOf 16 = .ok (.iaload, 1) := by decide +kernel
theorem dX8_missOf_17 : decode cX8_missOf 17 = .ok (.isub, 1) := by decide +kernel
theorem dX8_missOf_18 : decode cX8_missOf 18 = .ok (.goto 11, 3) := by decide +kernel
theorem dX8_missOf_21 : decode cX8_missOf 21 = .ok (.aload_n 0, 1) := by decide +kernel
theorem dX8_missOf_22 : decode cX8_missOf 22 = .ok (.getfield 13, 3) := by decide +kernel
theorem dX8_missOf_25 : decode cX8_missOf 25 = .ok (.iload_n 2, 1) := by decide +kernel
theorem dX8_missOf_26 : decode cX8_missOf 26 = .ok (.iaload, 1) := by decide +kernel
theorem dX8_missOf_27 : decode cX8_missOf 27 = .ok (.iload_n 1, 1) := by decide +kernel
theorem dX8_missOf_28 : decode cX8_missOf 28 = .ok (.isub, 1) := by decide +kernel
theorem dX8_missOf_29 : decode cX8_missOf 29 = .ok (.istore_n 3, 1) := by decide +kernel
theorem dX8_missOf_30 : decode cX8_missOf 30 = .ok (.iload_n 3, 1) := by decide +kernel
theorem dX8_missOf_31 : decode cX8_missOf 31 = .ok (.bipush 21, 2) := by decide +kernel
theorem dX8_missOf_33 : decode cX8_missOf 33 = .ok (.if_icmp .ge 12, 3) := by decide +kernel
theorem dX8_missOf_36 : decode cX8_missOf 36 = .ok (.aload_n 0, 1) := by decide +kernel
theorem dX8_missOf_37 : decode cX8_missOf 37 = .ok (.getfield 17, 3) := by decide +kernel
theorem dX8_missOf_40 : decode cX8_missOf 40 = .ok (.iload_n 3, 1) := by decide +kernel
theorem dX8_missOf_41 : decode cX8_missOf 41 = .ok (.iaload, 1) := by decide +kernel
theorem dX8_missOf_42 : decode cX8_missOf 42 = .ok (.goto 4, 3) := by decide +kernel
theorem dX8_missOf_45 : decode cX8_missOf 45 = .ok (.iconst 0, 1) := by decide +kernel
theorem dX8_missOf_46 : decode cX8_missOf 46 = .ok (.ireturn, 1) := by decide +kernel
theorem dX8_plain_0 : decode cX8_plain 0 = .ok (.aload_n 0, 1) := by decide +kernel
theorem dX8_plain_1 : decode cX8_plain 1 = .ok (.getfield 20, 3) := by decide +kernel
theorem dX8_plain_4 : decode cX8_plain 4 = .ok (.iload_n 1, 1) := by decide +kernel
theorem dX8_plain_5 : decode cX8_plain 5 = .ok (.iaload, 1) := by decide +kernel
theorem dX8_plain_6 : decode cX8_plain 6 = .ok (.iconst 2, 1) := by decide +kernel
theorem dX8_plain_7 : decode cX8_plain 7 = .ok (.if_icmp .lt 31, 3) := by decide +kernel
theorem dX8_plain_10 : decode cX8_plain 10 = .ok (.aload_n 0, 1) := by decide +kernel
theorem dX8_plain_11 : decode cX8_plain 11 = .ok (.getfield 20, 3) := by decide +kernel
theorem dX8_plain_14 : decode cX8_plain 14 = .ok (.iload_n 1, 1) := by decide +kernel
theorem dX8_plain_15 : decode cX8_plain 15 = .ok (.iaload, 1) := by decide +kernel
theorem dX8_plain_16 : decode cX8_plain 16 = .ok (.iconst 2, 1) := by decide +kernel
theorem dX8_plain_17 : decode cX8_plain 17 = .ok (.if_icmp .eq 15, 3) := by decide +kernel
theorem dX8_plain_20 : decode cX8_plain 20 = .ok (.aload_n 0, 1) := by decide +kernel
theorem dX8_plain_21 : decode cX8_plain 21 = .ok (.getfield 29, 3) := by decide +kernel
theorem dX8_plain_24 : decode cX8_plain 24 = .ok (.iconst 5, 1) := by decide +kernel
theorem dX8_plain_25 : decode cX8_plain 25 = .ok (.iload_n 1, 1) := by decide +kernel
theorem dX8_plain_26 : decode cX8_plain 26 = .ok (.imul, 1) := by decide +kernel
theorem dX8_plain_27 : decode cX8_plain 27 = .ok (.iaload, 1) := by decide +kernel
theorem dX8_plain_28 : decode cX8_plain 28 = .ok (.iload_n 2, 1) := by decide +kernel
theorem dX8_plain_29 : decode cX8_plain 29 = .ok (.if_icmp .ne 7, 3) := by decide +kernel
theorem dX8_plain_32 : decode cX8_plain 32 = .ok (.lconst 1, 1) := by decide +kernel
theorem dX8_plain_33 : decode cX8_plain 33 = .ok (.goto 4, 3) := by decide +kernel
theorem dX8_plain_36 : decode cX8_plain 36 = .ok (.lconst 0, 1) := by decide +kernel
theorem dX8_plain_37 : decode cX8_plain 37 = .ok (.lreturn, 1) := by decide +kernel
theorem dX8_plain_38 : decode cX8_plain 38 = .ok (.lconst 1, 1) := by decide +kernel
theorem dX8_plain_39 : decode cX8_plain 39 = .ok (.lstore_n 3, 1) := by decide +kernel
theorem dX8_plain_40 : decode cX8_plain 40 = .ok (.iconst 0, 1) := by decide +kernel
theorem dX8_plain_41 : decode cX8_plain 41 = .ok (.istore 5, 2) := by decide +kernel
theorem dX8_plain_43 : decode cX8_plain 43 = .ok (.iload 5, 2) := by decide +kernel
theorem dX8_plain_45 : decode cX8_plain 45 = .ok (.aload_n 0, 1) := by decide +kernel
theorem dX8_plain_46 : decode cX8_plain 46 = .ok (.getfield 26, 3) := by decide +kernel
theorem dX8_plain_49 : decode cX8_plain 49 = .ok (.iload_n 1, 1) := by decide +kernel
theorem dX8_plain_50 : decode cX8_plain 50 = .ok (.iaload, 1) := by decide +kernel
theorem dX8_plain_51 : decode cX8_plain 51 = .ok (.if_icmp .ge 58, 3) := by decide +kernel
theorem dX8_plain_54 : decode cX8_plain 54 = .ok (.iload_n 2, 1) := by decide +kernel
theorem dX8_plain_55 : decode cX8_plain 55 = .ok (.aload_n 0, 1) := by decide +kernel
theorem dX8_plain_56 : decode cX8_plain 56 = .ok (.getfield 32, 3) := by decide +kernel
theorem dX8_plain_59 : decode cX8_plain 59 = .ok (.iconst 5, 1) := by decide +kernel
theorem dX8_plain_60 : decode cX8_plain 60 = .ok (.iload_n 1, 1) := by decide +kernel
theorem dX8_plain_61 : decode cX8_plain 61 = .ok (.imul, 1) := by decide +kernel
theorem dX8_plain_62 : decode cX8_plain 62 = .ok (.iload 5, 2) := by decide +kernel
theorem dX8_plain_64 : decode cX8_plain 64 = .ok (.iadd, 1) := by decide +kernel
theorem dX8_plain_65 : decode cX8_plain 65 = .ok (.iaload, 1) := by decide +kernel
theorem dX8_plain_66 : decode cX8_plain 66 = .ok (.iadd, 1) := by decide +kernel
theorem dX8_plain_67 : decode cX8_plain 67 = .ok (.istore 6, 2) := by decide +kernel
theorem dX8_plain_69 : decode cX8_plain 69 = .ok (.lload_n 3, 1) := by decide +kernel
theorem dX8_plain_70 : decode cX8_plain 70 = .ok (.iload 6, 2) := by decide +kernel
theorem dX8_plain_72 : decode cX8_plain 72 = .ok (.aload_n 0, 1) := by decide +kernel
theorem dX8_plain_73 : decode cX8_plain 73 = .ok (.getfield 7, 3) := by decide +kernel
theorem dX8_plain_76 : decode cX8_plain 76 = .ok (.if_icmp .ge 24, 3) := by decide +kernel
theorem dX8_plain_79 : decode cX8_plain 79 = .ok (.aload_n 0, 1) := by decide +kernel
theorem dX8_plain_80 : decode cX8_plain 80 = .ok (.aload_n 0, 1) := by decide +kernel
theorem dX8_plain_81 : decode cX8_plain 81 = .ok (.getfield 29, 3) := by decide +kernel
theorem dX8_plain_84 : decode cX8_plain 84 = .ok (.iconst 5, 1) := by decide +kernel
theorem dX8_plain_85 : decode cX8_plain 85 = .ok (.iload_n 1, 1) := by decide +kernel
theorem dX8_plain_86 : decode cX8_plain 86 = .ok (.imul, 1) := by decide +kernel
theorem dX8_plain_87 : decode cX8_plain 87 = .ok (.iload 5, 2) := by decide +kernel
theorem dX8_plain_89 : decode cX8_plain 89 = .ok (.iadd, 1) := by decide +kernel
theorem dX8_plain_90 : decode cX8_plain 90 = .ok (.iaload, 1) := by decide +kernel
theorem dX8_plain_91 : decode cX8_plain 91 = .ok (.iload 6, 2) := by decide +kernel
theorem dX8_plain_93 : decode cX8_plain 93 = .ok (.invokevirtual 120, 3) := by decide +kernel
theorem dX8_plain_96 : decode cX8_plain 96 = .ok (.i2l, 1) := by decide +kernel
theorem dX8_plain_97 : decode cX8_plain 97 = .ok (.goto 4, 3) := by decide +kernel
theorem dX8_plain_100 : decode cX8_plain 100 = .ok (.lconst 0, 1) := by decide +kernel
theorem dX8_plain_101 : decode cX8_plain 101 = .ok (.lmul, 1) := by decide +kernel
theorem dX8_plain_102 : decode cX8_plain 102 = .ok (.lstore_n 3, 1) := by decide +kernel
theorem dX8_plain_103 : decode cX8_plain 103 = .ok (.iinc 5 1, 3) := by decide +kernel
theorem dX8_plain_106 : decode cX8_plain 106 = .ok (.goto (-63), 3) := by decide +kernel
theorem dX8_plain_109 : decode cX8_plain 109 = .ok (.lload_n 3, 1) := by decide +kernel
theorem dX8_plain_110 : decode cX8_plain 110 = .ok (.lreturn, 1) := by decide +kernel
theorem dX8_meanOf_0 : decode cX8_meanOf 0 = .ok (.lconst 0, 1) := by decide +kernel
theorem dX8_meanOf_1 : decode cX8_meanOf 1 = .ok (.lstore_n 2, 1) := by decide +kernel
theorem dX8_meanOf_2 : decode cX8_meanOf 2 = .ok (.iconst 0, 1) := by decide +kernel
theorem dX8_meanOf_3 : decode cX8_meanOf 3 = .ok (.istore 4, 2) := by decide +kernel
theorem dX8_meanOf_5 : decode cX8_meanOf 5 = .ok (.iload 4, 2) := by decide +kernel
theorem dX8_meanOf_7 : decode cX8_meanOf 7 = .ok (.aload_n 0, 1) := by decide +kernel
theorem dX8_meanOf_8 : decode cX8_meanOf 8 = .ok (.getfield 7, 3) := by decide +kernel
theorem dX8_meanOf_11 : decode cX8_meanOf 11 = .ok (.if_icmp .ge 19, 3) := by decide +kernel
theorem dX8_meanOf_14 : decode cX8_meanOf 14 = .ok (.lload_n 2, 1) := by decide +kernel
theorem dX8_meanOf_15 : decode cX8_meanOf 15 = .ok (.aload_n 0, 1) := by decide +kernel
theorem dX8_meanOf_16 : decode cX8_meanOf 16 = .ok (.iload_n 1, 1) := by decide +kernel
theorem dX8_meanOf_17 : decode cX8_meanOf 17 = .ok (.iload 4, 2) := by decide +kernel
theorem dX8_meanOf_19 : decode cX8_meanOf 19 = .ok (.invokevirtual 124, 3) := by decide +kernel
theorem dX8_meanOf_22 : decode cX8_meanOf 22 = .ok (.ladd, 1) := by decide +kernel
theorem dX8_meanOf_23 : decode cX8_meanOf 23 = .ok (.lstore_n 2, 1) := by decide +kernel
theorem dX8_meanOf_24 : decode cX8_meanOf 24 = .ok (.iinc 4 1, 3) := by decide +kernel
theorem dX8_meanOf_27 : decode cX8_meanOf 27 = .ok (.goto (-22), 3) := by decide +kernel
theorem dX8_meanOf_30 : decode cX8_meanOf 30 = .ok (.lload_n 2, 1) := by decide +kernel
theorem dX8_meanOf_31 : decode cX8_meanOf 31 = .ok (.aload_n 0, 1) := by decide +kernel
theorem dX8_meanOf_32 : decode cX8_meanOf 32 = .ok (.getfield 7, 3) := by decide +kernel
theorem dX8_meanOf_35 : decode cX8_meanOf 35 = .ok (.i2l, 1) := by decide +kernel
theorem dX8_meanOf_36 : decode cX8_meanOf 36 = .ok (.ldiv, 1) := by decide +kernel
theorem dX8_meanOf_37 : decode cX8_meanOf 37 = .ok (.lreturn, 1) := by decide +kernel
theorem dX8_weightOf_0 : decode cX8_weightOf 0 = .ok (.aload_n 0, 1) := by decide +kernel
theorem dX8_weightOf_1 : decode cX8_weightOf 1 = .ok (.getfield 23, 3) := by decide +kernel
theorem dX8_weightOf_4 : decode cX8_weightOf 4 = .ok (.iload_n 1, 1) := by decide +kernel
theorem dX8_weightOf_5 : decode cX8_weightOf 5 = .ok (.iaload, 1) := by decide +kernel
theorem dX8_weightOf_6 : decode cX8_weightOf 6 = .ok (.istore_n 3, 1) := by decide +kernel
theorem dX8_weightOf_7 : decode cX8_weightOf 7 = .ok (.iload_n 3, 1) := by decide +kernel
theorem dX8_weightOf_8 : decode cX8_weightOf 8 = .ok (.ifCond .ne 12, 3) := by decide +kernel
theorem dX8_weightOf_11 : decode cX8_weightOf 11 = .ok (.aload_n 0, 1) := by decide +kernel
theorem dX8_weightOf_12 : decode cX8_weightOf 12 = .ok (.iload_n 1, 1) := by decide +kernel
theorem dX8_weightOf_13 : decode cX8_weightOf 13 = .ok (.iload_n 2, 1) := by decide +kernel
theorem dX8_weightOf_14 : decode cX8_weightOf 14 = .ok (.invokevirtual 124, 3) := by decide +kernel
theorem dX8_weightOf_17 : decode cX8_weightOf 17 = .ok (.goto 24, 3) := by decide +kernel
theorem dX8_weightOf_20 : decode cX8_weightOf 20 = .ok (.bipush 10, 2) := by decide +kernel
theorem dX8_weightOf_22 : decode cX8_weightOf 22 = .ok (.iload_n 3, 1) := by decide +kernel
theorem dX8_weightOf_23 : decode cX8_weightOf 23 = .ok (.isub, 1) := by decide +kernel
theorem dX8_weightOf_24 : decode cX8_weightOf 24 = .ok (.i2l, 1) := by decide +kernel
theorem dX8_weightOf_25 : decode cX8_weightOf 25 = .ok (.aload_n 0, 1) := by decide +kernel
theorem dX8_weightOf_26 : decode cX8_weightOf 26 = .ok (.iload_n 1, 1) := by decide +kernel
theorem dX8_weightOf_27 : decode cX8_weightOf 27 = .ok (.iload_n 2, 1) := by decide +kernel
theorem dX8_weightOf_28 : decode cX8_weightOf 28 = .ok (.invokevirtual 124, 3) := by decide +kernel
theorem dX8_weightOf_31 : decode cX8_weightOf 31 = .ok (.lmul, 1) := by decide +kernel
theorem dX8_weightOf_32 : decode cX8_weightOf 32 = .ok (.iload_n 3, 1) := by decide +kernel
theorem dX8_weightOf_33 : decode cX8_weightOf 33 = .ok (.i2l, 1) := by decide +kernel
theorem dX8_weightOf_34 : decode cX8_weightOf 34 = .ok (.aload_n 0, 1) := by decide +kernel
theorem dX8_weightOf_35 : decode cX8_weightOf 35 = .ok (.iload_n 1, 1) := by decide +kernel
theorem dX8_weightOf_36 : decode cX8_weightOf 36 = .ok (.invokevirtual 128, 3) := by decide +kernel
theorem dX8_weightOf_39 : decode cX8_weightOf 39 = .ok (.lmul, 1) := by decide +kernel
theorem dX8_weightOf_40 : decode cX8_weightOf 40 = .ok (.ladd, 1) := by decide +kernel
theorem dX8_weightOf_41 : decode cX8_weightOf 41 = .ok (.lreturn, 1) := by decide +kernel
theorem dX8_of_0 : decode cX8_of 0 = .ok (.aload_n 0, 1) := by decide +kernel
theorem dX8_of_1 : decode cX8_of 1 = .ok (.iload_n 1, 1) := by decide +kernel
theorem dX8_of_2 : decode cX8_of 2 = .ok (.invokevirtual 117, 3) := by decide +kernel
theorem dX8_of_5 : decode cX8_of 5 = .ok (.ifCond .eq 12, 3) := by decide +kernel
theorem dX8_of_8 : decode cX8_of 8 = .ok (.iload_n 2, 1) := by decide +kernel
theorem dX8_of_9 : decode cX8_of 9 = .ok (.iconst 0, 1) := by decide +kernel
theorem dX8_of_10 : decode cX8_of 10 = .ok (.iconst 5, 1) := by decide +kernel
theorem dX8_of_11 : decode cX8_of 11 = .ok (.invokestatic 100, 3) := by decide +kernel
theorem dX8_of_14 : decode cX8_of 14 = .ok (.ifCond .ne 6, 3) := by decide +kernel
theorem dX8_of_17 : decode cX8_of 17 = .ok (.bipush (-2), 2) := by decide +kernel
theorem dX8_of_19 : decode cX8_of 19 = .ok (.ireturn, 1) := by decide +kernel
theorem dX8_of_20 : decode cX8_of 20 = .ok (.iload_n 2, 1) := by decide +kernel
theorem dX8_of_21 : decode cX8_of 21 = .ok (.tableswitch 72 0 4 #[35, 42, 51, 58, 65], 35) := by decide +kernel
theorem dX8_of_56 : decode cX8_of 56 = .ok (.aload_n 0, 1) := by decide +kernel
theorem dX8_of_57 : decode cX8_of 57 = .ok (.getfield 20, 3) := by decide +kernel
theorem dX8_of_60 : decode cX8_of 60 = .ok (.iload_n 1, 1) := by decide +kernel
theorem dX8_of_61 : decode cX8_of 61 = .ok (.iaload, 1) := by decide +kernel
theorem dX8_of_62 : decode cX8_of 62 = .ok (.ireturn, 1) := by decide +kernel
theorem dX8_of_63 : decode cX8_of 63 = .ok (.aload_n 0, 1) := by decide +kernel
theorem dX8_of_64 : decode cX8_of 64 = .ok (.getfield 29, 3) := by decide +kernel
theorem dX8_of_67 : decode cX8_of 67 = .ok (.iconst 5, 1) := by decide +kernel
theorem dX8_of_68 : decode cX8_of 68 = .ok (.iload_n 1, 1) := by decide +kernel
theorem dX8_of_69 : decode cX8_of 69 = .ok (.imul, 1) := by decide +kernel
theorem dX8_of_70 : decode cX8_of 70 = .ok (.iaload, 1) := by decide +kernel
theorem dX8_of_71 : decode cX8_of 71 = .ok (.ireturn, 1) := by decide +kernel
theorem dX8_of_72 : decode cX8_of 72 = .ok (.aload_n 0, 1) := by decide +kernel
theorem dX8_of_73 : decode cX8_of 73 = .ok (.getfield 23, 3) := by decide +kernel
theorem dX8_of_76 : decode cX8_of 76 = .ok (.iload_n 1, 1) := by decide +kernel
theorem dX8_of_77 : decode cX8_of 77 = .ok (.iaload, 1) := by decide +kernel
theorem dX8_of_78 : decode cX8_of 78 = .ok (.ireturn, 1) := by decide +kernel
theorem dX8_of_79 : decode cX8_of 79 = .ok (.aload_n 0, 1) := by decide +kernel
theorem dX8_of_80 : decode cX8_of 80 = .ok (.getfield 26, 3) := by decide +kernel
theorem dX8_of_83 : decode cX8_of 83 = .ok (.iload_n 1, 1) := by decide +kernel
theorem dX8_of_84 : decode cX8_of 84 = .ok (.iaload, 1) := by decide +kernel
theorem dX8_of_85 : decode cX8_of 85 = .ok (.ireturn, 1) := by decide +kernel
theorem dX8_of_86 : decode cX8_of 86 = .ok (.aload_n 0, 1) := by decide +kernel
theorem dX8_of_87 : decode cX8_of 87 = .ok (.iload_n 1, 1) := by decide +kernel
theorem dX8_of_88 : decode cX8_of 88 = .ok (.invokevirtual 128, 3) := by decide +kernel
theorem dX8_of_91 : decode cX8_of 91 = .ok (.l2i, 1) := by decide +kernel
theorem dX8_of_92 : decode cX8_of 92 = .ok (.ireturn, 1) := by decide +kernel
theorem dX8_of_93 : decode cX8_of 93 = .ok (.iconst 0, 1) := by decide +kernel
theorem dX8_of_94 : decode cX8_of 94 = .ok (.istore_n 3, 1) := by decide +kernel
theorem dX8_of_95 : decode cX8_of 95 = .ok (.iconst 0, 1) := by decide +kernel
theorem dX8_of_96 : decode cX8_of 96 = .ok (.istore 4, 2) := by decide +kernel
theorem dX8_of_98 : decode cX8_of 98 = .ok (.iload 4, 2) := by decide +kernel
theorem dX8_of_100 : decode cX8_of 100 = .ok (.aload_n 0, 1) := by decide +kernel
theorem dX8_of_101 : decode cX8_of 101 = .ok (.getfield 7, 3) := by decide +kernel
theorem dX8_of_104 : decode cX8_of 104 = .ok (.if_icmp .ge 29, 3) := by decide +kernel
theorem dX8_of_107 : decode cX8_of 107 = .ok (.iload_n 3, 1) := by decide +kernel
theorem dX8_of_108 : decode cX8_of 108 = .ok (.aload_n 0, 1) := by decide +kernel
theorem dX8_of_109 : decode cX8_of 109 = .ok (.iload_n 1, 1) := by decide +kernel
theorem dX8_of_110 : decode cX8_of 110 = .ok (.iload 4, 2) := by decide +kernel
theorem dX8_of_112 : decode cX8_of 112 = .ok (.invokevirtual 132, 3) := by decide +kernel
theorem dX8_of_115 : decode cX8_of 115 = .ok (.lconst 0, 1) := by decide +kernel
theorem dX8_of_116 : decode cX8_of 116 = .ok (.lcmp, 1) := by decide +kernel
theorem dX8_of_117 : decode cX8_of 117 = .ok (.ifCond .le 7, 3) := by decide +kernel
theorem dX8_of_120 : decode cX8_of 120 = .ok (.iconst 1, 1) := by decide +kernel
theorem dX8_of_121 : decode cX8_of 121 = .ok (.goto 4, 3) := by decide +kernel
theorem dX8_of_124 : decode cX8_of 124 = .ok (.iconst 0, 1) := by decide +kernel
theorem dX8_of_125 : decode cX8_of 125 = .ok (.iadd, 1) := by decide +kernel
theorem dX8_of_126 : decode cX8_of 126 = .ok (.istore_n 3, 1) := by decide +kernel
theorem dX8_of_127 : decode cX8_of 127 = .ok (.iinc 4 1, 3) := by decide +kernel
theorem dX8_of_130 : decode cX8_of 130 = .ok (.goto (-32), 3) := by decide +kernel
theorem dX8_of_133 : decode cX8_of 133 = .ok (.iload_n 3, 1) := by decide +kernel
theorem dX8_of_134 : decode cX8_of 134 = .ok (.ireturn, 1) := by decide +kernel
theorem dX8_weight_0 : decode cX8_weight 0 = .ok (.aload_n 0, 1) := by decide +kernel
theorem dX8_weight_1 : decode cX8_weight 1 = .ok (.iload_n 1, 1) := by decide +kernel
theorem dX8_weight_2 : decode cX8_weight 2 = .ok (.invokevirtual 117, 3) := by decide +kernel
theorem dX8_weight_5 : decode cX8_weight 5 = .ok (.ifCond .eq 21, 3) := by decide +kernel
theorem dX8_weight_8 : decode cX8_weight 8 = .ok (.aload_n 0, 1) := by decide +kernel
theorem dX8_weight_9 : decode cX8_weight 9 = .ok (.iload_n 2, 1) := by decide +kernel
theorem dX8_weight_10 : decode cX8_weight 10 = .ok (.invokevirtual 135, 3) := by decide +kernel
theorem dX8_weight_13 : decode cX8_weight 13 = .ok (.ifCond .eq 13, 3) := by decide +kernel
theorem dX8_weight_16 : decode cX8_weight 16 = .ok (.aload_n 0, 1) := by decide +kernel
theorem dX8_weight_17 : decode cX8_weight 17 = .ok (.iload_n 1, 1) := by decide +kernel
theorem dX8_weight_18 : decode cX8_weight 18 = .ok (.iload_n 2, 1) := by decide +kernel
theorem dX8_weight_19 : decode cX8_weight 19 = .ok (.invokevirtual 132, 3) := by decide +kernel
theorem dX8_weight_22 : decode cX8_weight 22 = .ok (.l2i, 1) := by decide +kernel
theorem dX8_weight_23 : decode cX8_weight 23 = .ok (.goto 5, 3) := by decide +kernel
theorem dX8_weight_26 : decode cX8_weight 26 = .ok (.bipush (-2), 2) := by decide +kernel
theorem dX8_weight_28 : decode cX8_weight 28 = .ok (.ireturn, 1) := by decide +kernel
theorem dX8_drop_0 : decode cX8_drop 0 = .ok (.aload_n 0, 1) := by decide +kernel
theorem dX8_drop_1 : decode cX8_drop 1 = .ok (.getfield 97, 3) := by decide +kernel
theorem dX8_drop_4 : decode cX8_drop 4 = .ok (.ifCond .ne 10, 3) := by decide +kernel
theorem dX8_drop_7 : decode cX8_drop 7 = .ok (.aload_n 0, 1) := by decide +kernel
theorem dX8_drop_8 : decode cX8_drop 8 = .ok (.bipush (-10), 2) := by decide +kernel
theorem dX8_drop_10 : decode cX8_drop 10 = .ok (.invokevirtual 108, 3) := by decide +kernel
theorem dX8_drop_13 : decode cX8_drop 13 = .ok (.ireturn, 1) := by decide +kernel
theorem dX8_drop_14 : decode cX8_drop 14 = .ok (.aload_n 0, 1) := by decide +kernel
theorem dX8_drop_15 : decode cX8_drop 15 = .ok (.dup, 1) := by decide +kernel
theorem dX8_drop_16 : decode cX8_drop 16 = .ok (.getfield 97, 3) := by decide +kernel
theorem dX8_drop_19 : decode cX8_drop 19 = .ok (.iconst 1, 1) := by decide +kernel
theorem dX8_drop_20 : decode cX8_drop 20 = .ok (.isub, 1) := by decide +kernel
theorem dX8_drop_21 : decode cX8_drop 21 = .ok (.putfield 97, 3) := by decide +kernel
theorem dX8_drop_24 : decode cX8_drop 24 = .ok (.aload_n 0, 1) := by decide +kernel
theorem dX8_drop_25 : decode cX8_drop 25 = .ok (.iconst 0, 1) := by decide +kernel
theorem dX8_drop_26 : decode cX8_drop 26 = .ok (.putfield 113, 3) := by decide +kernel
theorem dX8_drop_29 : decode cX8_drop 29 = .ok (.aload_n 0, 1) := by decide +kernel
theorem dX8_drop_30 : decode cX8_drop 30 = .ok (.getfield 97, 3) := by decide +kernel
theorem dX8_drop_33 : decode cX8_drop 33 = .ok (.ireturn, 1) := by decide +kernel
theorem dX8_feed_0 : decode cX8_feed 0 = .ok (.iload_n 3, 1) := by decide +kernel
theorem dX8_feed_1 : decode cX8_feed 1 = .ok (.iconst 1, 1) := by decide +kernel
theorem dX8_feed_2 : decode cX8_feed 2 = .ok (.bipush 8, 2) := by decide +kernel
theorem dX8_feed_4 : decode cX8_feed 4 = .ok (.invokestatic 100, 3) := by decide +kernel
theorem dX8_feed_7 : decode cX8_feed 7 = .ok (.ifCond .eq 15, 3) := by decide +kernel
theorem dX8_feed_10 : decode cX8_feed 10 = .ok (.aload_n 0, 1) := by decide +kernel
theorem dX8_feed_11 : decode cX8_feed 11 = .ok (.getfield 138, 3) := by decide +kernel
theorem dX8_feed_14 : decode cX8_feed 14 = .ok (.iload_n 3, 1) := by decide +kernel
theorem dX8_feed_15 : decode cX8_feed 15 = .ok (.iadd, 1) := by decide +kernel
theorem dX8_feed_16 : decode cX8_feed 16 = .ok (.sipush 200, 3) := by decide +kernel
theorem dX8_feed_19 : decode cX8_feed 19 = .ok (.if_icmp .le 6, 3) := by decide +kernel
theorem dX8_feed_22 : decode cX8_feed 22 = .ok (.bipush (-2), 2) := by decide +kernel
theorem dX8_feed_24 : decode cX8_feed 24 = .ok (.ireturn, 1) := by decide +kernel
theorem dX8_feed_25 : decode cX8_feed 25 = .ok (.iconst 0, 1) := by decide +kernel
theorem dX8_feed_26 : decode cX8_feed 26 = .ok (.istore 4, 2) := by decide +kernel
theorem dX8_feed_28 : decode cX8_feed 28 = .ok (.iload 4, 2) := by decide +kernel
theorem dX8_feed_30 : decode cX8_feed 30 = .ok (.iload_n 3, 1) := by decide +kernel
theorem dX8_feed_31 : decode cX8_feed 31 = .ok (.if_icmp .ge 40, 3) := by decide +kernel
theorem dX8_feed_34 : decode cX8_feed 34 = .ok (.aload_n 0, 1) := by decide +kernel
theorem dX8_feed_35 : decode cX8_feed 35 = .ok (.getfield 57, 3) := by decide +kernel
theorem dX8_feed_38 : decode cX8_feed 38 = .ok (.aload_n 0, 1) := by decide +kernel
theorem dX8_feed_39 : decode cX8_feed 39 = .ok (.getfield 138, 3) := by decide +kernel
theorem dX8_feed_42 : decode cX8_feed 42 = .ok (.lload_n 1, 1) := by decide +kernel
theorem dX8_feed_43 : decode cX8_feed 43 = .ok (.bipush 8, 2) := by decide +kernel
theorem dX8_feed_45 : decode cX8_feed 45 = .ok (.iload 4, 2) := by decide +kernel
theorem dX8_feed_47 : decode cX8_feed 47 = .ok (.imul, 1) := by decide +kernel
theorem dX8_feed_48 : decode cX8_feed 48 = .ok (.lshr, 1) := by decide +kernel
theorem dX8_feed_49 : decode cX8_feed 49 = .ok (.l2i, 1) := by decide +kernel
theorem dX8_feed_50 : decode cX8_feed 50 = .ok (.sipush 255, 3) := by decide +kernel
theorem dX8_feed_53 : decode cX8_feed 53 = .ok (.iand, 1) := by decide +kernel
theorem dX8_feed_54 : decode cX8_feed 54 = .ok (.iastore, 1) := by decide +kernel
theorem dX8_feed_55 : decode cX8_feed 55 = .ok (.aload_n 0, 1) := by decide +kernel
theorem dX8_feed_56 : decode cX8_feed 56 = .ok (.dup, 1) := by decide +kernel
theorem dX8_feed_57 : decode cX8_feed 57 = .ok (.getfield 138, 3) := by decide +kernel
theorem dX8_feed_60 : decode cX8_feed 60 = .ok (.iconst 1, 1) := by decide +kernel
theorem dX8_feed_61 : decode cX8_feed 61 = .ok (.iadd, 1) := by decide +kernel
theorem dX8_feed_62 : decode cX8_feed 62 = .ok (.putfield 138, 3) := by decide +kernel
theorem dX8_feed_65 : decode cX8_feed 65 = .ok (.iinc 4 1, 3) := by decide +kernel
theorem dX8_feed_68 : decode cX8_feed 68 = .ok (.goto (-40), 3) := by decide +kernel
theorem dX8_feed_71 : decode cX8_feed 71 = .ok (.aload_n 0, 1) := by decide +kernel
theorem dX8_feed_72 : decode cX8_feed 72 = .ok (.getfield 138, 3) := by decide +kernel
theorem dX8_feed_75 : decode cX8_feed 75 = .ok (.ireturn, 1) := by decide +kernel
theorem dX8_here_0 : decode cX8_here 0 = .ok (.aload_n 0, 1) := by decide +kernel
theorem dX8_here_1 : decode cX8_here 1 = .ok (.getfield 141, 3) := by decide +kernel
theorem dX8_here_4 : decode cX8_here 4 = .ok (.aload_n 0, 1) := by decide +kernel
theorem dX8_here_5 : decode cX8_here 5 = .ok (.getfield 138, 3) := by decide +kernel
theorem dX8_here_8 : decode cX8_here 8 = .ok (.if_icmp .ge 15, 3) := by decide +kernel
theorem dX8_here_11 : decode cX8_here 11 = .ok (.aload_n 0, 1) := by decide +kernel
theorem dX8_here_12 : decode cX8_here 12 = .ok (.getfield 57, 3) := by decide +kernel
theorem dX8_here_15 : decode cX8_here 15 = .ok (.aload_n 0, 1) := by decide +kernel
theorem dX8_here_16 : decode cX8_here 16 = .ok (.getfield 141, 3) := by decide +kernel
theorem dX8_here_19 : decode cX8_here 19 = .ok (.iaload, 1) := by decide +kernel
theorem dX8_here_20 : decode cX8_here 20 = .ok (.goto 4, 3) := by decide +kernel
theorem dX8_here_23 : decode cX8_here 23 = .ok (.iconst (-1), 1) := by decide +kernel
theorem dX8_here_24 : decode cX8_here 24 = .ok (.ireturn, 1) := by decide +kernel
theorem dX8_name_0 : decode cX8_name 0 = .ok (.aload_n 0, 1) := by decide +kernel
theorem dX8_name_1 : decode cX8_name 1 = .ok (.invokevirtual 144, 3) := by decide +kernel
theorem dX8_name_4 : decode cX8_name 4 = .ok (.bipush 97, 2) := by decide +kernel
theorem dX8_name_6 : decode cX8_name 6 = .ok (.isub, 1) := by decide +kernel
theorem dX8_name_7 : decode cX8_name 7 = .ok (.istore_n 1, 1) := by decide +kernel
theorem dX8_name_8 : decode cX8_name 8 = .ok (.aload_n 0, 1) := by decide +kernel
theorem dX8_name_9 : decode cX8_name 9 = .ok (.iload_n 1, 1) := by decide +kernel
theorem dX8_name_10 : decode cX8_name 10 = .ok (.invokevirtual 117, 3) := by decide +kernel
theorem dX8_name_13 : decode cX8_name 13 = .ok (.ifCond .ne 10, 3) := by decide +kernel
theorem dX8_name_16 : decode cX8_name 16 = .ok (.aload_n 0, 1) := by decide +kernel
theorem dX8_name_17 : decode cX8_name 17 = .ok (.iconst 1, 1) := by decide +kernel
theorem dX8_name_18 : decode cX8_name 18 = .ok (.putfield 148, 3) := by decide +kernel
theorem dX8_name_21 : decode cX8_name 21 = .ok (.iconst 0, 1) := by decide +kernel
theorem dX8_name_22 : decode cX8_name 22 = .ok (.ireturn, 1) := by decide +kernel
theorem dX8_name_23 : decode cX8_name 23 = .ok (.aload_n 0, 1) := by decide +kernel
theorem dX8_name_24 : decode cX8_name 24 = .ok (.dup, 1) := by decide +kernel
theorem dX8_name_25 : decode cX8_name 25 = .ok (.getfield 141, 3) := by decide +kernel
theorem dX8_name_28 : decode cX8_name 28 = .ok (.iconst 1, 1) := by decide +kernel
theorem dX8_name_29 : decode cX8_name 29 = .ok (.iadd, 1) := by decide +kernel
theorem dX8_name_30 : decode cX8_name 30 = .ok (.putfield 141, 3) := by decide +kernel
theorem dX8_name_33 : decode cX8_name 33 = .ok (.iconst 1, 1) := by decide +kernel
theorem dX8_name_34 : decode cX8_name 34 = .ok (.iload_n 1, 1) := by decide +kernel
theorem dX8_name_35 : decode cX8_name 35 = .ok (.ishl, 1) := by decide +kernel
theorem dX8_name_36 : decode cX8_name 36 = .ok (.ireturn, 1) := by decide +kernel
theorem dX8_group_0 : decode cX8_group 0 = .ok (.aload_n 0, 1) := by decide +kernel
theorem dX8_group_1 : decode cX8_group 1 = .ok (.invokevirtual 144, 3) := by decide +kernel
theorem dX8_group_4 : decode cX8_group 4 = .ok (.bipush 40, 2) := by decide +kernel
theorem dX8_group_6 : decode cX8_group 6 = .ok (.if_icmp .eq 8, 3) := by decide +kernel
theorem dX8_group_9 : decode cX8_group 9 = .ok (.aload_n 0, 1) := by decide +kernel
theorem dX8_group_10 : decode cX8_group 10 = .ok (.invokevirtual 151, 3) := by decide +kernel
theorem dX8_group_13 : decode cX8_group 13 = .ok (.ireturn, 1) := by decide +kernel
theorem dX8_group_14 : decode cX8_group 14 = .ok (.aload_n 0, 1) := by decide +kernel
theorem dX8_group_15 : decode cX8_group 15 = .ok (.dup, 1) := by decide +kernel
theorem dX8_group_16 : decode cX8_group 16 = .ok (.getfield 141, 3) := by decide +kernel
theorem dX8_group_19 : decode cX8_group 19 = .ok (.iconst 1, 1) := by decide +kernel
theorem dX8_group_20 : decode cX8_group 20 = .ok (.iadd, 1) := by decide +kernel
theorem dX8_group_21 : decode cX8_group 21 = .ok (.putfield 141, 3) := by decide +kernel
theorem dX8_group_24 : decode cX8_group 24 = .ok (.aload_n 0, 1) := by decide +kernel
theorem dX8_group_25 : decode cX8_group 25 = .ok (.invokevirtual 151, 3) := by decide +kernel
theorem dX8_group_28 : decode cX8_group 28 = .ok (.istore_n 1, 1) := by decide +kernel
theorem dX8_group_29 : decode cX8_group 29 = .ok (.aload_n 0, 1) := by decide +kernel
theorem dX8_group_30 : decode cX8_group 30 = .ok (.getfield 148, 3) := by decide +kernel
theorem dX8_group_33 : decode cX8_group 33 = .ok (.ifCond .ne 32, 3) := by decide +kernel
theorem dX8_group_36 : decode cX8_group 36 = .ok (.aload_n 0, 1) := by decide +kernel
theorem dX8_group_37 : decode cX8_group 37 = .ok (.invokevirtual 144, 3) := by decide +kernel
theorem dX8_group_40 : decode cX8_group 40 = .ok (.bipush 44, 2) := by decide +kernel
theorem dX8_group_42 : decode cX8_group 42 = .ok (.if_icmp .ne 23, 3) := by decide +kernel
theorem dX8_group_45 : decode cX8_group 45 = .ok (.aload_n 0, 1) := by decide +kernel
theorem dX8_group_46 : decode cX8_group 46 = .ok (.dup, 1) := by decide +kernel
theorem dX8_group_47 : decode cX8_group 47 = .ok (.getfield 141, 3) := by decide +kernel
theorem dX8_group_50 : decode cX8_group 50 = .ok (.iconst 1, 1) := by decide +kernel
theorem dX8_group_51 : decode cX8_group 51 = .ok (.iadd, 1) := by decide +kernel
theorem dX8_group_52 : decode cX8_group 52 = .ok (.putfield 141, 3) := by decide +kernel
theorem dX8_group_55 : decode cX8_group 55 = .ok (.iload_n 1, 1) := by decide +kernel
theorem dX8_group_56 : decode cX8_group 56 = .ok (.aload_n 0, 1) := by decide +kernel
theorem dX8_group_57 : decode cX8_group 57 = .ok (.invokevirtual 151, 3) := by decide +kernel
theorem dX8_group_60 : decode cX8_group 60 = .ok (.ior, 1) := by decide +kernel
theorem dX8_group_61 : decode cX8_group 61 = .ok (.istore_n 1, 1) := by decide +kernel
theorem dX8_group_62 : decode cX8_group 62 = .ok (.goto (-33), 3) := by decide +kernel
theorem dX8_group_65 : decode cX8_group 65 = .ok (.aload_n 0, 1) := by decide +kernel
theorem dX8_group_66 : decode cX8_group 66 = .ok (.getfield 148, 3) := by decide +kernel
theorem dX8_group_69 : decode cX8_group 69 = .ok (.ifCond .ne 17, 3) := by decide +kernel
theorem dX8_group_72 : decode cX8_group 72 = .ok (.aload_n 0, 1) := by decide +kernel
theorem dX8_group_73 : decode cX8_group 73 = .ok (.invokevirtual 144, 3) := by decide +kernel
theorem dX8_group_76 : decode cX8_group 76 = .ok (.bipush 41, 2) := by decide +kernel
theorem dX8_group_78 : decode cX8_group 78 = .ok (.if_icmp .eq 8, 3) := by decide +kernel
theorem dX8_group_81 : decode cX8_group 81 = .ok (.aload_n 0, 1) := by decide +kernel
theorem dX8_group_82 : decode cX8_group 82 = .ok (.iconst 1, 1) := by decide +kernel
theorem dX8_group_83 : decode cX8_group 83 = .ok (.putfield 148, 3) := by decide +kernel
theorem dX8_group_86 : decode cX8_group 86 = .ok (.aload_n 0, 1) := by decide +kernel
theorem dX8_group_87 : decode cX8_group 87 = .ok (.dup, 1) := by decide +kernel
theorem dX8_group_88 : decode cX8_group 88 = .ok (.getfield 141, 3) := by decide +kernel
theorem dX8_group_91 : decode cX8_group 91 = .ok (.aload_n 0, 1) := by decide +kernel
theorem dX8_group_92 : decode cX8_group 92 = .ok (.getfield 148, 3) := by decide +kernel
theorem dX8_group_95 : decode cX8_group 95 = .ok (.ifCond .eq 7, 3) := by decide +kernel
theorem dX8_group_98 : decode cX8_group 98 = .ok (.iconst 0, 1) := by decide +kernel
theorem dX8_group_99 : decode cX8_group 99 = .ok (.goto 4, 3) := by decide +kernel
theorem dX8_group_102 : decode cX8_group 102 = .ok (.iconst 1, 1) := by decide +kernel
theorem dX8_group_103 : decode cX8_group 103 = .ok (.iadd, 1) := by decide +kernel
theorem dX8_group_104 : decode cX8_group 104 = .ok (.putfield 141, 3) := by decide +kernel
theorem dX8_group_107 : decode cX8_group 107 = .ok (.iload_n 1, 1) := by decide +kernel
theorem dX8_group_108 : decode cX8_group 108 = .ok (.ireturn, 1) := by decide +kernel
theorem dX8_chain_0 : decode cX8_chain 0 = .ok (.aload_n 0, 1) := by decide +kernel
theorem dX8_chain_1 : decode cX8_chain 1 = .ok (.invokevirtual 154, 3) := by decide +kernel
theorem dX8_chain_4 : decode cX8_chain 4 = .ok (.istore_n 1, 1) := by decide +kernel
theorem dX8_chain_5 : decode cX8_chain 5 = .ok (.aload_n 0, 1) := by decide +kernel
theorem dX8_chain_6 : decode cX8_chain 6 = .ok (.getfield 148, 3) := by decide +kernel
theorem dX8_chain_9 : decode cX8_chain 9 = .ok (.ifCond .ne 146, 3) := by decide +kernel
theorem dX8_chain_12 : decode cX8_chain 12 = .ok (.aload_n 0, 1) := by decide +kernel
theorem dX8_chain_13 : decode cX8_chain 13 = .ok (.invokevirtual 144, 3) := by decide +kernel
theorem dX8_chain_16 : decode cX8_chain 16 = .ok (.bipush 60, 2) := by decide +kernel
theorem dX8_chain_18 : decode cX8_chain 18 = .ok (.if_icmp .ne 137, 3) := by decide +kernel
theorem dX8_chain_21 : decode cX8_chain 21 = .ok (.aload_n 0, 1) := by decide +kernel
theorem dX8_chain_22 : decode cX8_chain 22 = .ok (.dup, 1) := by decide +kernel
theorem dX8_chain_23 : decode cX8_chain 23 = .ok (.getfield 141, 3) := by decide +kernel
theorem dX8_chain_26 : decode cX8_chain 26 = .ok (.iconst 1, 1) := by decide +kernel
theorem dX8_chain_27 : decode cX8_chain 27 = .ok (.iadd, 1) := by decide +kernel
theorem dX8_chain_28 : decode cX8_chain 28 = .ok (.putfield 141, 3) := by decide +kernel
theorem dX8_chain_31 : decode cX8_chain 31 = .ok (.aload_n 0, 1) := by decide +kernel
theorem dX8_chain_32 : decode cX8_chain 32 = .ok (.invokevirtual 144, 3) := by decide +kernel
theorem dX8_chain_35 : decode cX8_chain 35 = .ok (.bipush 61, 2) := by decide +kernel
theorem dX8_chain_37 : decode cX8_chain 37 = .ok (.if_icmp .ne 7, 3) := by decide +kernel
theorem dX8_chain_40 : decode cX8_chain 40 = .ok (.iconst 2, 1) := by decide +kernel
theorem dX8_chain_41 : decode cX8_chain 41 = .ok (.goto 4, 3) := by decide +kernel
theorem dX8_chain_44 : decode cX8_chain 44 = .ok (.iconst 1, 1) := by decide +kernel
theorem dX8_chain_45 : decode cX8_chain 45 = .ok (.istore_n 2, 1) := by decide +kernel
theorem dX8_chain_46 : decode cX8_chain 46 = .ok (.aload_n 0, 1) := by decide +kernel
theorem dX8_chain_47 : decode cX8_chain 47 = .ok (.dup, 1) := by decide +kernel
theorem dX8_chain_48 : decode cX8_chain 48 = .ok (.getfield 141, 3) := by decide +kernel
theorem dX8_chain_51 : decode cX8_chain 51 = .ok (.iload_n 2, 1) := by decide +kernel
theorem dX8_chain_52 : decode cX8_chain 52 = .ok (.iconst 2, 1) := by decide +kernel
theorem dX8_chain_53 : decode cX8_chain 53 = .ok (.if_icmp .ne 7, 3) := by decide +kernel
theorem dX8_chain_56 : decode cX8_chain 56 = .ok (.iconst 1, 1) := by decide +kernel
theorem dX8_chain_57 : decode cX8_chain 57 = .ok (.goto 4, 3) := by decide +kernel
theorem dX8_chain_60 : decode cX8_chain 60 = .ok (.iconst 0, 1) := by decide +kernel
theorem dX8_chain_61 : decode cX8_chain 61 = .ok (.iadd, 1) := by decide +kernel
theorem dX8_chain_62 : decode cX8_chain 62 = .ok (.putfield 141, 3) := by decide +kernel
theorem dX8_chain_65 : decode cX8_chain 65 = .ok (.aload_n 0, 1) := by decide +kernel
theorem dX8_chain_66 : decode cX8_chain 66 = .ok (.invokevirtual 154, 3) := by decide +kernel
theorem dX8_chain_69 : decode cX8_chain 69 = .ok (.istore_n 3, 1) := by decide +kernel
theorem dX8_chain_70 : decode cX8_chain 70 = .ok (.iconst 0, 1) := by decide +kernel
theorem dX8_chain_71 : decode cX8_chain 71 = .ok (.istore 4, 2) := by decide +kernel
theorem dX8_chain_73 : decode cX8_chain 73 = .ok (.iload 4, 2) := by decide +kernel
theorem dX8_chain_75 : decode cX8_chain 75 = .ok (.bipush 7, 2) := by decide +kernel
theorem dX8_chain_77 : decode cX8_chain 77 = .ok (.if_icmp .ge 73, 3) := by decide +kernel
theorem dX8_chain_80 : decode cX8_chain 80 = .ok (.aload_n 0, 1) := by decide +kernel
theorem dX8_chain_81 : decode cX8_chain 81 = .ok (.getfield 148, 3) := by decide +kernel
theorem dX8_chain_84 : decode cX8_chain 84 = .ok (.ifCond .ne 66, 3) := by decide +kernel
theorem dX8_chain_87 : decode cX8_chain 87 = .ok (.iconst 0, 1) := by decide +kernel
theorem dX8_chain_88 : decode cX8_chain 88 = .ok (.istore 5, 2) := by decide +kernel
theorem dX8_chain_90 : decode cX8_chain 90 = .ok (.iload 5, 2) := by decide +kernel
theorem dX8_chain_92 : decode cX8_chain 92 = .ok (.bipush 7, 2) := by decide +kernel
theorem dX8_chain_94 : decode cX8_chain 94 = .ok (.if_icmp .ge 50, 3) := by decide +kernel
theorem dX8_chain_97 : decode cX8_chain 97 = .ok (.iload 4, 2) := by decide +kernel
theorem dX8_chain_99 : decode cX8_chain 99 = .ok (.iload 5, 2) := by decide +kernel
theorem dX8_chain_101 : decode cX8_chain 101 = .ok (.if_icmp .eq 37, 3) := by decide +kernel
theorem dX8_chain_104 : decode cX8_chain 104 = .ok (.iload_n 1, 1) := by decide +kernel
theorem dX8_chain_105 : decode cX8_chain 105 = .ok (.iload 4, 2) := by decide +kernel
theorem dX8_chain_107 : decode cX8_chain 107 = .ok (.ishr, 1) := by decide +kernel
theorem dX8_chain_108 : decode cX8_chain 108 = .ok (.iconst 1, 1) := by decide +kernel
theorem dX8_chain_109 : decode cX8_chain 109 = .ok (.iand, 1) := by decide +kernel
theorem dX8_chain_110 : decode cX8_chain 110 = .ok (.iconst 1, 1) := by decide +kernel
theorem dX8_chain_111 : decode cX8_chain 111 = .ok (.if_icmp .ne 27, 3) := by decide +kernel
theorem dX8_chain_114 : decode cX8_chain 114 = .ok (.iload_n 3, 1) := by decide +kernel
theorem dX8_chain_115 : decode cX8_chain 115 = .ok (.iload 5, 2) := by decide +kernel
theorem dX8_chain_117 : decode cX8_chain 117 = .ok (.ishr, 1) := by decide +kernel
theorem dX8_chain_118 : decode cX8_chain 118 = .ok (.iconst 1, 1) := by decide +kernel
theorem dX8_chain_119 : decode cX8_chain 119 = .ok (.iand, 1) := by decide +kernel
theorem dX8_chain_120 : decode cX8_chain 120 = .ok (.iconst 1, 1) := by decide +kernel
theorem dX8_chain_121 : decode cX8_chain 121 = .ok (.if_icmp .ne 17, 3) := by decide +kernel
theorem dX8_chain_124 : decode cX8_chain 124 = .ok (.aload_n 0, 1) := by decide +kernel
theorem dX8_chain_125 : decode cX8_chain 125 = .ok (.getfield 63, 3) := by decide +kernel
theorem dX8_chain_128 : decode cX8_chain 128 = .ok (.bipush 7, 2) := by decide +kernel
theorem dX8_chain_130 : decode cX8_chain 130 = .ok (.iload 4, 2) := by decide +kernel
theorem dX8_chain_132 : decode cX8_chain 132 = .ok (.imul, 1) := by decide +kernel
theorem dX8_chain_133 : decode cX8_chain 133 = .ok (.iload 5, 2) := by decide +kernel
theorem dX8_chain_135 : decode cX8_chain 135 = .ok (.iadd, 1) := by decide +kernel
theorem dX8_chain_136 : decode cX8_chain 136 = .ok (.iload_n 2, 1) := by decide +kernel
theorem dX8_chain_137 : decode cX8_chain 137 = .ok (.iastore, 1) := by decide +kernel
theorem dX8_chain_138 : decode cX8_chain 138 = .ok (.iinc 5 1, 3) := by decide +kernel
theorem dX8_chain_141 : decode cX8_chain 141 = .ok (.goto (-51), 3) := by decide +kernel
theorem dX8_chain_144 : decode cX8_chain 144 = .ok (.iinc 4 1, 3) := by decide +kernel
theorem dX8_chain_147 : decode cX8_chain 147 = .ok (.goto (-74), 3) := by decide +kernel
theorem dX8_chain_150 : decode cX8_chain 150 = .ok (.iload_n 3, 1) := by decide +kernel
theorem dX8_chain_151 : decode cX8_chain 151 = .ok (.istore_n 1, 1) := by decide +kernel
theorem dX8_chain_152 : decode cX8_chain 152 = .ok (.goto (-147), 3) := by decide +kernel
theorem dX8_chain_155 : decode cX8_chain 155 = .ok (.return_, 1) := by decide +kernel
theorem dX8_pairMany_0 : decode cX8_pairMany 0 = .ok (.iconst 0, 1) := by decide +kernel
theorem dX8_pairMany_1 : decode cX8_pairMany 1 = .ok (.istore_n 1, 1) := by decide +kernel
theorem dX8_pairMany_2 : decode cX8_pairMany 2 = .ok (.iconst 0, 1) := by decide +kernel
theorem dX8_pairMany_3 : decode cX8_pairMany 3 = .ok (.istore_n 2, 1) := by decide +kernel
theorem dX8_pairMany_4 : decode cX8_pairMany 4 = .ok (.iload_n 2, 1) := by decide +kernel
theorem dX8_pairMany_5 : decode cX8_pairMany 5 = .ok (.aload_n 0, 1) := by decide +kernel
theorem dX8_pairMany_6 : decode cX8_pairMany 6 = .ok (.getfield 97, 3) := by decide +kernel
theorem dX8_pairMany_9 : decode cX8_pairMany 9 = .ok (.if_icmp .ge 47, 3) := by decide +kernel
theorem dX8_pairMany_12 : decode cX8_pairMany 12 = .ok (.iconst 0, 1) := by decide +kernel
theorem dX8_pairMany_13 : decode cX8_pairMany 13 = .ok (.istore_n 3, 1) := by decide +kernel
theorem dX8_pairMany_14 : decode cX8_pairMany 14 = .ok (.iload_n 3, 1) := by decide +kernel
theorem dX8_pairMany_15 : decode cX8_pairMany 15 = .ok (.aload_n 0, 1) := by decide +kernel
theorem dX8_pairMany_16 : decode cX8_pairMany 16 = .ok (.getfield 97, 3) := by decide +kernel
theorem dX8_pairMany_19 : decode cX8_pairMany 19 = .ok (.if_icmp .ge 31, 3) := by decide +kernel
theorem dX8_pairMany_22 : decode cX8_pairMany 22 = .ok (.iload_n 1, 1) := by decide +kernel
theorem dX8_pairMany_23 : decode cX8_pairMany 23 = .ok (.aload_n 0, 1) := by decide +kernel
theorem dX8_pairMany_24 : decode cX8_pairMany 24 = .ok (.getfield 35, 3) := by decide +kernel
theorem dX8_pairMany_27 : decode cX8_pairMany 27 = .ok (.bipush 7, 2) := by decide +kernel
theorem dX8_pairMany_29 : decode cX8_pairMany 29 = .ok (.iload_n 2, 1) := by decide +kernel
theorem dX8_pairMany_30 : decode cX8_pairMany 30 = .ok (.imul, 1) := by decide +kernel
theorem dX8_pairMany_31 : decode cX8_pairMany 31 = .ok (.iload_n 3, 1) := by decide +kernel
theorem dX8_pairMany_32 : decode cX8_pairMany 32 = .ok (.iadd, 1) := by decide +kernel
theorem dX8_pairMany_33 : decode cX8_pairMany 33 = .ok (.iaload, 1) := by decide +kernel
theorem dX8_pairMany_34 : decode cX8_pairMany 34 = .ok (.ifCond .le 7, 3) := by decide +kernel
theorem dX8_pairMany_37 : decode cX8_pairMany 37 = .ok (.iconst 1, 1) := by decide +kernel
theorem dX8_pairMany_38 : decode cX8_pairMany 38 = .ok (.goto 4, 3) := by decide +kernel
theorem dX8_pairMany_41 : decode cX8_pairMany 41 = .ok (.iconst 0, 1) := by decide +kernel
theorem dX8_pairMany_42 : decode cX8_pairMany 42 = .ok (.iadd, 1) := by decide +kernel
theorem dX8_pairMany_43 : decode cX8_pairMany 43 = .ok (.istore_n 1, 1) := by decide +kernel
theorem dX8_pairMany_44 : decode cX8_pairMany 44 = .ok (.iinc 3 1, 3) := by decide +kernel
theorem dX8_pairMany_47 : decode cX8_pairMany 47 = .ok (.goto (-33), 3) := by decide +kernel
theorem dX8_pairMany_50 : decode cX8_pairMany 50 = .ok (.iinc 2 1, 3) := by decide +kernel
theorem dX8_pairMany_53 : decode cX8_pairMany 53 = .ok (.goto (-49), 3) := by decide +kernel
theorem dX8_pairMany_56 : decode cX8_pairMany 56 = .ok (.iload_n 1, 1) := by decide +kernel
theorem dX8_pairMany_57 : decode cX8_pairMany 57 = .ok (.ireturn, 1) := by decide +kernel
theorem dX8_text_0 : decode cX8_text 0 = .ok (.iconst 0, 1) := by decide +kernel
theorem dX8_text_1 : decode cX8_text 1 = .ok (.istore_n 1, 1) := by decide +kernel
theorem dX8_text_2 : decode cX8_text 2 = .ok (.iload_n 1, 1) := by decide +kernel
theorem dX8_text_3 : decode cX8_text 3 = .ok (.bipush 49, 2) := by decide +kernel
theorem dX8_text_5 : decode cX8_text 5 = .ok (.if_icmp .ge 16, 3) := by decide +kernel
theorem dX8_text_8 : decode cX8_text 8 = .ok (.aload_n 0, 1) := by decide +kernel
theorem dX8_text_9 : decode cX8_text 9 = .ok (.getfield 63, 3) := by decide +kernel
theorem dX8_text_12 : decode cX8_text 12 = .ok (.iload_n 1, 1) := by decide +kernel
theorem dX8_text_13 : decode cX8_text 13 = .ok (.iconst 0, 1) := by decide +kernel
theorem dX8_text_14 : decode cX8_text 14 = .ok (.iastore, 1) := by decide +kernel
theorem dX8_text_15 : decode cX8_text 15 = .ok (.iinc 1 1, 3) := by decide +kernel
theorem dX8_text_18 : decode cX8_text 18 = .ok (.goto (-16), 3) := by decide +kernel
theorem dX8_text_21 : decode cX8_text 21 = .ok (.aload_n 0, 1) := by decide +kernel
theorem dX8_text_22 : decode cX8_text 22 = .ok (.iconst 0, 1) := by decide +kernel
theorem dX8_text_23 : decode cX8_text 23 = .ok (.putfield 141, 3) := by decide +kernel
theorem dX8_text_26 : decode cX8_text 26 = .ok (.aload_n 0, 1) := by decide +kernel
theorem dX8_text_27 : decode cX8_text 27 = .ok (.iconst 0, 1) := by decide +kernel
theorem dX8_text_28 : decode cX8_text 28 = .ok (.putfield 148, 3) := by decide +kernel
theorem dX8_text_31 : decode cX8_text 31 = .ok (.aload_n 0, 1) := by decide +kernel
theorem dX8_text_32 : decode cX8_text 32 = .ok (.invokevirtual 157, 3) := by decide +kernel
theorem dX8_text_35 : decode cX8_text 35 = .ok (.aload_n 0, 1) := by decide +kernel
theorem dX8_text_36 : decode cX8_text 36 = .ok (.getfield 148, 3) := by decide +kernel
theorem dX8_text_39 : decode cX8_text 39 = .ok (.ifCond .ne 29, 3) := by decide +kernel
theorem dX8_text_42 : decode cX8_text 42 = .ok (.aload_n 0, 1) := by decide +kernel
theorem dX8_text_43 : decode cX8_text 43 = .ok (.invokevirtual 144, 3) := by decide +kernel
theorem dX8_text_46 : decode cX8_text 46 = .ok (.bipush 59, 2) := by decide +kernel
theorem dX8_text_48 : decode cX8_text 48 = .ok (.if_icmp .ne 20, 3) := by decide +kernel
theorem dX8_text_51 : decode cX8_text 51 = .ok (.aload_n 0, 1) := by decide +kernel
theorem dX8_text_52 : decode cX8_text 52 = .ok (.dup, 1) := by decide +kernel
theorem dX8_text_53 : decode cX8_text 53 = .ok (.getfield 141, 3) := by decide +kernel
theorem dX8_text_56 : decode cX8_text 56 = .ok (.iconst 1, 1) := by decide +kernel
theorem dX8_text_57 : decode cX8_text 57 = .ok (.iadd, 1) := by decide +kernel
theorem dX8_text_58 : decode cX8_text 58 = .ok (.putfield 141, 3) := by decide +kernel
theorem dX8_text_61 : decode cX8_text 61 = .ok (.aload_n 0, 1) := by decide +kernel
theorem dX8_text_62 : decode cX8_text 62 = .ok (.invokevirtual 157, 3) := by decide +kernel
theorem dX8_text_65 : decode cX8_text 65 = .ok (.goto (-30), 3) := by decide +kernel
theorem dX8_text_68 : decode cX8_text 68 = .ok (.aload_n 0, 1) := by decide +kernel
theorem dX8_text_69 : decode cX8_text 69 = .ok (.getfield 148, 3) := by decide +kernel
theorem dX8_text_72 : decode cX8_text 72 = .ok (.ifCond .ne 18, 3) := by decide +kernel
theorem dX8_text_75 : decode cX8_text 75 = .ok (.aload_n 0, 1) := by decide +kernel
theorem dX8_text_76 : decode cX8_text 76 = .ok (.getfield 141, 3) := by decide +kernel
theorem dX8_text_79 : decode cX8_text 79 = .ok (.aload_n 0, 1) := by decide +kernel
theorem dX8_text_80 : decode cX8_text 80 = .ok (.getfield 138, 3) := by decide +kernel
theorem dX8_text_83 : decode cX8_text 83 = .ok (.if_icmp .ne 7, 3) := by decide +kernel
theorem dX8_text_86 : decode cX8_text 86 = .ok (.iconst 1, 1) := by decide +kernel
theorem dX8_text_87 : decode cX8_text 87 = .ok (.goto 4, 3) := by decide +kernel
theorem dX8_text_90 : decode cX8_text 90 = .ok (.iconst 0, 1) := by decide +kernel
theorem dX8_text_91 : decode cX8_text 91 = .ok (.istore_n 1, 1) := by decide +kernel
theorem dX8_text_92 : decode cX8_text 92 = .ok (.aload_n 0, 1) := by decide +kernel
theorem dX8_text_93 : decode cX8_text 93 = .ok (.iconst 0, 1) := by decide +kernel
theorem dX8_text_94 : decode cX8_text 94 = .ok (.putfield 138, 3) := by decide +kernel
theorem dX8_text_97 : decode cX8_text 97 = .ok (.iload_n 1, 1) := by decide +kernel
theorem dX8_text_98 : decode cX8_text 98 = .ok (.ifCond .ne 11, 3) := by decide +kernel
theorem dX8_text_101 : decode cX8_text 101 = .ok (.bipush (-3), 2) := by decide +kernel
theorem dX8_text_103 : decode cX8_text 103 = .ok (.aload_n 0, 1) := by decide +kernel
theorem dX8_text_104 : decode cX8_text 104 = .ok (.getfield 141, 3) := by decide +kernel
theorem dX8_text_107 : decode cX8_text 107 = .ok (.isub, 1) := by decide +kernel
theorem dX8_text_108 : decode cX8_text 108 = .ok (.ireturn, 1) := by decide +kernel
theorem dX8_text_109 : decode cX8_text 109 = .ok (.iconst 0, 1) := by decide +kernel
theorem dX8_text_110 : decode cX8_text 110 = .ok (.istore_n 2, 1) := by decide +kernel
theorem dX8_text_111 : decode cX8_text 111 = .ok (.iload_n 2, 1) := by decide +kernel
theorem dX8_text_112 : decode cX8_text 112 = .ok (.bipush 49, 2) := by decide +kernel
theorem dX8_text_114 : decode cX8_text 114 = .ok (.if_icmp .ge 21, 3) := by decide +kernel
theorem dX8_text_117 : decode cX8_text 117 = .ok (.aload_n 0, 1) := by decide +kernel
theorem dX8_text_118 : decode cX8_text 118 = .ok (.getfield 35, 3) := by decide +kernel
theorem dX8_text_121 : decode cX8_text 121 = .ok (.iload_n 2, 1) := by decide +kernel
theorem dX8_text_122 : decode cX8_text 122 = .ok (.aload_n 0, 1) := by decide +kernel
theorem dX8_text_123 : decode cX8_text 123 = .ok (.getfield 63, 3) := by decide +kernel
theorem dX8_text_126 : decode cX8_text 126 = .ok (.iload_n 2, 1) := by decide +kernel
theorem dX8_text_127 : decode cX8_text 127 = .ok (.iaload, 1) := by decide +kernel
theorem dX8_text_128 : decode cX8_text 128 = .ok (.iastore, 1) := by decide +kernel
theorem dX8_text_129 : decode cX8_text 129 = .ok (.iinc 2 1, 3) := by decide +kernel
theorem dX8_text_132 : decode cX8_text 132 = .ok (.goto (-21), 3) := by decide +kernel
theorem dX8_text_135 : decode cX8_text 135 = .ok (.aload_n 0, 1) := by decide +kernel
theorem dX8_text_136 : decode cX8_text 136 = .ok (.invokevirtual 160, 3) := by decide +kernel
theorem dX8_text_139 : decode cX8_text 139 = .ok (.ireturn, 1) := by decide +kernel
theorem dX8_in_0 : decode cX8_in 0 = .ok (.iload_n 0, 1) := by decide +kernel
theorem dX8_in_1 : decode cX8_in 1 = .ok (.iload_n 1, 1) := by decide +kernel
theorem dX8_in_2 : decode cX8_in 2 = .ok (.ishr, 1) := by decide +kernel
theorem dX8_in_3 : decode cX8_in 3 = .ok (.iconst 1, 1) := by decide +kernel
theorem dX8_in_4 : decode cX8_in 4 = .ok (.iand, 1) := by decide +kernel
theorem dX8_in_5 : decode cX8_in 5 = .ok (.iconst 1, 1) := by decide +kernel
theorem dX8_in_6 : decode cX8_in 6 = .ok (.if_icmp .ne 7, 3) := by decide +kernel
theorem dX8_in_9 : decode cX8_in 9 = .ok (.iconst 1, 1) := by decide +kernel
theorem dX8_in_10 : decode cX8_in 10 = .ok (.goto 4, 3) := by decide +kernel
theorem dX8_in_13 : decode cX8_in 13 = .ok (.iconst 0, 1) := by decide +kernel
theorem dX8_in_14 : decode cX8_in 14 = .ok (.ireturn, 1) := by decide +kernel
theorem dX8_lay__0 : decode cX8_lay_ 0 = .ok (.aload_n 0, 1) := by decide +kernel
theorem dX8_lay__1 : decode cX8_lay_ 1 = .ok (.iload_n 1, 1) := by decide +kernel
theorem dX8_lay__2 : decode cX8_lay_ 2 = .ok (.putfield 163, 3) := by decide +kernel
theorem dX8_lay__5 : decode cX8_lay_ 5 = .ok (.iconst 0, 1) := by decide +kernel
theorem dX8_lay__6 : decode cX8_lay_ 6 = .ok (.istore_n 2, 1) := by decide +kernel
theorem dX8_lay__7 : decode cX8_lay_ 7 = .ok (.iload_n 2, 1) := by decide +kernel
theorem dX8_lay__8 : decode cX8_lay_ 8 = .ok (.aload_n 0, 1) := by decide +kernel
theorem dX8_lay__9 : decode cX8_lay_ 9 = .ok (.getfield 97, 3) := by decide +kernel
theorem dX8_lay__12 : decode cX8_lay_ 12 = .ok (.if_icmp .ge 42, 3) := by decide +kernel
theorem dX8_lay__15 : decode cX8_lay_ 15 = .ok (.iconst 0, 1) := by decide +kernel
theorem dX8_lay__16 : decode cX8_lay_ 16 = .ok (.istore_n 3, 1) := by decide +kernel
theorem dX8_lay__17 : decode cX8_lay_ 17 = .ok (.iload_n 3, 1) := by decide +kernel
theorem dX8_lay__18 : decode cX8_lay_ 18 = .ok (.aload_n 0, 1) := by decide +kernel
theorem dX8_lay__19 : decode cX8_lay_ 19 = .ok (.getfield 7, 3) := by decide +kernel
theorem dX8_lay__22 : decode cX8_lay_ 22 = .ok (.if_icmp .ge 26, 3) := by decide +kernel
theorem dX8_lay__25 : decode cX8_lay_ 25 = .ok (.aload_n 0, 1) := by decide +kernel
theorem dX8_lay__26 : decode cX8_lay_ 26 = .ok (.getfield 66, 3) := by decide +kernel
theorem dX8_lay__29 : decode cX8_lay_ 29 = .ok (.bipush 40, 2) := by decide +kernel
theorem dX8_lay__31 : decode cX8_lay_ 31 = .ok (.iload_n 2, 1) := by decide +kernel
theorem dX8_lay__32 : decode cX8_lay_ 32 = .ok (.imul, 1) := by decide +kernel
theorem dX8_lay__33 : decode cX8_lay_ 33 = .ok (.iload_n 3, 1) := by decide +kernel
theorem dX8_lay__34 : decode cX8_lay_ 34 = .ok (.iadd, 1) := by decide +kernel
theorem dX8_lay__35 : decode cX8_lay_ 35 = .ok (.aload_n 0, 1) := by decide +kernel
theorem dX8_lay__36 : decode cX8_lay_ 36 = .ok (.iload_n 2, 1) := by decide +kernel
theorem dX8_lay__37 : decode cX8_lay_ 37 = .ok (.iload_n 3, 1) := by decide +kernel
theorem dX8_lay__38 : decode cX8_lay_ 38 = .ok (.invokevirtual 132, 3) := by decide +kernel
theorem dX8_lay__41 : decode cX8_lay_ 41 = .ok (.lastore, 1) := by decide +kernel
theorem dX8_lay__42 : decode cX8_lay_ 42 = .ok (.iinc 3 1, 3) := by decide +kernel
theorem dX8_lay__45 : decode cX8_lay_ 45 = .ok (.goto (-28), 3) := by decide +kernel
theorem dX8_lay__48 : decode cX8_lay_ 48 = .ok (.iinc 2 1, 3) := by decide +kernel
theorem dX8_lay__51 : decode cX8_lay_ 51 = .ok (.goto (-44), 3) := by decide +kernel
theorem dX8_lay__54 : decode cX8_lay_ 54 = .ok (.iconst 0, 1) := by decide +kernel
theorem dX8_lay__55 : decode cX8_lay_ 55 = .ok (.istore_n 2, 1) := by decide +kernel
theorem dX8_lay__56 : decode cX8_lay_ 56 = .ok (.iload_n 2, 1) := by decide +kernel
theorem dX8_lay__57 : decode cX8_lay_ 57 = .ok (.iconst 1, 1) := by decide +kernel
theorem dX8_lay__58 : decode cX8_lay_ 58 = .ok (.aload_n 0, 1) := by decide +kernel
theorem dX8_lay__59 : decode cX8_lay_ 59 = .ok (.getfield 97, 3) := by decide +kernel
theorem dX8_lay__62 : decode cX8_lay_ 62 = .ok (.ishl, 1) := by decide +kernel
theorem dX8_lay__63 : decode cX8_lay_ 63 = .ok (.if_icmp .ge 132, 3) := by decide +kernel
theorem dX8_lay__66 : decode cX8_lay_ 66 = .ok (.aload_n 0, 1) := by decide +kernel
theorem dX8_lay__67 : decode cX8_lay_ 67 = .ok (.getfield 70, 3) := by decide +kernel
theorem dX8_lay__70 : decode cX8_lay_ 70 = .ok (.iload_n 2, 1) := by decide +kernel
theorem dX8_lay__71 : decode cX8_lay_ 71 = .ok (.iconst 0, 1) := by decide +kernel
theorem dX8_lay__72 : decode cX8_lay_ 72 = .ok (.iastore, 1) := by decide +kernel
theorem dX8_lay__73 : decode cX8_lay_ 73 = .ok (.aload_n 0, 1) := by decide +kernel
theorem dX8_lay__74 : decode cX8_lay_ 74 = .ok (.getfield 73, 3) := by decide +kernel
theorem dX8_lay__77 : decode cX8_lay_ 77 = .ok (.iload_n 2, 1) := by decide +kernel
theorem dX8_lay__78 : decode cX8_lay_ 78 = .ok (.iconst 0, 1) := by decide +kernel
theorem dX8_lay__79 : decode cX8_lay_ 79 = .ok (.iastore, 1) := by decide +kernel
theorem dX8_lay__80 : decode cX8_lay_ 80 = .ok (.iconst 0, 1) := by decide +kernel
theorem dX8_lay__81 : decode cX8_lay_ 81 = .ok (.istore_n 3, 1) := by decide +kernel
theorem dX8_lay__82 : decode cX8_lay_ 82 = .ok (.iload_n 3, 1) := by decide +kernel
theorem dX8_lay__83 : decode cX8_lay_ 83 = .ok (.aload_n 0, 1) := by decide +kernel
theorem dX8_lay__84 : decode cX8_lay_ 84 = .ok (.getfield 97, 3) := by decide +kernel
theorem dX8_lay__87 : decode cX8_lay_ 87 = .ok (.if_icmp .ge 102, 3) := by decide +kernel
theorem dX8_lay__90 : decode cX8_lay_ 90 = .ok (.iconst 0, 1) := by decide +kernel
theorem dX8_lay__91 : decode cX8_lay_ 91 = .ok (.istore 4, 2) := by decide +kernel
theorem dX8_lay__93 : decode cX8_lay_ 93 = .ok (.iload 4, 2) := by decide +kernel
theorem dX8_lay__95 : decode cX8_lay_ 95 = .ok (.aload_n 0, 1) := by decide +kernel
theorem dX8_lay__96 : decode cX8_lay_ 96 = .ok (.getfield 97, 3) := by decide +kernel
theorem dX8_lay__99 : decode cX8_lay_ 99 = .ok (.if_icmp .ge 84, 3) := by decide +kernel
theorem dX8_lay__102 : decode cX8_lay_ 102 = .ok (.iload_n 2, 1) := by decide +kernel
theorem dX8_lay__103 : decode cX8_lay_ 103 = .ok (.iload 4, 2) := by decide +kernel
theorem dX8_lay__105 : decode cX8_lay_ 105 = .ok (.invokestatic 166, 3) := by decide +kernel
theorem dX8_lay__108 : decode cX8_lay_ 108 = .ok (.ifCond .eq 69, 3) := by decide +kernel
theorem dX8_lay__111 : decode cX8_lay_ 111 = .ok (.iload_n 1, 1) := by decide +kernel
theorem dX8_lay__112 : decode cX8_lay_ 112 = .ok (.iload_n 3, 1) := by decide +kernel
theorem dX8_lay__113 : decode cX8_lay_ 113 = .ok (.invokestatic 166, 3) := by decide +kernel
theorem dX8_lay__116 : decode cX8_lay_ 116 = .ok (.ifCond .eq 61, 3) := by decide +kernel
theorem dX8_lay__119 : decode cX8_lay_ 119 = .ok (.aload_n 0, 1) := by decide +kernel
theorem dX8_lay__120 : decode cX8_lay_ 120 = .ok (.getfield 35, 3) := by decide +kernel
theorem dX8_lay__123 : decode cX8_lay_ 123 = .ok (.bipush 7, 2) := by decide +kernel
theorem dX8_lay__125 : decode cX8_lay_ 125 = .ok (.iload_n 3, 1) := by decide +kernel
theorem dX8_lay__126 : decode cX8_lay_ 126 = .ok (.imul, 1) := by decide +kernel
theorem dX8_lay__127 : decode cX8_lay_ 127 = .ok (.iload 4, 2) := by decide +kernel
theorem dX8_lay__129 : decode cX8_lay_ 129 = .ok (.iadd, 1) := by decide +kernel
theorem dX8_lay__130 : decode cX8_lay_ 130 = .ok (.iaload, 1) := by decide +kernel
theorem dX8_lay__131 : decode cX8_lay_ 131 = .ok (.ifCond .le 46, 3) := by decide +kernel
theorem dX8_lay__134 : decode cX8_lay_ 134 = .ok (.aload_n 0, 1) := by decide +kernel
theorem dX8_lay__135 : decode cX8_lay_ 135 = .ok (.getfield 35, 3) := by decide +kernel
theorem dX8_lay__138 : decode cX8_lay_ 138 = .ok (.bipush 7, 2) := by decide +kernel
theorem dX8_lay__140 : decode cX8_lay_ 140 = .ok (.iload_n 3, 1) := by decide +kernel
theorem dX8_lay__141 : decode cX8_lay_ 141 = .ok (.imul, 1) := by decide +kernel
theorem dX8_lay__142 : decode cX8_lay_ 142 = .ok (.iload 4, 2) := by decide +kernel
theorem dX8_lay__144 : decode cX8_lay_ 144 = .ok (.iadd, 1) := by decide +kernel
theorem dX8_lay__145 : decode cX8_lay_ 145 = .ok (.iaload, 1) := by decide +kernel
theorem dX8_lay__146 : decode cX8_lay_ 146 = .ok (.iconst 1, 1) := by decide +kernel
theorem dX8_lay__147 : decode cX8_lay_ 147 = .ok (.if_icmp .ne 18, 3) := by decide +kernel
theorem dX8_lay__150 : decode cX8_lay_ 150 = .ok (.aload_n 0, 1) := by decide +kernel
theorem dX8_lay__151 : decode cX8_lay_ 151 = .ok (.getfield 70, 3) := by decide +kernel
theorem dX8_lay__154 : decode cX8_lay_ 154 = .ok (.iload_n 2, 1) := by decide +kernel
theorem dX8_lay__155 : decode cX8_lay_ 155 = .ok (.dup2, 1) := by decide +kernel
theorem dX8_lay__156 : decode cX8_lay_ 156 = .ok (.iaload, 1) := by decide +kernel
theorem dX8_lay__157 : decode cX8_lay_ 157 = .ok (.iconst 1, 1) := by decide +kernel
theorem dX8_lay__158 : decode cX8_lay_ 158 = .ok (.iload_n 3, 1) := by decide +kernel
theorem dX8_lay__159 : decode cX8_lay_ 159 = .ok (.ishl, 1) := by decide +kernel
theorem dX8_lay__160 : decode cX8_lay_ 160 = .ok (.ior, 1) := by decide +kernel
theorem dX8_lay__161 : decode cX8_lay_ 161 = .ok (.iastore, 1) := by decide +kernel
theorem dX8_lay__162 : decode cX8_lay_ 162 = .ok (.goto 15, 3) := by decide +kernel
theorem dX8_lay__165 : decode cX8_lay_ 165 = .ok (.aload_n 0, 1) := by decide +kernel
theorem dX8_lay__166 : decode cX8_lay_ 166 = .ok (.getfield 73, 3) := by decide +kernel
theorem dX8_lay__169 : decode cX8_lay_ 169 = .ok (.iload_n 2, 1) := by decide +kernel
theorem dX8_lay__170 : decode cX8_lay_ 170 = .ok (.dup2, 1) := by decide +kernel
theorem dX8_lay__171 : decode cX8_lay_ 171 = .ok (.iaload, 1) := by decide +kernel
theorem dX8_lay__172 : decode cX8_lay_ 172 = .ok (.iconst 1, 1) := by decide +kernel
theorem dX8_lay__173 : decode cX8_lay_ 173 = .ok (.iload_n 3, 1) := by decide +kernel
theorem dX8_lay__174 : decode cX8_lay_ 174 = .ok (.ishl, 1) := by decide +kernel
theorem dX8_lay__175 : decode cX8_lay_ 175 = .ok (.ior, 1) := by decide +kernel
theorem dX8_lay__176 : decode cX8_lay_ 176 = .ok (.iastore, 1) := by decide +kernel
theorem dX8_lay__177 : decode cX8_lay_ 177 = .ok (.iinc 4 1, 3) := by decide +kernel
theorem dX8_lay__180 : decode cX8_lay_ 180 = .ok (.goto (-87), 3) := by decide +kernel
theorem dX8_lay__183 : decode cX8_lay_ 183 = .ok (.iinc 3 1, 3) := by decide +kernel
theorem dX8_lay__186 : decode cX8_lay_ 186 = .ok (.goto (-104), 3) := by decide +kernel
theorem dX8_lay__189 : decode cX8_lay_ 189 = .ok (.iinc 2 1, 3) := by decide +kernel
theorem dX8_lay__192 : decode cX8_lay_ 192 = .ok (.goto (-136), 3) := by decide +kernel
theorem dX8_lay__195 : decode cX8_lay_ 195 = .ok (.return_, 1) := by decide +kernel
theorem dX8_count_0 : decode cX8_count 0 = .ok (.iconst 0, 1) := by decide +kernel
theorem dX8_count_1 : decode cX8_count 1 = .ok (.istore_n 1, 1) := by decide +kernel
theorem dX8_count_2 : decode cX8_count 2 = .ok (.iload_n 1, 1) := by decide +kernel
theorem dX8_count_3 : decode cX8_count 3 = .ok (.aload_n 0, 1) := by decide +kernel
theorem dX8_count_4 : decode cX8_count 4 = .ok (.getfield 163, 3) := by decide +kernel
theorem dX8_count_7 : decode cX8_count 7 = .ok (.if_icmp .gt 24, 3) := by decide +kernel
theorem dX8_count_10 : decode cX8_count 10 = .ok (.aload_n 0, 1) := by decide +kernel
theorem dX8_count_11 : decode cX8_count 11 = .ok (.getfield 79, 3) := by decide +kernel
theorem dX8_count_14 : decode cX8_count 14 = .ok (.iload_n 1, 1) := by decide +kernel
theorem dX8_count_15 : decode cX8_count 15 = .ok (.iload_n 1, 1) := by decide +kernel
theorem dX8_count_16 : decode cX8_count 16 = .ok (.ifCond .ne 7, 3) := by decide +kernel
theorem dX8_count_19 : decode cX8_count 19 = .ok (.lconst 1, 1) := by decide +kernel
theorem dX8_count_20 : decode cX8_count 20 = .ok (.goto 4, 3) := by decide +kernel
theorem dX8_count_23 : decode cX8_count 23 = .ok (.lconst 0, 1) := by decide +kernel
theorem dX8_count_24 : decode cX8_count 24 = .ok (.lastore, 1) := by decide +kernel
theorem dX8_count_25 : decode cX8_count 25 = .ok (.iinc 1 1, 3) := by decide +kernel
theorem dX8_count_28 : decode cX8_count 28 = .ok (.goto (-26), 3) := by decide +kernel
theorem dX8_count_31 : decode cX8_count 31 = .ok (.iconst 0, 1) := by decide +kernel
theorem dX8_count_32 : decode cX8_count 32 = .ok (.istore_n 1, 1) := by decide +kernel
theorem dX8_count_33 : decode cX8_count 33 = .ok (.iload_n 1, 1) := by decide +kernel
theorem dX8_count_34 : decode cX8_count 34 = .ok (.aload_n 0, 1) := by decide +kernel
theorem dX8_count_35 : decode cX8_count 35 = .ok (.getfield 7, 3) := by decide +kernel
theorem dX8_count_38 : decode cX8_count 38 = .ok (.if_icmp .ge 228, 3) := by decide +kernel
theorem dX8_count_41 : decode cX8_count 41 = .ok (.aload_n 0, 1) := by decide +kernel
theorem dX8_count_42 : decode cX8_count 42 = .ok (.getfield 76, 3) := by decide +kernel
theorem dX8_count_45 : decode cX8_count 45 = .ok (.iconst 0, 1) := by decide +kernel
theorem dX8_count_46 : decode cX8_count 46 = .ok (.lconst 1, 1) := by decide +kernel
theorem dX8_count_47 : decode cX8_count 47 = .ok (.lastore, 1) := by decide +kernel
theorem dX8_count_48 : decode cX8_count 48 = .ok (.iconst 1, 1) := by decide +kernel
theorem dX8_count_49 : decode cX8_count 49 = .ok (.istore_n 2, 1) := by decide +kernel
theorem dX8_count_50 : decode cX8_count 50 = .ok (.iload_n 2, 1) := by decide +kernel
theorem dX8_count_51 : decode cX8_count 51 = .ok (.aload_n 0, 1) := by decide +kernel
theorem dX8_count_52 : decode cX8_count 52 = .ok (.getfield 163, 3) := by decide +kernel
theorem dX8_count_55 : decode cX8_count 55 = .ok (.if_icmp .gt 53, 3) := by decide +kernel
theorem dX8_count_58 : decode cX8_count 58 = .ok (.iconst 0, 1) := by decide +kernel
theorem dX8_count_59 : decode cX8_count 59 = .ok (.istore_n 3, 1) := by decide +kernel
theorem dX8_count_60 : decode cX8_count 60 = .ok (.iload_n 2, 1) := by decide +kernel
theorem dX8_count_61 : decode cX8_count 61 = .ok (.iload_n 3, 1) := by decide +kernel
theorem dX8_count_62 : decode cX8_count 62 = .ok (.invokestatic 166, 3) := by decide +kernel
theorem dX8_count_65 : decode cX8_count 65 = .ok (.ifCond .ne 9, 3) := by decide +kernel
theorem dX8_count_68 : decode cX8_count 68 = .ok (.iinc 3 1, 3) := by decide +kernel
theorem dX8_count_71 : decode cX8_count 71 = .ok (.goto (-11), 3) := by decide +kernel
theorem dX8_count_74 : decode cX8_count 74 = .ok (.aload_n 0, 1) := by decide +kernel
theorem dX8_count_75 : decode cX8_count 75 = .ok (.getfield 76, 3) := by decide +kernel
theorem dX8_count_78 : decode cX8_count 78 = .ok (.iload_n 2, 1) := by decide +kernel
theorem dX8_count_79 : decode cX8_count 79 = .ok (.aload_n 0, 1) := by decide +kernel
theorem dX8_count_80 : decode cX8_count 80 = .ok (.getfield 76, 3) := by decide +kernel
theorem dX8_count_83 : decode cX8_count 83 = .ok (.iload_n 2, 1) := by decide +kernel
theorem dX8_count_84 : decode cX8_count 84 = .ok (.iload_n 2, 1) := by decide +kernel
theorem dX8_count_85 : decode cX8_count 85 = .ok (.iconst 1, 1) := by decide +kernel
theorem dX8_count_86 : decode cX8_count 86 = .ok (.isub, 1) := by decide +kernel
theorem dX8_count_87 : decode cX8_count 87 = .ok (.iand, 1) := by decide +kernel
theorem dX8_count_88 : decode cX8_count 88 = .ok (.laload, 1) := by decide +kernel
theorem dX8_count_89 : decode cX8_count 89 = .ok (.aload_n 0, 1) := by decide +kernel
theorem dX8_count_90 : decode cX8_count 90 = .ok (.getfield 66, 3) := by decide +kernel
theorem dX8_count_93 : decode cX8_count 93 = .ok (.bipush 40, 2) := by decide +kernel
theorem dX8_count_95 : decode cX8_count 95 = .ok (.iload_n 3, 1) := by decide +kernel
theorem dX8_count_96 : decode cX8_count 96 = .ok (.imul, 1) := by decide +kernel
theorem dX8_count_97 : decode cX8_count 97 = .ok (.iload_n 1, 1) := by decide +kernel
theorem dX8_count_98 : decode cX8_count 98 = .ok (.iadd, 1) := by decide +kernel
theorem dX8_count_99 : decode cX8_count 99 = .ok (.laload, 1) := by decide +kernel
theorem dX8_count_100 : decode cX8_count 100 = .ok (.lmul, 1) := by decide +kernel
theorem dX8_count_101 : decode cX8_count 101 = .ok (.lastore, 1) := by decide +kernel
theorem dX8_count_102 : decode cX8_count 102 = .ok (.iinc 2 1, 3) := by decide +kernel
theorem dX8_count_105 : decode cX8_count 105 = .ok (.goto (-55), 3) := by decide +kernel
theorem dX8_count_108 : decode cX8_count 108 = .ok (.iconst 0, 1) := by decide +kernel
theorem dX8_count_109 : decode cX8_count 109 = .ok (.istore_n 2, 1) := by decide +kernel
theorem dX8_count_110 : decode cX8_count 110 = .ok (.iload_n 2, 1) := by decide +kernel
theorem dX8_count_111 : decode cX8_count 111 = .ok (.aload_n 0, 1) := by decide +kernel
theorem dX8_count_112 : decode cX8_count 112 = .ok (.getfield 163, 3) := by decide +kernel
theorem dX8_count_115 : decode cX8_count 115 = .ok (.if_icmp .gt 21, 3) := by decide +kernel
theorem dX8_count_118 : decode cX8_count 118 = .ok (.aload_n 0, 1) := by decide +kernel
theorem dX8_count_119 : decode cX8_count 119 = .ok (.getfield 82, 3) := by decide +kernel
theorem dX8_count_122 : decode cX8_count 122 = .ok (.iload_n 2, 1) := by decide +kernel
theorem dX8_count_123 : decode cX8_count 123 = .ok (.aload_n 0, 1) := by decide +kernel
theorem dX8_count_124 : decode cX8_count 124 = .ok (.getfield 79, 3) := by decide +kernel
theorem dX8_count_127 : decode cX8_count 127 = .ok (.iload_n 2, 1) := by decide +kernel
theorem dX8_count_128 : decode cX8_count 128 = .ok (.laload, 1) := by decide +kernel
theorem dX8_count_129 : decode cX8_count 129 = .ok (.lastore, 1) := by decide +kernel
theorem dX8_count_130 : decode cX8_count 130 = .ok (.iinc 2 1, 3) := by decide +kernel
theorem dX8_count_133 : decode cX8_count 133 = .ok (.goto (-23), 3) := by decide +kernel
theorem dX8_count_136 : decode cX8_count 136 = .ok (.iconst 0, 1) := by decide +kernel
theorem dX8_count_137 : decode cX8_count 137 = .ok (.istore_n 2, 1) := by decide +kernel
theorem dX8_count_138 : decode cX8_count 138 = .ok (.iload_n 2, 1) := by decide +kernel
theorem dX8_count_139 : decode cX8_count 139 = .ok (.aload_n 0, 1) := by decide +kernel
theorem dX8_count_140 : decode cX8_count 140 = .ok (.getfield 163, 3) := by decide +kernel
theorem dX8_count_143 : decode cX8_count 143 = .ok (.if_icmp .gt 117, 3) := by decide +kernel
theorem dX8_count_146 : decode cX8_count 146 = .ok (.aload_n 0, 1) := by decide +kernel
theorem dX8_count_147 : decode cX8_count 147 = .ok (.getfield 163, 3) := by decide +kernel
theorem dX8_count_150 : decode cX8_count 150 = .ok (.iload_n 2, 1) := by decide +kernel
theorem dX8_count_151 : decode cX8_count 151 = .ok (.iconst (-1), 1) := by decide +kernel
theorem dX8_count_152 : decode cX8_count 152 = .ok (.ixor, 1) := by decide +kernel
theorem dX8_count_153 : decode cX8_count 153 = .ok (.iand, 1) := by decide +kernel
theorem dX8_count_154 : decode cX8_count 154 = .ok (.istore_n 3, 1) := by decide +kernel
theorem dX8_count_155 : decode cX8_count 155 = .ok (.iload_n 3, 1) := by decide +kernel
theorem dX8_count_156 : decode cX8_count 156 = .ok (.istore 4, 2) := by decide +kernel
theorem dX8_count_158 : decode cX8_count 158 = .ok (.iload 4, 2) := by decide +kernel
theorem dX8_count_160 : decode cX8_count 160 = .ok (.ifCond .le 94, 3) := by decide +kernel
theorem dX8_count_163 : decode cX8_count 163 = .ok (.aload_n 0, 1) := by decide +kernel
theorem dX8_count_164 : decode cX8_count 164 = .ok (.getfield 82, 3) := by decide +kernel
theorem dX8_count_167 : decode cX8_count 167 = .ok (.iload_n 2, 1) := by decide +kernel
theorem dX8_count_168 : decode cX8_count 168 = .ok (.laload, 1) := by decide +kernel
theorem dX8_count_169 : decode cX8_count 169 = .ok (.lconst 0, 1) := by decide +kernel
theorem dX8_count_170 : decode cX8_count 170 = .ok (.lcmp, 1) := by decide +kernel
theorem dX8_count_171 : decode cX8_count 171 = .ok (.ifCond .eq 83, 3) := by decide +kernel
theorem dX8_count_174 : decode cX8_count 174 = .ok (.aload_n 0, 1) := by decide +kernel
theorem dX8_count_175 : decode cX8_count 175 = .ok (.getfield 76, 3) := by decide +kernel
theorem dX8_count_178 : decode cX8_count 178 = .ok (.iload 4, 2) := by decide +kernel
theorem dX8_count_180 : decode cX8_count 180 = .ok (.laload, 1) := by decide +kernel
theorem dX8_count_181 : decode cX8_count 181 = .ok (.lconst 0, 1) := by decide +kernel
theorem dX8_count_182 : decode cX8_count 182 = .ok (.lcmp, 1) := by decide +kernel
theorem dX8_count_183 : decode cX8_count 183 = .ok (.ifCond .eq 60, 3) := by decide +kernel
theorem dX8_count_186 : decode cX8_count 186 = .ok (.aload_n 0, 1) := by decide +kernel
theorem dX8_count_187 : decode cX8_count 187 = .ok (.getfield 70, 3) := by decide +kernel
theorem dX8_count_190 : decode cX8_count 190 = .ok (.iload 4, 2) := by decide +kernel
theorem dX8_count_192 : decode cX8_count 192 = .ok (.iaload, 1) := by decide +kernel
theorem dX8_count_193 : decode cX8_count 193 = .ok (.iload_n 2, 1) := by decide +kernel
theorem dX8_count_194 : decode cX8_count 194 = .ok (.iconst (-1), 1) := by decide +kernel
theorem dX8_count_195 : decode cX8_count 195 = .ok (.ixor, 1) := by decide +kernel
theorem dX8_count_196 : decode cX8_count 196 = .ok (.iand, 1) := by decide +kernel
theorem dX8_count_197 : decode cX8_count 197 = .ok (.ifCond .ne 46, 3) := by decide +kernel
theorem dX8_count_200 : decode cX8_count 200 = .ok (.aload_n 0, 1) := by decide +kernel
theorem dX8_count_201 : decode cX8_count 201 = .ok (.getfield 73, 3) := by decide +kernel
theorem dX8_count_204 : decode cX8_count 204 = .ok (.iload 4, 2) := by decide +kernel
theorem dX8_count_206 : decode cX8_count 206 = .ok (.iaload, 1) := by decide +kernel
theorem dX8_count_207 : decode cX8_count 207 = .ok (.iload_n 2, 1) := by decide +kernel
theorem dX8_count_208 : decode cX8_count 208 = .ok (.iload 4, 2) := by decide +kernel
theorem dX8_count_210 : decode cX8_count 210 = .ok (.ior, 1) := by decide +kernel
theorem dX8_count_211 : decode cX8_count 211 = .ok (.iconst (-1), 1) := by decide +kernel
theorem dX8_count_212 : decode cX8_count 212 = .ok (.ixor, 1) := by decide +kernel
theorem dX8_count_213 : decode cX8_count 213 = .ok (.iand, 1) := by decide +kernel
theorem dX8_count_214 : decode cX8_count 214 = .ok (.ifCond .ne 29, 3) := by decide +kernel
theorem dX8_count_217 : decode cX8_count 217 = .ok (.aload_n 0, 1) := by decide +kernel
theorem dX8_count_218 : decode cX8_count 218 = .ok (.getfield 79, 3) := by decide +kernel
theorem dX8_count_221 : decode cX8_count 221 = .ok (.iload_n 2, 1) := by decide +kernel
theorem dX8_count_222 : decode cX8_count 222 = .ok (.iload 4, 2) := by decide +kernel
theorem dX8_count_224 : decode cX8_count 224 = .ok (.ior, 1) := by decide +kernel
theorem dX8_count_225 : decode cX8_count 225 = .ok (.dup2, 1) := by decide +kernel
theorem dX8_count_226 : decode cX8_count 226 = .ok (.laload, 1) := by decide +kernel
theorem dX8_count_227 : decode cX8_count 227 = .ok (.aload_n 0, 1) := by decide +kernel
theorem dX8_count_228 : decode cX8_count 228 = .ok (.getfield 82, 3) := by decide +kernel
theorem dX8_count_231 : decode cX8_count 231 = .ok (.iload_n 2, 1) := by decide +kernel
theorem dX8_count_232 : decode cX8_count 232 = .ok (.laload, 1) := by decide +kernel
theorem dX8_count_233 : decode cX8_count 233 = .ok (.aload_n 0, 1) := by decide +kernel
theorem dX8_count_234 : decode cX8_count 234 = .ok (.getfield 76, 3) := by decide +kernel
theorem dX8_count_237 : decode cX8_count 237 = .ok (.iload 4, 2) := by decide +kernel
theorem dX8_count_239 : decode cX8_count 239 = .ok (.laload, 1) := by decide +kernel
theorem dX8_count_240 : decode cX8_count 240 = .ok (.lmul, 1) := by decide +kernel
theorem dX8_count_241 : decode cX8_count 241 = .ok (.ladd, 1) := by decide +kernel
theorem dX8_count_242 : decode cX8_count 242 = .ok (.lastore, 1) := by decide +kernel
theorem dX8_count_243 : decode cX8_count 243 = .ok (.iload 4, 2) := by decide +kernel
theorem dX8_count_245 : decode cX8_count 245 = .ok (.iconst 1, 1) := by decide +kernel
theorem dX8_count_246 : decode cX8_count 246 = .ok (.isub, 1) := by decide +kernel
theorem dX8_count_247 : decode cX8_count 247 = .ok (.iload_n 3, 1) := by decide +kernel
theorem dX8_count_248 : decode cX8_count 248 = .ok (.iand, 1) := by decide +kernel
theorem dX8_count_249 : decode cX8_count 249 = .ok (.istore 4, 2) := by decide +kernel
theorem dX8_count_251 : decode cX8_count 251 = .ok (.goto (-93), 3) := by decide +kernel
theorem dX8_count_254 : decode cX8_count 254 = .ok (.iinc 2 1, 3) := by decide +kernel
theorem dX8_count_257 : decode cX8_count 257 = .ok (.goto (-119), 3) := by decide +kernel
theorem dX8_count_260 : decode cX8_count 260 = .ok (.iinc 1 1, 3) := by decide +kernel
theorem dX8_count_263 : decode cX8_count 263 = .ok (.goto (-230), 3) := by decide +kernel
theorem dX8_count_266 : decode cX8_count 266 = .ok (.aload_n 0, 1) := by decide +kernel
theorem dX8_count_267 : decode cX8_count 267 = .ok (.getfield 79, 3) := by decide +kernel
theorem dX8_count_270 : decode cX8_count 270 = .ok (.aload_n 0, 1) := by decide +kernel
theorem dX8_count_271 : decode cX8_count 271 = .ok (.getfield 163, 3) := by decide +kernel
theorem dX8_count_274 : decode cX8_count 274 = .ok (.laload, 1) := by decide +kernel
theorem dX8_count_275 : decode cX8_count 275 = .ok (.lreturn, 1) := by decide +kernel
theorem dX8_isBig_0 : decode cX8_isBig 0 = .ok (.lconst 1, 1) := by decide +kernel
theorem dX8_isBig_1 : decode cX8_isBig 1 = .ok (.lstore_n 2, 1) := by decide +kernel
theorem dX8_isBig_2 : decode cX8_isBig 2 = .ok (.iconst 0, 1) := by decide +kernel
theorem dX8_isBig_3 : decode cX8_isBig 3 = .ok (.istore 4, 2) := by decide +kernel
theorem dX8_isBig_5 : decode cX8_isBig 5 = .ok (.iconst 0, 1) := by decide +kernel
theorem dX8_isBig_6 : decode cX8_isBig 6 = .ok (.istore 5, 2) := by decide +kernel
theorem dX8_isBig_8 : decode cX8_isBig 8 = .ok (.iconst 0, 1) := by decide +kernel
theorem dX8_isBig_9 : decode cX8_isBig 9 = .ok (.istore 6, 2) := by decide +kernel
theorem dX8_isBig_11 : decode cX8_isBig 11 = .ok (.iload 6, 2) := by decide +kernel
theorem dX8_isBig_13 : decode cX8_isBig 13 = .ok (.aload_n 0, 1) := by decide +kernel
theorem dX8_isBig_14 : decode cX8_isBig 14 = .ok (.getfield 97, 3) := by decide +kernel
theorem dX8_isBig_17 : decode cX8_isBig 17 = .ok (.if_icmp .ge 118, 3) := by decide +kernel
theorem dX8_isBig_20 : decode cX8_isBig 20 = .ok (.lconst 0, 1) := by decide +kernel
theorem dX8_isBig_21 : decode cX8_isBig 21 = .ok (.lstore 7, 2) := by decide +kernel
theorem dX8_isBig_23 : decode cX8_isBig 23 = .ok (.iconst 0, 1) := by decide +kernel
theorem dX8_isBig_24 : decode cX8_isBig 24 = .ok (.istore 9, 2) := by decide +kernel
theorem dX8_isBig_26 : decode cX8_isBig 26 = .ok (.iload 9, 2) := by decide +kernel
theorem dX8_isBig_28 : decode cX8_isBig 28 = .ok (.aload_n 0, 1) := by decide +kernel
theorem dX8_isBig_29 : decode cX8_isBig 29 = .ok (.getfield 7, 3) := by decide +kernel
theorem dX8_isBig_32 : decode cX8_isBig 32 = .ok (.if_icmp .ge 22, 3) := by decide +kernel
theorem dX8_isBig_35 : decode cX8_isBig 35 = .ok (.lload 7, 2) := by decide +kernel
theorem dX8_isBig_37 : decode cX8_isBig 37 = .ok (.aload_n 0, 1) := by decide +kernel
theorem dX8_isBig_38 : decode cX8_isBig 38 = .ok (.iload 6, 2) := by decide +kernel
theorem dX8_isBig_40 : decode cX8_isBig 40 = .ok (.iload 9, 2) := by decide +kernel
theorem dX8_isBig_42 : decode cX8_isBig 42 = .ok (.invokevirtual 132, 3) := by decide +kernel
theorem dX8_isBig_45 : decode cX8_isBig 45 = .ok (.ladd, 1) := by decide +kernel
theorem dX8_isBig_46 : decode cX8_isBig 46 = .ok (.lstore 7, 2) := by decide +kernel
theorem dX8_isBig_48 : decode cX8_isBig 48 = .ok (.iinc 9 1, 3) := by decide +kernel
theorem dX8_isBig_51 : decode cX8_isBig 51 = .ok (.goto (-25), 3) := by decide +kernel
theorem dX8_isBig_54 : decode cX8_isBig 54 = .ok (.iload_n 1, 1) := by decide +kernel
theorem dX8_isBig_55 : decode cX8_isBig 55 = .ok (.iload 6, 2) := by decide +kernel
theorem dX8_isBig_57 : decode cX8_isBig 57 = .ok (.invokestatic 166, 3) := by decide +kernel
theorem dX8_isBig_60 : decode cX8_isBig 60 = .ok (.ifCond .eq 69, 3) := by decide +kernel
theorem dX8_isBig_63 : decode cX8_isBig 63 = .ok (.iload 4, 2) := by decide +kernel
theorem dX8_isBig_65 : decode cX8_isBig 65 = .ok (.lload 7, 2) := by decide +kernel
theorem dX8_isBig_67 : decode cX8_isBig 67 = .ok (.lconst 0, 1) := by decide +kernel
theorem dX8_isBig_68 : decode cX8_isBig 68 = .ok (.lcmp, 1) := by decide +kernel
theorem dX8_isBig_69 : decode cX8_isBig 69 = .ok (.ifCond .ne 7, 3) := by decide +kernel
theorem dX8_isBig_72 : decode cX8_isBig 72 = .ok (.iconst 1, 1) := by decide +kernel
theorem dX8_isBig_73 : decode cX8_isBig 73 = .ok (.goto 4, 3) := by decide +kernel
theorem dX8_isBig_76 : decode cX8_isBig 76 = .ok (.iconst 0, 1) := by decide +kernel
theorem dX8_isBig_77 : decode cX8_isBig 77 = .ok (.ior, 1) := by decide +kernel
theorem dX8_isBig_78 : decode cX8_isBig 78 = .ok (.istore 4, 2) := by decide +kernel
theorem dX8_isBig_80 : decode cX8_isBig 80 = .ok (.iload 5, 2) := by decide +kernel
theorem dX8_isBig_82 : decode cX8_isBig 82 = .ok (.lload 7, 2) := by decide +kernel
theorem dX8_isBig_84 : decode cX8_isBig 84 = .ok (.lconst 0, 1) := by decide +kernel
theorem dX8_isBig_85 : decode cX8_isBig 85 = .ok (.lcmp, 1) := by decide +kernel
theorem dX8_isBig_86 : decode cX8_isBig 86 = .ok (.ifCond .le 18, 3) := by decide +kernel
theorem dX8_isBig_89 : decode cX8_isBig 89 = .ok (.lload_n 2, 1) := by decide +kernel
theorem dX8_isBig_90 : decode cX8_isBig 90 = .ok (.ldc2_w 170, 3) := by decide +kernel
theorem dX8_isBig_93 : decode cX8_isBig 93 = .ok (.lload 7, 2) := by decide +kernel
theorem dX8_isBig_95 : decode cX8_isBig 95 = .ok (.ldiv, 1) := by decide +kernel
theorem dX8_isBig_96 : decode cX8_isBig 96 = .ok (.lcmp, 1) := by decide +kernel
theorem dX8_isBig_97 : decode cX8_isBig 97 = .ok (.ifCond .le 7, 3) := by decide +kernel
theorem dX8_isBig_100 : decode cX8_isBig 100 = .ok (.iconst 1, 1) := by decide +kernel
theorem dX8_isBig_101 : decode cX8_isBig 101 = .ok (.goto 4, 3) := by decide +kernel
theorem dX8_isBig_104 : decode cX8_isBig 104 = .ok (.iconst 0, 1) := by decide +kernel
theorem dX8_isBig_105 : decode cX8_isBig 105 = .ok (.ior, 1) := by decide +kernel
theorem dX8_isBig_106 : decode cX8_isBig 106 = .ok (.istore 5, 2) := by decide +kernel
theorem dX8_isBig_108 : decode cX8_isBig 108 = .ok (.iload 5, 2) := by decide +kernel
theorem dX8_isBig_110 : decode cX8_isBig 110 = .ok (.ifCond .ne 10, 3) := by decide +kernel
theorem dX8_isBig_113 : decode cX8_isBig 113 = .ok (.lload 7, 2) := by decide +kernel
theorem dX8_isBig_115 : decode cX8_isBig 115 = .ok (.lconst 0, 1) := by decide +kernel
theorem dX8_isBig_116 : decode cX8_isBig 116 = .ok (.lcmp, 1) := by decide +kernel
theorem dX8_isBig_117 : decode cX8_isBig 117 = .ok (.ifCond .ne 7, 3) := by decide +kernel
theorem dX8_isBig_120 : decode cX8_isBig 120 = .ok (.lload_n 2, 1) := by decide +kernel
theorem dX8_isBig_121 : decode cX8_isBig 121 = .ok (.goto 7, 3) := by decide +kernel
theorem dX8_isBig_124 : decode cX8_isBig 124 = .ok (.lload_n 2, 1) := by decide +kernel
theorem dX8_isBig_125 : decode cX8_isBig 125 = .ok (.lload 7, 2) := by decide +kernel
theorem dX8_isBig_127 : decode cX8_isBig 127 = .ok (.lmul, 1) := by decide +kernel
theorem dX8_isBig_128 : decode cX8_isBig 128 = .ok (.lstore_n 2, 1) := by decide +kernel
theorem dX8_isBig_129 : decode cX8_isBig 129 = .ok (.iinc 6 1, 3) := by decide +kernel
theorem dX8_isBig_132 : decode cX8_isBig 132 = .ok (.goto (-121), 3) := by decide +kernel
theorem dX8_isBig_135 : decode cX8_isBig 135 = .ok (.iload 5, 2) := by decide +kernel
theorem dX8_isBig_137 : decode cX8_isBig 137 = .ok (.ifCond .eq 12, 3) := by decide +kernel
theorem dX8_isBig_140 : decode cX8_isBig 140 = .ok (.iload 4, 2) := by decide +kernel
theorem dX8_isBig_142 : decode cX8_isBig 142 = .ok (.ifCond .ne 7, 3) := by decide +kernel
theorem dX8_isBig_145 : decode cX8_isBig 145 = .ok (.iconst 1, 1) := by decide +kernel
theorem dX8_isBig_146 : decode cX8_isBig 146 = .ok (.goto 4, 3) := by decide +kernel
theorem dX8_isBig_149 : decode cX8_isBig 149 = .ok (.iconst 0, 1) := by decide +kernel
theorem dX8_isBig_150 : decode cX8_isBig 150 = .ok (.ireturn, 1) := by decide +kernel
theorem dX8_all_0 : decode cX8_all 0 = .ok (.iconst 1, 1) := by decide +kernel
theorem dX8_all_1 : decode cX8_all 1 = .ok (.aload_n 0, 1) := by decide +kernel
theorem dX8_all_2 : decode cX8_all 2 = .ok (.getfield 97, 3) := by decide +kernel
theorem dX8_all_5 : decode cX8_all 5 = .ok (.ishl, 1) := by decide +kernel
theorem dX8_all_6 : decode cX8_all 6 = .ok (.iconst 1, 1) := by decide +kernel
theorem dX8_all_7 : decode cX8_all 7 = .ok (.isub, 1) := by decide +kernel
theorem dX8_all_8 : decode cX8_all 8 = .ok (.ireturn, 1) := by decide +kernel
theorem dX8_askTotal_0 : decode cX8_askTotal 0 = .ok (.aload_n 0, 1) := by decide +kernel
theorem dX8_askTotal_1 : decode cX8_askTotal 1 = .ok (.aload_n 0, 1) := by decide +kernel
theorem dX8_askTotal_2 : decode cX8_askTotal 2 = .ok (.invokevirtual 172, 3) := by decide +kernel
theorem dX8_askTotal_5 : decode cX8_askTotal 5 = .ok (.invokevirtual 175, 3) := by decide +kernel
theorem dX8_askTotal_8 : decode cX8_askTotal 8 = .ok (.ifCond .eq 6, 3) := by decide +kernel
theorem dX8_askTotal_11 : decode cX8_askTotal 11 = .ok (.bipush (-5), 2) := by decide +kernel
theorem dX8_askTotal_13 : decode cX8_askTotal 13 = .ok (.ireturn, 1) := by decide +kernel
theorem dX8_askTotal_14 : decode cX8_askTotal 14 = .ok (.aload_n 0, 1) := by decide +kernel
theorem dX8_askTotal_15 : decode cX8_askTotal 15 = .ok (.aload_n 0, 1) := by decide +kernel
theorem dX8_askTotal_16 : decode cX8_askTotal 16 = .ok (.invokevirtual 172, 3) := by decide +kernel
theorem dX8_askTotal_19 : decode cX8_askTotal 19 = .ok (.invokevirtual 178, 3) := by decide +kernel
theorem dX8_askTotal_22 : decode cX8_askTotal 22 = .ok (.aload_n 0, 1) := by decide +kernel
theorem dX8_askTotal_23 : decode cX8_askTotal 23 = .ok (.aload_n 0, 1) := by decide +kernel
theorem dX8_askTotal_24 : decode cX8_askTotal 24 = .ok (.invokevirtual 182, 3) := by decide +kernel
theorem dX8_askTotal_27 : decode cX8_askTotal 27 = .ok (.putfield 186, 3) := by decide +kernel
theorem dX8_askTotal_30 : decode cX8_askTotal 30 = .ok (.aload_n 0, 1) := by decide +kernel
theorem dX8_askTotal_31 : decode cX8_askTotal 31 = .ok (.getfield 186, 3) := by decide +kernel
theorem dX8_askTotal_34 : decode cX8_askTotal 34 = .ok (.lconst 0, 1) := by decide +kernel
theorem dX8_askTotal_35 : decode cX8_askTotal 35 = .ok (.lcmp, 1) := by decide +kernel
theorem dX8_askTotal_36 : decode cX8_askTotal 36 = .ok (.ifCond .ne 8, 3) := by decide +kernel
theorem dX8_askTotal_39 : decode cX8_askTotal 39 = .ok (.bipush (-4), 2) := by decide +kernel
theorem dX8_askTotal_41 : decode cX8_askTotal 41 = .ok (.goto 4, 3) := by decide +kernel
theorem dX8_askTotal_44 : decode cX8_askTotal 44 = .ok (.iconst 0, 1) := by decide +kernel
theorem dX8_askTotal_45 : decode cX8_askTotal 45 = .ok (.ireturn, 1) := by decide +kernel
theorem dX8_total_0 : decode cX8_total 0 = .ok (.aload_n 0, 1) := by decide +kernel
theorem dX8_total_1 : decode cX8_total 1 = .ok (.aload_n 0, 1) := by decide +kernel
theorem dX8_total_2 : decode cX8_total 2 = .ok (.invokevirtual 172, 3) := by decide +kernel
theorem dX8_total_5 : decode cX8_total 5 = .ok (.invokevirtual 175, 3) := by decide +kernel
theorem dX8_total_8 : decode cX8_total 8 = .ok (.ifCond .eq 7, 3) := by decide +kernel
theorem dX8_total_11 : decode cX8_total 11 = .ok (.ldc2_w 189, 3) := by decide +kernel
theorem dX8_total_14 : decode cX8_total 14 = .ok (.lreturn, 1) := by decide +kernel
theorem dX8_total_15 : decode cX8_total 15 = .ok (.aload_n 0, 1) := by decide +kernel
theorem dX8_total_16 : decode cX8_total 16 = .ok (.aload_n 0, 1) := by decide +kernel
theorem dX8_total_17 : decode cX8_total 17 = .ok (.invokevirtual 172, 3) := by decide +kernel
theorem dX8_total_20 : decode cX8_total 20 = .ok (.invokevirtual 178, 3) := by decide +kernel
theorem dX8_total_23 : decode cX8_total 23 = .ok (.aload_n 0, 1) := by decide +kernel
theorem dX8_total_24 : decode cX8_total 24 = .ok (.invokevirtual 182, 3) := by decide +kernel
theorem dX8_total_27 : decode cX8_total 27 = .ok (.lreturn, 1) := by decide +kernel
theorem dX8_common_0 : decode cX8_common 0 = .ok (.lload_n 0, 1) := by decide +kernel
theorem dX8_common_1 : decode cX8_common 1 = .ok (.lstore 4, 2) := by decide +kernel
theorem dX8_common_3 : decode cX8_common 3 = .ok (.lload_n 2, 1) := by decide +kernel
theorem dX8_common_4 : decode cX8_common 4 = .ok (.lstore 6, 2) := by decide +kernel
theorem dX8_common_6 : decode cX8_common 6 = .ok (.lload 6, 2) := by decide +kernel
theorem dX8_common_8 : decode cX8_common 8 = .ok (.lconst 0, 1) := by decide +kernel
theorem dX8_common_9 : decode cX8_common 9 = .ok (.lcmp, 1) := by decide +kernel
theorem dX8_common_10 : decode cX8_common 10 = .ok (.ifCond .eq 21, 3) := by decide +kernel
theorem dX8_common_13 : decode cX8_common 13 = .ok (.lload 4, 2) := by decide +kernel
theorem dX8_common_15 : decode cX8_common 15 = .ok (.lload 6, 2) := by decide +kernel
theorem dX8_common_17 : decode cX8_common 17 = .ok (.lrem, 1) := by decide +kernel
theorem dX8_common_18 : decode cX8_common 18 = .ok (.lstore 8, 2) := by decide +kernel
theorem dX8_common_20 : decode cX8_common 20 = .ok (.lload 6, 2) := by decide +kernel
theorem dX8_common_22 : decode cX8_common 22 = .ok (.lstore 4, 2) := by decide +kernel
theorem dX8_common_24 : decode cX8_common 24 = .ok (.lload 8, 2) := by decide +kernel
theorem dX8_common_26 : decode cX8_common 26 = .ok (.lstore 6, 2) := by decide +kernel
theorem dX8_common_28 : decode cX8_common 28 = .ok (.goto (-22), 3) := by decide +kernel
theorem dX8_common_31 : decode cX8_common 31 = .ok (.lload 4, 2) := by decide +kernel
theorem dX8_common_33 : decode cX8_common 33 = .ok (.lreturn, 1) := by decide +kernel
theorem dX8_fraction_0 : decode cX8_fraction 0 = .ok (.lload_n 1, 1) := by decide +kernel
theorem dX8_fraction_1 : decode cX8_fraction 1 = .ok (.lload_n 3, 1) := by decide +kernel
theorem dX8_fraction_2 : decode cX8_fraction 2 = .ok (.invokestatic 191, 3) := by decide +kernel
theorem dX8_fraction_5 : decode cX8_fraction 5 = .ok (.lstore 5, 2) := by decide +kernel
theorem dX8_fraction_7 : decode cX8_fraction 7 = .ok (.aload_n 0, 1) := by decide +kernel
theorem dX8_fraction_8 : decode cX8_fraction 8 = .ok (.lload_n 3, 1) := by decide +kernel
theorem dX8_fraction_9 : decode cX8_fraction 9 = .ok (.lload 5, 2) := by decide +kernel
theorem dX8_fraction_11 : decode cX8_fraction 11 = .ok (.ldiv, 1) := by decide +kernel
theorem dX8_fraction_12 : decode cX8_fraction 12 = .ok (.putfield 41, 3) := by decide +kernel
theorem dX8_fraction_15 : decode cX8_fraction 15 = .ok (.lload_n 1, 1) := by decide +kernel
theorem dX8_fraction_16 : decode cX8_fraction 16 = .ok (.lload 5, 2) := by decide +kernel
theorem dX8_fraction_18 : decode cX8_fraction 18 = .ok (.ldiv, 1) := by decide +kernel
theorem dX8_fraction_19 : decode cX8_fraction 19 = .ok (.lreturn, 1) := by decide +kernel
theorem dX8_below_0 : decode cX8_below 0 = .ok (.aload_n 0, 1) := by decide +kernel
theorem dX8_below_1 : decode cX8_below 1 = .ok (.getfield 41, 3) := by decide +kernel
theorem dX8_below_4 : decode cX8_below 4 = .ok (.lreturn, 1) := by decide +kernel
theorem dX8_only_0 : decode cX8_only 0 = .ok (.iconst 0, 1) := by decide +kernel
theorem dX8_only_1 : decode cX8_only 1 = .ok (.istore 4, 2) := by decide +kernel
theorem dX8_only_3 : decode cX8_only 3 = .ok (.iload 4, 2) := by decide +kernel
theorem dX8_only_5 : decode cX8_only 5 = .ok (.aload_n 0, 1) := by decide +kernel
theorem dX8_only_6 : decode cX8_only 6 = .ok (.getfield 7, 3) := by decide +kernel
theorem dX8_only_9 : decode cX8_only 9 = .ok (.if_icmp .ge 44, 3) := by decide +kernel
theorem dX8_only_12 : decode cX8_only 12 = .ok (.aload_n 0, 1) := by decide +kernel
theorem dX8_only_13 : decode cX8_only 13 = .ok (.getfield 66, 3) := by decide +kernel
theorem dX8_only_16 : decode cX8_only 16 = .ok (.bipush 40, 2) := by decide +kernel
theorem dX8_only_18 : decode cX8_only 18 = .ok (.iload_n 1, 1) := by decide +kernel
theorem dX8_only_19 : decode cX8_only 19 = .ok (.imul, 1) := by decide +kernel
theorem dX8_only_20 : decode cX8_only 20 = .ok (.iload 4, 2) := by decide +kernel
theorem dX8_only_22 : decode cX8_only 22 = .ok (.iadd, 1) := by decide +kernel
theorem dX8_only_23 : decode cX8_only 23 = .ok (.iload 4, 2) := by decide +kernel
theorem dX8_only_25 : decode cX8_only 25 = .ok (.iload_n 2, 1) := by decide +kernel
theorem dX8_only_26 : decode cX8_only 26 = .ok (.if_icmp .lt 19, 3) := by decide +kernel
theorem dX8_only_29 : decode cX8_only 29 = .ok (.iload 4, 2) := by decide +kernel
theorem dX8_only_31 : decode cX8_only 31 = .ok (.iload_n 3, 1) := by decide +kernel
theorem dX8_only_32 : decode cX8_only 32 = .ok (.if_icmp .gt 13, 3) := by decide +kernel
theorem dX8_only_35 : decode cX8_only 35 = .ok (.aload_n 0, 1) := by decide +kernel
theorem dX8_only_36 : decode cX8_only 36 = .ok (.iload_n 1, 1) := by decide +kernel
theorem dX8_only_37 : decode cX8_only 37 = .ok (.iload 4, 2) := by decide +kernel
theorem dX8_only_39 : decode cX8_only 39 = .ok (.invokevirtual 132, 3) := by decide +kernel
theorem dX8_only_42 : decode cX8_only 42 = .ok (.goto 4, 3) := by decide +kernel
theorem dX8_only_45 : decode cX8_only 45 = .ok (.lconst 0, 1) := by decide +kernel
theorem dX8_only_46 : decode cX8_only 46 = .ok (.lastore, 1) := by decide +kernel
theorem dX8_only_47 : decode cX8_only 47 = .ok (.iinc 4 1, 3) := by decide +kernel
theorem dX8_only_50 : decode cX8_only 50 = .ok (.goto (-47), 3) := by decide +kernel
theorem dX8_only_53 : decode cX8_only 53 = .ok (.return_, 1) := by decide +kernel
theorem dX8_countIn_0 : decode cX8_countIn 0 = .ok (.aload_n 0, 1) := by decide +kernel
theorem dX8_countIn_1 : decode cX8_countIn 1 = .ok (.iload_n 1, 1) := by decide +kernel
theorem dX8_countIn_2 : decode cX8_countIn 2 = .ok (.iload_n 2, 1) := by decide +kernel
theorem dX8_countIn_3 : decode cX8_countIn 3 = .ok (.iload_n 3, 1) := by decide +kernel
theorem dX8_countIn_4 : decode cX8_countIn 4 = .ok (.invokevirtual 195, 3) := by decide +kernel
theorem dX8_countIn_7 : decode cX8_countIn 7 = .ok (.aload_n 0, 1) := by decide +kernel
theorem dX8_countIn_8 : decode cX8_countIn 8 = .ok (.invokevirtual 182, 3) := by decide +kernel
theorem dX8_countIn_11 : decode cX8_countIn 11 = .ok (.lstore 4, 2) := by decide +kernel
theorem dX8_countIn_13 : decode cX8_countIn 13 = .ok (.aload_n 0, 1) := by decide +kernel
theorem dX8_countIn_14 : decode cX8_countIn 14 = .ok (.iload_n 1, 1) := by decide +kernel
theorem dX8_countIn_15 : decode cX8_countIn 15 = .ok (.iconst 0, 1) := by decide +kernel
theorem dX8_countIn_16 : decode cX8_countIn 16 = .ok (.aload_n 0, 1) := by decide +kernel
theorem dX8_countIn_17 : decode cX8_countIn 17 = .ok (.getfield 7, 3) := by decide +kernel
theorem dX8_countIn_20 : decode cX8_countIn 20 = .ok (.iconst 1, 1) := by decide +kernel
theorem dX8_countIn_21 : decode cX8_countIn 21 = .ok (.isub, 1) := by decide +kernel
theorem dX8_countIn_22 : decode cX8_countIn 22 = .ok (.invokevirtual 195, 3) := by decide +kernel
theorem dX8_countIn_25 : decode cX8_countIn 25 = .ok (.lload 4, 2) := by decide +kernel
theorem dX8_countIn_27 : decode cX8_countIn 27 = .ok (.lreturn, 1) := by decide +kernel
theorem dX8_share_0 : decode cX8_share 0 = .ok (.aload_n 0, 1) := by decide +kernel
theorem dX8_share_1 : decode cX8_share 1 = .ok (.iload_n 1, 1) := by decide +kernel
theorem dX8_share_2 : decode cX8_share 2 = .ok (.invokevirtual 117, 3) := by decide +kernel
theorem dX8_share_5 : decode cX8_share 5 = .ok (.ifCond .eq 11, 3) := by decide +kernel
theorem dX8_share_8 : decode cX8_share 8 = .ok (.aload_n 0, 1) := by decide +kernel
theorem dX8_share_9 : decode cX8_share 9 = .ok (.iload_n 2, 1) := by decide +kernel
theorem dX8_share_10 : decode cX8_share 10 = .ok (.invokevirtual 135, 3) := by decide +kernel
theorem dX8_share_13 : decode cX8_share 13 = .ok (.ifCond .ne 7, 3) := by decide +kernel
theorem dX8_share_16 : decode cX8_share 16 = .ok (.ldc2_w 199, 3) := by decide +kernel
theorem dX8_share_19 : decode cX8_share 19 = .ok (.lreturn, 1) := by decide +kernel
theorem dX8_share_20 : decode cX8_share 20 = .ok (.aload_n 0, 1) := by decide +kernel
theorem dX8_share_21 : decode cX8_share 21 = .ok (.invokevirtual 201, 3) := by decide +kernel
theorem dX8_share_24 : decode cX8_share 24 = .ok (.istore_n 3, 1) := by decide +kernel
theorem dX8_share_25 : decode cX8_share 25 = .ok (.iload_n 3, 1) := by decide +kernel
theorem dX8_share_26 : decode cX8_share 26 = .ok (.ifCond .eq 8, 3) := by decide +kernel
theorem dX8_share_29 : decode cX8_share 29 = .ok (.iload_n 3, 1) := by decide +kernel
theorem dX8_share_30 : decode cX8_share 30 = .ok (.i2l, 1) := by decide +kernel
theorem dX8_share_31 : decode cX8_share 31 = .ok (.goto 18, 3) := by decide +kernel
theorem dX8_share_34 : decode cX8_share 34 = .ok (.aload_n 0, 1) := by decide +kernel
theorem dX8_share_35 : decode cX8_share 35 = .ok (.aload_n 0, 1) := by decide +kernel
theorem dX8_share_36 : decode cX8_share 36 = .ok (.iload_n 1, 1) := by decide +kernel
theorem dX8_share_37 : decode cX8_share 37 = .ok (.iload_n 2, 1) := by decide +kernel
theorem dX8_share_38 : decode cX8_share 38 = .ok (.iload_n 2, 1) := by decide +kernel
theorem dX8_share_39 : decode cX8_share 39 = .ok (.invokevirtual 204, 3) := by decide +kernel
theorem dX8_share_42 : decode cX8_share 42 = .ok (.aload_n 0, 1) := by decide +kernel
theorem dX8_share_43 : decode cX8_share 43 = .ok (.getfield 186, 3) := by decide +kernel
theorem dX8_share_46 : decode cX8_share 46 = .ok (.invokevirtual 208, 3) := by decide +kernel
theorem dX8_share_49 : decode cX8_share 49 = .ok (.lreturn, 1) := by decide +kernel
theorem dX8_until_0 : decode cX8_until 0 = .ok (.aload_n 0, 1) := by decide +kernel
theorem dX8_until_1 : decode cX8_until 1 = .ok (.iload_n 1, 1) := by decide +kernel
theorem dX8_until_2 : decode cX8_until 2 = .ok (.invokevirtual 117, 3) := by decide +kernel
theorem dX8_until_5 : decode cX8_until 5 = .ok (.ifCond .eq 11, 3) := by decide +kernel
theorem dX8_until_8 : decode cX8_until 8 = .ok (.aload_n 0, 1) := by decide +kernel
theorem dX8_until_9 : decode cX8_until 9 = .ok (.iload_n 2, 1) := by decide +kernel
theorem dX8_until_10 : decode cX8_until 10 = .ok (.invokevirtual 135, 3) := by decide +kernel
theorem dX8_until_13 : decode cX8_until 13 = .ok (.ifCond .ne 7, 3) := by decide +kernel
theorem dX8_until_16 : decode cX8_until 16 = .ok (.ldc2_w 199, 3) := by decide +kernel
theorem dX8_until_19 : decode cX8_until 19 = .ok (.lreturn, 1) := by decide +kernel
theorem dX8_until_20 : decode cX8_until 20 = .ok (.aload_n 0, 1) := by decide +kernel
theorem dX8_until_21 : decode cX8_until 21 = .ok (.invokevirtual 201, 3) := by decide +kernel
theorem dX8_until_24 : decode cX8_until 24 = .ok (.istore_n 3, 1) := by decide +kernel
theorem dX8_until_25 : decode cX8_until 25 = .ok (.iload_n 3, 1) := by decide +kernel
theorem dX8_until_26 : decode cX8_until 26 = .ok (.ifCond .eq 8, 3) := by decide +kernel
theorem dX8_until_29 : decode cX8_until 29 = .ok (.iload_n 3, 1) := by decide +kernel
theorem dX8_until_30 : decode cX8_until 30 = .ok (.i2l, 1) := by decide +kernel
theorem dX8_until_31 : decode cX8_until 31 = .ok (.goto 18, 3) := by decide +kernel
theorem dX8_until_34 : decode cX8_until 34 = .ok (.aload_n 0, 1) := by decide +kernel
theorem dX8_until_35 : decode cX8_until 35 = .ok (.aload_n 0, 1) := by decide +kernel
theorem dX8_until_36 : decode cX8_until 36 = .ok (.iload_n 1, 1) := by decide +kernel
theorem dX8_until_37 : decode cX8_until 37 = .ok (.iconst 0, 1) := by decide +kernel
theorem dX8_until_38 : decode cX8_until 38 = .ok (.iload_n 2, 1) := by decide +kernel
theorem dX8_until_39 : decode cX8_until 39 = .ok (.invokevirtual 204, 3) := by decide +kernel
theorem dX8_until_42 : decode cX8_until 42 = .ok (.aload_n 0, 1) := by decide +kernel
theorem dX8_until_43 : decode cX8_until 43 = .ok (.getfield 186, 3) := by decide +kernel
theorem dX8_until_46 : decode cX8_until 46 = .ok (.invokevirtual 208, 3) := by decide +kernel
theorem dX8_until_49 : decode cX8_until 49 = .ok (.lreturn, 1) := by decide +kernel
theorem dX8_together_0 : decode cX8_together 0 = .ok (.lconst 0, 1) := by decide +kernel
theorem dX8_together_1 : decode cX8_together 1 = .ok (.lstore 5, 2) := by decide +kernel
theorem dX8_together_3 : decode cX8_together 3 = .ok (.iconst 0, 1) := by decide +kernel
theorem dX8_together_4 : decode cX8_together 4 = .ok (.istore 7, 2) := by decide +kernel
theorem dX8_together_6 : decode cX8_together 6 = .ok (.iload 7, 2) := by decide +kernel
theorem dX8_together_8 : decode cX8_together 8 = .ok (.aload_n 0, 1) := by decide +kernel
theorem dX8_together_9 : decode cX8_together 9 = .ok (.getfield 7, 3) := by decide +kernel
theorem dX8_together_12 : decode cX8_together 12 = .ok (.if_icmp .ge 52, 3) := by decide +kernel
theorem dX8_together_15 : decode cX8_together 15 = .ok (.aload_n 0, 1) := by decide +kernel
theorem dX8_together_16 : decode cX8_together 16 = .ok (.iload_n 1, 1) := by decide +kernel
theorem dX8_together_17 : decode cX8_together 17 = .ok (.iload 7, 2) := by decide +kernel
theorem dX8_together_19 : decode cX8_together 19 = .ok (.iload 7, 2) := by decide +kernel
theorem dX8_together_21 : decode cX8_together 21 = .ok (.invokevirtual 195, 3) := by decide +kernel
theorem dX8_together_24 : decode cX8_together 24 = .ok (.aload_n 0, 1) := by decide +kernel
theorem dX8_together_25 : decode cX8_together 25 = .ok (.iload_n 2, 1) := by decide +kernel
theorem dX8_together_26 : decode cX8_together 26 = .ok (.iload 7, 2) := by decide +kernel
theorem dX8_together_28 : decode cX8_together 28 = .ok (.iload_n 3, 1) := by decide +kernel
theorem dX8_together_29 : decode cX8_together 29 = .ok (.iadd, 1) := by decide +kernel
theorem dX8_together_30 : decode cX8_together 30 = .ok (.ifCond .le 10, 3) := by decide +kernel
theorem dX8_together_33 : decode cX8_together 33 = .ok (.iload 7, 2) := by decide +kernel
theorem dX8_together_35 : decode cX8_together 35 = .ok (.iload_n 3, 1) := by decide +kernel
theorem dX8_together_36 : decode cX8_together 36 = .ok (.iadd, 1) := by decide +kernel
theorem dX8_together_37 : decode cX8_together 37 = .ok (.goto 4, 3) := by decide +kernel
theorem dX8_together_40 : decode cX8_together 40 = .ok (.iconst 0, 1) := by decide +kernel
theorem dX8_together_41 : decode cX8_together 41 = .ok (.iload 7, 2) := by decide +kernel
theorem dX8_together_43 : decode cX8_together 43 = .ok (.iload 4, 2) := by decide +kernel
theorem dX8_together_45 : decode cX8_together 45 = .ok (.iadd, 1) := by decide +kernel
theorem dX8_together_46 : decode cX8_together 46 = .ok (.invokevirtual 195, 3) := by decide +kernel
theorem dX8_together_49 : decode cX8_together 49 = .ok (.lload 5, 2) := by decide +kernel
theorem dX8_together_51 : decode cX8_together 51 = .ok (.aload_n 0, 1) := by decide +kernel
theorem dX8_together_52 : decode cX8_together 52 = .ok (.invokevirtual 182, 3) := by decide +kernel
theorem dX8_together_55 : decode cX8_together 55 = .ok (.ladd, 1) := by decide +kernel
theorem dX8_together_56 : decode cX8_together 56 = .ok (.lstore 5, 2) := by decide +kernel
theorem dX8_together_58 : decode cX8_together 58 = .ok (.iinc 7 1, 3) := by decide +kernel
theorem dX8_together_61 : decode cX8_together 61 = .ok (.goto (-55), 3) := by decide +kernel
theorem dX8_together_64 : decode cX8_together 64 = .ok (.lload 5, 2) := by decide +kernel
theorem dX8_together_66 : decode cX8_together 66 = .ok (.lreturn, 1) := by decide +kernel
theorem dX8_order_0 : decode cX8_order 0 = .ok (.aload_n 0, 1) := by decide +kernel
theorem dX8_order_1 : decode cX8_order 1 = .ok (.iload_n 1, 1) := by decide +kernel
theorem dX8_order_2 : decode cX8_order 2 = .ok (.invokevirtual 117, 3) := by decide +kernel
theorem dX8_order_5 : decode cX8_order 5 = .ok (.ifCond .eq 11, 3) := by decide +kernel
theorem dX8_order_8 : decode cX8_order 8 = .ok (.aload_n 0, 1) := by decide +kernel
theorem dX8_order_9 : decode cX8_order 9 = .ok (.iload_n 2, 1) := by decide +kernel
theorem dX8_order_10 : decode cX8_order 10 = .ok (.invokevirtual 117, 3) := by decide +kernel
theorem dX8_order_13 : decode cX8_order 13 = .ok (.ifCond .ne 7, 3) := by decide +kernel
theorem dX8_order_16 : decode cX8_order 16 = .ok (.ldc2_w 199, 3) := by decide +kernel
theorem dX8_order_19 : decode cX8_order 19 = .ok (.lreturn, 1) := by decide +kernel
theorem dX8_order_20 : decode cX8_order 20 = .ok (.aload_n 0, 1) := by decide +kernel
theorem dX8_order_21 : decode cX8_order 21 = .ok (.invokevirtual 201, 3) := by decide +kernel
theorem dX8_order_24 : decode cX8_order 24 = .ok (.istore_n 3, 1) := by decide +kernel
theorem dX8_order_25 : decode cX8_order 25 = .ok (.iload_n 3, 1) := by decide +kernel
theorem dX8_order_26 : decode cX8_order 26 = .ok (.ifCond .eq 6, 3) := by decide +kernel
theorem dX8_order_29 : decode cX8_order 29 = .ok (.iload_n 3, 1) := by decide +kernel
theorem dX8_order_30 : decode cX8_order 30 = .ok (.i2l, 1) := by decide +kernel
theorem dX8_order_31 : decode cX8_order 31 = .ok (.lreturn, 1) := by decide +kernel
theorem dX8_order_32 : decode cX8_order 32 = .ok (.iload_n 1, 1) := by decide +kernel
theorem dX8_order_33 : decode cX8_order 33 = .ok (.iload_n 2, 1) := by decide +kernel
theorem dX8_order_34 : decode cX8_order 34 = .ok (.if_icmp .ne 15, 3) := by decide +kernel
theorem dX8_order_37 : decode cX8_order 37 = .ok (.aload_n 0, 1) := by decide +kernel
theorem dX8_order_38 : decode cX8_order 38 = .ok (.lconst 0, 1) := by decide +kernel
theorem dX8_order_39 : decode cX8_order 39 = .ok (.aload_n 0, 1) := by decide +kernel
theorem dX8_order_40 : decode cX8_order 40 = .ok (.getfield 186, 3) := by decide +kernel
theorem dX8_order_43 : decode cX8_order 43 = .ok (.invokevirtual 208, 3) := by decide +kernel
theorem dX8_order_46 : decode cX8_order 46 = .ok (.goto 20, 3) := by decide +kernel
theorem dX8_order_49 : decode cX8_order 49 = .ok (.aload_n 0, 1) := by decide +kernel
theorem dX8_order_50 : decode cX8_order 50 = .ok (.aload_n 0, 1) := by decide +kernel
theorem dX8_order_51 : decode cX8_order 51 = .ok (.iload_n 1, 1) := by decide +kernel
theorem dX8_order_52 : decode cX8_order 52 = .ok (.iload_n 2, 1) := by decide +kernel
theorem dX8_order_53 : decode cX8_order 53 = .ok (.iconst 1, 1) := by decide +kernel
theorem dX8_order_54 : decode cX8_order 54 = .ok (.bipush 40, 2) := by decide +kernel
theorem dX8_order_56 : decode cX8_order 56 = .ok (.invokevirtual 211, 3) := by decide +kernel
theorem dX8_order_59 : decode cX8_order 59 = .ok (.aload_n 0, 1) := by decide +kernel
theorem dX8_order_60 : decode cX8_order 60 = .ok (.getfield 186, 3) := by decide +kernel
theorem dX8_order_63 : decode cX8_order 63 = .ok (.invokevirtual 208, 3) := by decide +kernel
theorem dX8_order_66 : decode cX8_order 66 = .ok (.lreturn, 1) := by decide +kernel
theorem dX8_apart_0 : decode cX8_apart 0 = .ok (.aload_n 0, 1) := by decide +kernel
theorem dX8_apart_1 : decode cX8_apart 1 = .ok (.iload_n 1, 1) := by decide +kernel
theorem dX8_apart_2 : decode cX8_apart 2 = .ok (.invokevirtual 117, 3) := by decide +kernel
theorem dX8_apart_5 : decode cX8_apart 5 = .ok (.ifCond .eq 22, 3) := by decide +kernel
theorem dX8_apart_8 : decode cX8_apart 8 = .ok (.aload_n 0, 1) := by decide +kernel
theorem dX8_apart_9 : decode cX8_apart 9 = .ok (.iload_n 2, 1) := by decide +kernel
theorem dX8_apart_10 : decode cX8_apart 10 = .ok (.invokevirtual 117, 3) := by decide +kernel
theorem dX8_apart_13 : decode cX8_apart 13 = .ok (.ifCond .eq 14, 3) := by decide +kernel
theorem dX8_apart_16 : decode cX8_apart 16 = .ok (.iload_n 3, 1) := by decide +kernel
theorem dX8_apart_17 : decode cX8_apart 17 = .ok (.bipush (-39), 2) := by decide +kernel
theorem dX8_apart_19 : decode cX8_apart 19 = .ok (.bipush 39, 2) := by decide +kernel
theorem dX8_apart_21 : decode cX8_apart 21 = .ok (.invokestatic 100, 3) := by decide +kernel
theorem dX8_apart_24 : decode cX8_apart 24 = .ok (.ifCond .ne 7, 3) := by decide +kernel
theorem dX8_apart_27 : decode cX8_apart 27 = .ok (.ldc2_w 199, 3) := by decide +kernel
theorem dX8_apart_30 : decode cX8_apart 30 = .ok (.lreturn, 1) := by decide +kernel
theorem dX8_apart_31 : decode cX8_apart 31 = .ok (.aload_n 0, 1) := by decide +kernel
theorem dX8_apart_32 : decode cX8_apart 32 = .ok (.invokevirtual 201, 3) := by decide +kernel
theorem dX8_apart_35 : decode cX8_apart 35 = .ok (.istore 4, 2) := by decide +kernel
theorem dX8_apart_37 : decode cX8_apart 37 = .ok (.iload 4, 2) := by decide +kernel
theorem dX8_apart_39 : decode cX8_apart 39 = .ok (.ifCond .eq 7, 3) := by decide +kernel
theorem dX8_apart_42 : decode cX8_apart 42 = .ok (.iload 4, 2) := by decide +kernel
theorem dX8_apart_44 : decode cX8_apart 44 = .ok (.i2l, 1) := by decide +kernel
theorem dX8_apart_45 : decode cX8_apart 45 = .ok (.lreturn, 1) := by decide +kernel
theorem dX8_apart_46 : decode cX8_apart 46 = .ok (.iload_n 1, 1) := by decide +kernel
theorem dX8_apart_47 : decode cX8_apart 47 = .ok (.iload_n 2, 1) := by decide +kernel
theorem dX8_apart_48 : decode cX8_apart 48 = .ok (.if_icmp .ne 24, 3) := by decide +kernel
theorem dX8_apart_51 : decode cX8_apart 51 = .ok (.aload_n 0, 1) := by decide +kernel
theorem dX8_apart_52 : decode cX8_apart 52 = .ok (.iload_n 3, 1) := by decide +kernel
theorem dX8_apart_53 : decode cX8_apart 53 = .ok (.ifCond .ne 10, 3) := by decide +kernel
theorem dX8_apart_56 : decode cX8_apart 56 = .ok (.aload_n 0, 1) := by decide +kernel
theorem dX8_apart_57 : decode cX8_apart 57 = .ok (.getfield 186, 3) := by decide +kernel
theorem dX8_apart_60 : decode cX8_apart 60 = .ok (.goto 4, 3) := by decide +kernel
theorem dX8_apart_63 : decode cX8_apart 63 = .ok (.lconst 0, 1) := by decide +kernel
theorem dX8_apart_64 : decode cX8_apart 64 = .ok (.aload_n 0, 1) := by decide +kernel
theorem dX8_apart_65 : decode cX8_apart 65 = .ok (.getfield 186, 3) := by decide +kernel
theorem dX8_apart_68 : decode cX8_apart 68 = .ok (.invokevirtual 208, 3) := by decide +kernel
theorem dX8_apart_71 : decode cX8_apart 71 = .ok (.lreturn, 1) := by decide +kernel
theorem dX8_apart_72 : decode cX8_apart 72 = .ok (.lconst 0, 1) := by decide +kernel
theorem dX8_apart_73 : decode cX8_apart 73 = .ok (.lstore 5, 2) := by decide +kernel
theorem dX8_apart_75 : decode cX8_apart 75 = .ok (.iconst 0, 1) := by decide +kernel
theorem dX8_apart_76 : decode cX8_apart 76 = .ok (.istore 7, 2) := by decide +kernel
theorem dX8_apart_78 : decode cX8_apart 78 = .ok (.iload 7, 2) := by decide +kernel
theorem dX8_apart_80 : decode cX8_apart 80 = .ok (.aload_n 0, 1) := by decide +kernel
theorem dX8_apart_81 : decode cX8_apart 81 = .ok (.getfield 7, 3) := by decide +kernel
theorem dX8_apart_84 : decode cX8_apart 84 = .ok (.if_icmp .ge 51, 3) := by decide +kernel
theorem dX8_apart_87 : decode cX8_apart 87 = .ok (.aload_n 0, 1) := by decide +kernel
theorem dX8_apart_88 : decode cX8_apart 88 = .ok (.iload 7, 2) := by decide +kernel
theorem dX8_apart_90 : decode cX8_apart 90 = .ok (.iload_n 3, 1) := by decide +kernel
theorem dX8_apart_91 : decode cX8_apart 91 = .ok (.iadd, 1) := by decide +kernel
theorem dX8_apart_92 : decode cX8_apart 92 = .ok (.invokevirtual 135, 3) := by decide +kernel
theorem dX8_apart_95 : decode cX8_apart 95 = .ok (.ifCond .eq 34, 3) := by decide +kernel
theorem dX8_apart_98 : decode cX8_apart 98 = .ok (.aload_n 0, 1) := by decide +kernel
theorem dX8_apart_99 : decode cX8_apart 99 = .ok (.iload_n 1, 1) := by decide +kernel
theorem dX8_apart_100 : decode cX8_apart 100 = .ok (.iload 7, 2) := by decide +kernel
theorem dX8_apart_102 : decode cX8_apart 102 = .ok (.iload 7, 2) := by decide +kernel
theorem dX8_apart_104 : decode cX8_apart 104 = .ok (.invokevirtual 195, 3) := by decide +kernel
theorem dX8_apart_107 : decode cX8_apart 107 = .ok (.aload_n 0, 1) := by decide +kernel
theorem dX8_apart_108 : decode cX8_apart 108 = .ok (.iload_n 2, 1) := by decide +kernel
theorem dX8_apart_109 : decode cX8_apart 109 = .ok (.iload 7, 2) := by decide +kernel
theorem dX8_apart_111 : decode cX8_apart 111 = .ok (.iload_n 3, 1) := by decide +kernel
theorem dX8_apart_112 : decode cX8_apart 112 = .ok (.iadd, 1) := by decide +kernel
theorem dX8_apart_113 : decode cX8_apart 113 = .ok (.iload 7, 2) := by decide +kernel
theorem dX8_apart_115 : decode cX8_apart 115 = .ok (.iload_n 3, 1) := by decide +kernel
theorem dX8_apart_116 : decode cX8_apart 116 = .ok (.iadd, 1) := by decide +kernel
theorem dX8_apart_117 : decode cX8_apart 117 = .ok (.invokevirtual 195, 3) := by decide +kernel
theorem dX8_apart_120 : decode cX8_apart 120 = .ok (.lload 5, 2) := by decide +kernel
theorem dX8_apart_122 : decode cX8_apart 122 = .ok (.aload_n 0, 1) := by decide +kernel
theorem dX8_apart_123 : decode cX8_apart 123 = .ok (.invokevirtual 182, 3) := by decide +kernel
theorem dX8_apart_126 : decode cX8_apart 126 = .ok (.ladd, 1) := by decide +kernel
theorem dX8_apart_127 : decode cX8_apart 127 = .ok (.lstore 5, 2) := by decide +kernel
theorem dX8_apart_129 : decode cX8_apart 129 = .ok (.iinc 7 1, 3) := by decide +kernel
theorem dX8_apart_132 : decode cX8_apart 132 = .ok (.goto (-54), 3) := by decide +kernel
theorem dX8_apart_135 : decode cX8_apart 135 = .ok (.aload_n 0, 1) := by decide +kernel
theorem dX8_apart_136 : decode cX8_apart 136 = .ok (.lload 5, 2) := by decide +kernel
theorem dX8_apart_138 : decode cX8_apart 138 = .ok (.aload_n 0, 1) := by decide +kernel
theorem dX8_apart_139 : decode cX8_apart 139 = .ok (.getfield 186, 3) := by decide +kernel
theorem dX8_apart_142 : decode cX8_apart 142 = .ok (.invokevirtual 208, 3) := by decide +kernel
theorem dX8_apart_145 : decode cX8_apart 145 = .ok (.lreturn, 1) := by decide +kernel
theorem dX8_mean_0 : decode cX8_mean 0 = .ok (.aload_n 0, 1) := by decide +kernel
theorem dX8_mean_1 : decode cX8_mean 1 = .ok (.iload_n 1, 1) := by decide +kernel
theorem dX8_mean_2 : decode cX8_mean 2 = .ok (.invokevirtual 117, 3) := by decide +kernel
theorem dX8_mean_5 : decode cX8_mean 5 = .ok (.ifCond .ne 7, 3) := by decide +kernel
theorem dX8_mean_8 : decode cX8_mean 8 = .ok (.ldc2_w 199, 3) := by decide +kernel
theorem dX8_mean_11 : decode cX8_mean 11 = .ok (.lreturn, 1) := by decide +kernel
theorem dX8_mean_12 : decode cX8_mean 12 = .ok (.aload_n 0, 1) := by decide +kernel
theorem dX8_mean_13 : decode cX8_mean 13 = .ok (.invokevirtual 201, 3) := by decide +kernel
theorem dX8_mean_16 : decode cX8_mean 16 = .ok (.istore_n 2, 1) := by decide +kernel
theorem dX8_mean_17 : decode cX8_mean 17 = .ok (.iload_n 2, 1) := by decide +kernel
theorem dX8_mean_18 : decode cX8_mean 18 = .ok (.ifCond .eq 6, 3) := by decide +kernel
theorem dX8_mean_21 : decode cX8_mean 21 = .ok (.iload_n 2, 1) := by decide +kernel
theorem dX8_mean_22 : decode cX8_mean 22 = .ok (.i2l, 1) := by decide +kernel
theorem dX8_mean_23 : decode cX8_mean 23 = .ok (.lreturn, 1) := by decide +kernel
theorem dX8_mean_24 : decode cX8_mean 24 = .ok (.lconst 0, 1) := by decide +kernel
theorem dX8_mean_25 : decode cX8_mean 25 = .ok (.lstore_n 3, 1) := by decide +kernel
theorem dX8_mean_26 : decode cX8_mean 26 = .ok (.iconst 0, 1) := by decide +kernel
theorem dX8_mean_27 : decode cX8_mean 27 = .ok (.istore 5, 2) := by decide +kernel
theorem dX8_mean_29 : decode cX8_mean 29 = .ok (.iload 5, 2) := by decide +kernel
theorem dX8_mean_31 : decode cX8_mean 31 = .ok (.aload_n 0, 1) := by decide +kernel
theorem dX8_mean_32 : decode cX8_mean 32 = .ok (.getfield 7, 3) := by decide +kernel
theorem dX8_mean_35 : decode cX8_mean 35 = .ok (.if_icmp .ge 25, 3) := by decide +kernel
theorem dX8_mean_38 : decode cX8_mean 38 = .ok (.lload_n 3, 1) := by decide +kernel
theorem dX8_mean_39 : decode cX8_mean 39 = .ok (.iload 5, 2) := by decide +kernel
theorem dX8_mean_41 : decode cX8_mean 41 = .ok (.i2l, 1) := by decide +kernel
theorem dX8_mean_42 : decode cX8_mean 42 = .ok (.aload_n 0, 1) := by decide +kernel
theorem dX8_mean_43 : decode cX8_mean 43 = .ok (.iload_n 1, 1) := by decide +kernel
theorem dX8_mean_44 : decode cX8_mean 44 = .ok (.iload 5, 2) := by decide +kernel
theorem dX8_mean_46 : decode cX8_mean 46 = .ok (.iload 5, 2) := by decide +kernel
theorem dX8_mean_48 : decode cX8_mean 48 = .ok (.invokevirtual 204, 3) := by decide +kernel
theorem dX8_mean_51 : decode cX8_mean 51 = .ok (.lmul, 1) := by decide +kernel
theorem dX8_mean_52 : decode cX8_mean 52 = .ok (.ladd, 1) := by decide +kernel
theorem dX8_mean_53 : decode cX8_mean 53 = .ok (.lstore_n 3, 1) := by decide +kernel
theorem dX8_mean_54 : decode cX8_mean 54 = .ok (.iinc 5 1, 3) := by decide +kernel
theorem dX8_mean_57 : decode cX8_mean 57 = .ok (.goto (-28), 3) := by decide +kernel
theorem dX8_mean_60 : decode cX8_mean 60 = .ok (.aload_n 0, 1) := by decide +kernel
theorem dX8_mean_61 : decode cX8_mean 61 = .ok (.lload_n 3, 1) := by decide +kernel
theorem dX8_mean_62 : decode cX8_mean 62 = .ok (.aload_n 0, 1) := by decide +kernel
theorem dX8_mean_63 : decode cX8_mean 63 = .ok (.getfield 186, 3) := by decide +kernel
theorem dX8_mean_66 : decode cX8_mean 66 = .ok (.invokevirtual 208, 3) := by decide +kernel
theorem dX8_mean_69 : decode cX8_mean 69 = .ok (.lreturn, 1) := by decide +kernel
theorem dX8_tellYears_0 : decode cX8_tellYears 0 = .ok (.iconst 0, 1) := by decide +kernel
theorem dX8_tellYears_1 : decode cX8_tellYears 1 = .ok (.istore_n 2, 1) := by decide +kernel
theorem dX8_tellYears_2 : decode cX8_tellYears 2 = .ok (.iload_n 2, 1) := by decide +kernel
theorem dX8_tellYears_3 : decode cX8_tellYears 3 = .ok (.aload_n 0, 1) := by decide +kernel
theorem dX8_tellYears_4 : decode cX8_tellYears 4 = .ok (.getfield 7, 3) := by decide +kernel
theorem dX8_tellYears_7 : decode cX8_tellYears 7 = .ok (.if_icmp .ge 22, 3) := by decide +kernel
theorem dX8_tellYears_10 : decode cX8_tellYears 10 = .ok (.aload_n 0, 1) := by decide +kernel
theorem dX8_tellYears_11 : decode cX8_tellYears 11 = .ok (.getfield 85, 3) := by decide +kernel
theorem dX8_tellYears_14 : decode cX8_tellYears 14 = .ok (.iload_n 2, 1) := by decide +kernel
theorem dX8_tellYears_15 : decode cX8_tellYears 15 = .ok (.aload_n 0, 1) := by decide +kernel
theorem dX8_tellYears_16 : decode cX8_tellYears 16 = .ok (.iload_n 1, 1) := by decide +kernel
theorem dX8_tellYears_17 : decode cX8_tellYears 17 = .ok (.iload_n 2, 1) := by decide +kernel
theorem dX8_tellYears_18 : decode cX8_tellYears 18 = .ok (.iload_n 2, 1) := by decide +kernel
theorem dX8_tellYears_19 : decode cX8_tellYears 19 = .ok (.invokevirtual 204, 3) := by decide +kernel
theorem dX8_tellYears_22 : decode cX8_tellYears 22 = .ok (.lastore, 1) := by decide +kernel
theorem dX8_tellYears_23 : decode cX8_tellYears 23 = .ok (.iinc 2 1, 3) := by decide +kernel
theorem dX8_tellYears_26 : decode cX8_tellYears 26 = .ok (.goto (-24), 3) := by decide +kernel
theorem dX8_tellYears_29 : decode cX8_tellYears 29 = .ok (.return_, 1) := by decide +kernel
theorem dX8_best_0 : decode cX8_best 0 = .ok (.aload_n 0, 1) := by decide +kernel
theorem dX8_best_1 : decode cX8_best 1 = .ok (.iload_n 1, 1) := by decide +kernel
theorem dX8_best_2 : decode cX8_best 2 = .ok (.invokevirtual 117, 3) := by decide +kernel
theorem dX8_best_5 : decode cX8_best 5 = .ok (.ifCond .ne 6, 3) := by decide +kernel
theorem dX8_best_8 : decode cX8_best 8 = .ok (.bipush (-2), 2) := by decide +kernel
theorem dX8_best_10 : decode cX8_best 10 = .ok (.ireturn, 1) := by decide +kernel
theorem dX8_best_11 : decode cX8_best 11 = .ok (.aload_n 0, 1) := by decide +kernel
theorem dX8_best_12 : decode cX8_best 12 = .ok (.invokevirtual 201, 3) := by decide +kernel
theorem dX8_best_15 : decode cX8_best 15 = .ok (.istore_n 2, 1) := by decide +kernel
theorem dX8_best_16 : decode cX8_best 16 = .ok (.iload_n 2, 1) := by decide +kernel
theorem dX8_best_17 : decode cX8_best 17 = .ok (.ifCond .eq 5, 3) := by decide +kernel
theorem dX8_best_20 : decode cX8_best 20 = .ok (.iload_n 2, 1) := by decide +kernel
theorem dX8_best_21 : decode cX8_best 21 = .ok (.ireturn, 1) := by decide +kernel
theorem dX8_best_22 : decode cX8_best 22 = .ok (.aload_n 0, 1) := by decide +kernel
theorem dX8_best_23 : decode cX8_best 23 = .ok (.iload_n 1, 1) := by decide +kernel
theorem dX8_best_24 : decode cX8_best 24 = .ok (.invokevirtual 215, 3) := by decide +kernel
theorem dX8_best_27 : decode cX8_best 27 = .ok (.iconst 0, 1) := by decide +kernel
theorem dX8_best_28 : decode cX8_best 28 = .ok (.istore_n 3, 1) := by decide +kernel
theorem dX8_best_29 : decode cX8_best 29 = .ok (.iconst 1, 1) := by decide +kernel
theorem dX8_best_30 : decode cX8_best 30 = .ok (.istore 4, 2) := by decide +kernel
theorem dX8_best_32 : decode cX8_best 32 = .ok (.iload 4, 2) := by decide +kernel
theorem dX8_best_34 : decode cX8_best 34 = .ok (.aload_n 0, 1) := by decide +kernel
theorem dX8_best_35 : decode cX8_best 35 = .ok (.getfield 7, 3) := by decide +kernel
theorem dX8_best_38 : decode cX8_best 38 = .ok (.if_icmp .ge 33, 3) := by decide +kernel
theorem dX8_best_41 : decode cX8_best 41 = .ok (.aload_n 0, 1) := by decide +kernel
theorem dX8_best_42 : decode cX8_best 42 = .ok (.getfield 85, 3) := by decide +kernel
theorem dX8_best_45 : decode cX8_best 45 = .ok (.iload 4, 2) := by decide +kernel
theorem dX8_best_47 : decode cX8_best 47 = .ok (.laload, 1) := by decide +kernel
theorem dX8_best_48 : decode cX8_best 48 = .ok (.aload_n 0, 1) := by decide +kernel
theorem dX8_best_49 : decode cX8_best 49 = .ok (.getfield 85, 3) := by decide +kernel
theorem dX8_best_52 : decode cX8_best 52 = .ok (.iload_n 3, 1) := by decide +kernel
theorem dX8_best_53 : decode cX8_best 53 = .ok (.laload, 1) := by decide +kernel
theorem dX8_best_54 : decode cX8_best 54 = .ok (.lcmp, 1) := by decide +kernel
theorem dX8_best_55 : decode cX8_best 55 = .ok (.ifCond .le 8, 3) := by decide +kernel
theorem dX8_best_58 : decode cX8_best 58 = .ok (.iload 4, 2) := by decide +kernel
theorem dX8_best_60 : decode cX8_best 60 = .ok (.goto 4, 3) := by decide +kernel
theorem dX8_best_63 : decode cX8_best 63 = .ok (.iload_n 3, 1) := by decide +kernel
theorem dX8_best_64 : decode cX8_best 64 = .ok (.istore_n 3, 1) := by decide +kernel
theorem dX8_best_65 : decode cX8_best 65 = .ok (.iinc 4 1, 3) := by decide +kernel
theorem dX8_best_68 : decode cX8_best 68 = .ok (.goto (-36), 3) := by decide +kernel
theorem dX8_best_71 : decode cX8_best 71 = .ok (.iload_n 3, 1) := by decide +kernel
theorem dX8_best_72 : decode cX8_best 72 = .ok (.ireturn, 1) := by decide +kernel
theorem dX8_span_0 : decode cX8_span 0 = .ok (.aload_n 0, 1) := by decide +kernel
theorem dX8_span_1 : decode cX8_span 1 = .ok (.iload_n 1, 1) := by decide +kernel
theorem dX8_span_2 : decode cX8_span 2 = .ok (.invokevirtual 117, 3) := by decide +kernel
theorem dX8_span_5 : decode cX8_span 5 = .ok (.ifCond .eq 14, 3) := by decide +kernel
theorem dX8_span_8 : decode cX8_span 8 = .ok (.iload_n 2, 1) := by decide +kernel
theorem dX8_span_9 : decode cX8_span 9 = .ok (.iconst 1, 1) := by decide +kernel
theorem dX8_span_10 : decode cX8_span 10 = .ok (.sipush 1000, 3) := by decide +kernel
theorem dX8_span_13 : decode cX8_span 13 = .ok (.invokestatic 100, 3) := by decide +kernel
theorem dX8_span_16 : decode cX8_span 16 = .ok (.ifCond .ne 6, 3) := by decide +kernel
theorem dX8_span_19 : decode cX8_span 19 = .ok (.bipush (-2), 2) := by decide +kernel
theorem dX8_span_21 : decode cX8_span 21 = .ok (.ireturn, 1) := by decide +kernel
theorem dX8_span_22 : decode cX8_span 22 = .ok (.aload_n 0, 1) := by decide +kernel
theorem dX8_span_23 : decode cX8_span 23 = .ok (.invokevirtual 201, 3) := by decide +kernel
theorem dX8_span_26 : decode cX8_span 26 = .ok (.istore_n 3, 1) := by decide +kernel
theorem dX8_span_27 : decode cX8_span 27 = .ok (.iload_n 3, 1) := by decide +kernel
theorem dX8_span_28 : decode cX8_span 28 = .ok (.ifCond .eq 5, 3) := by decide +kernel
theorem dX8_span_31 : decode cX8_span 31 = .ok (.iload_n 3, 1) := by decide +kernel
theorem dX8_span_32 : decode cX8_span 32 = .ok (.ireturn, 1) := by decide +kernel
theorem dX8_span_33 : decode cX8_span 33 = .ok (.aload_n 0, 1) := by decide +kernel
theorem dX8_span_34 : decode cX8_span 34 = .ok (.iload_n 1, 1) := by decide +kernel
theorem dX8_span_35 : decode cX8_span 35 = .ok (.invokevirtual 215, 3) := by decide +kernel
theorem dX8_span_38 : decode cX8_span 38 = .ok (.iconst 1, 1) := by decide +kernel
theorem dX8_span_39 : decode cX8_span 39 = .ok (.istore 4, 2) := by decide +kernel
theorem dX8_span_41 : decode cX8_span 41 = .ok (.iload 4, 2) := by decide +kernel
theorem dX8_span_43 : decode cX8_span 43 = .ok (.aload_n 0, 1) := by decide +kernel
theorem dX8_span_44 : decode cX8_span 44 = .ok (.getfield 7, 3) := by decide +kernel
theorem dX8_span_47 : decode cX8_span 47 = .ok (.if_icmp .ge 96, 3) := by decide +kernel
theorem dX8_span_50 : decode cX8_span 50 = .ok (.iconst 0, 1) := by decide +kernel
theorem dX8_span_51 : decode cX8_span 51 = .ok (.istore 5, 2) := by decide +kernel
theorem dX8_span_53 : decode cX8_span 53 = .ok (.iload 5, 2) := by decide +kernel
theorem dX8_span_55 : decode cX8_span 55 = .ok (.iload 4, 2) := by decide +kernel
theorem dX8_span_57 : decode cX8_span 57 = .ok (.iadd, 1) := by decide +kernel
theorem dX8_span_58 : decode cX8_span 58 = .ok (.aload_n 0, 1) := by decide +kernel
theorem dX8_span_59 : decode cX8_span 59 = .ok (.getfield 7, 3) := by decide +kernel
theorem dX8_span_62 : decode cX8_span 62 = .ok (.if_icmp .gt 75, 3) := by decide +kernel
theorem dX8_span_65 : decode cX8_span 65 = .ok (.lconst 0, 1) := by decide +kernel
theorem dX8_span_66 : decode cX8_span 66 = .ok (.lstore 6, 2) := by decide +kernel
theorem dX8_span_68 : decode cX8_span 68 = .ok (.iload 5, 2) := by decide +kernel
theorem dX8_span_70 : decode cX8_span 70 = .ok (.istore 8, 2) := by decide +kernel
theorem dX8_span_72 : decode cX8_span 72 = .ok (.iload 8, 2) := by decide +kernel
theorem dX8_span_74 : decode cX8_span 74 = .ok (.iload 5, 2) := by decide +kernel
theorem dX8_span_76 : decode cX8_span 76 = .ok (.iload 4, 2) := by decide +kernel
theorem dX8_span_78 : decode cX8_span 78 = .ok (.iadd, 1) := by decide +kernel
theorem dX8_span_79 : decode cX8_span 79 = .ok (.if_icmp .ge 21, 3) := by decide +kernel
theorem dX8_span_82 : decode cX8_span 82 = .ok (.lload 6, 2) := by decide +kernel
theorem dX8_span_84 : decode cX8_span 84 = .ok (.aload_n 0, 1) := by decide +kernel
theorem dX8_span_85 : decode cX8_span 85 = .ok (.getfield 85, 3) := by decide +kernel
theorem dX8_span_88 : decode cX8_span 88 = .ok (.iload 8, 2) := by decide +kernel
theorem dX8_span_90 : decode cX8_span 90 = .ok (.laload, 1) := by decide +kernel
theorem dX8_span_91 : decode cX8_span 91 = .ok (.ladd, 1) := by decide +kernel
theorem dX8_span_92 : decode cX8_span 92 = .ok (.lstore 6, 2) := by decide +kernel
theorem dX8_span_94 : decode cX8_span 94 = .ok (.iinc 8 1, 3) := by decide +kernel
theorem dX8_span_97 : decode cX8_span 97 = .ok (.goto (-25), 3) := by decide +kernel
theorem dX8_span_100 : decode cX8_span 100 = .ok (.lload 6, 2) := by decide +kernel
theorem dX8_span_102 : decode cX8_span 102 = .ok (.ldc2_w 218, 3) := by decide +kernel
theorem dX8_span_105 : decode cX8_span 105 = .ok (.lmul, 1) := by decide +kernel
theorem dX8_span_106 : decode cX8_span 106 = .ok (.iload_n 2, 1) := by decide +kernel
theorem dX8_span_107 : decode cX8_span 107 = .ok (.i2l, 1) := by decide +kernel
theorem dX8_span_108 : decode cX8_span 108 = .ok (.aload_n 0, 1) := by decide +kernel
theorem dX8_span_109 : decode cX8_span 109 = .ok (.getfield 186, 3) := by decide +kernel
theorem dX8_span_112 : decode cX8_span 112 = .ok (.lmul, 1) := by decide +kernel
theorem dX8_span_113 : decode cX8_span 113 = .ok (.lcmp, 1) := by decide +kernel
theorem dX8_span_114 : decode cX8_span 114 = .ok (.ifCond .lt 17, 3) := by decide +kernel
theorem dX8_span_117 : decode cX8_span 117 = .ok (.bipush 100, 2) := by decide +kernel
theorem dX8_span_119 : decode cX8_span 119 = .ok (.iload 5, 2) := by decide +kernel
theorem dX8_span_121 : decode cX8_span 121 = .ok (.imul, 1) := by decide +kernel
theorem dX8_span_122 : decode cX8_span 122 = .ok (.iload 5, 2) := by decide +kernel
theorem dX8_span_124 : decode cX8_span 124 = .ok (.iadd, 1) := by decide +kernel
theorem dX8_span_125 : decode cX8_span 125 = .ok (.iload 4, 2) := by decide +kernel
theorem dX8_span_127 : decode cX8_span 127 = .ok (.iadd, 1) := by decide +kernel
theorem dX8_span_128 : decode cX8_span 128 = .ok (.iconst 1, 1) := by decide +kernel
theorem dX8_span_129 : decode cX8_span 129 = .ok (.isub, 1) := by decide +kernel
theorem dX8_span_130 : decode cX8_span 130 = .ok (.ireturn, 1) := by decide +kernel
theorem dX8_span_131 : decode cX8_span 131 = .ok (.iinc 5 1, 3) := by decide +kernel
theorem dX8_span_134 : decode cX8_span 134 = .ok (.goto (-81), 3) := by decide +kernel
theorem dX8_span_137 : decode cX8_span 137 = .ok (.iinc 4 1, 3) := by decide +kernel
theorem dX8_span_140 : decode cX8_span 140 = .ok (.goto (-99), 3) := by decide +kernel
theorem dX8_span_143 : decode cX8_span 143 = .ok (.aload_n 0, 1) := by decide +kernel
theorem dX8_span_144 : decode cX8_span 144 = .ok (.getfield 7, 3) := by decide +kernel
theorem dX8_span_147 : decode cX8_span 147 = .ok (.iconst 1, 1) := by decide +kernel
theorem dX8_span_148 : decode cX8_span 148 = .ok (.isub, 1) := by decide +kernel
theorem dX8_span_149 : decode cX8_span 149 = .ok (.ireturn, 1) := by decide +kernel
theorem dX8_strange_0 : decode cX8_strange 0 = .ok (.aload_n 0, 1) := by decide +kernel
theorem dX8_strange_1 : decode cX8_strange 1 = .ok (.iload_n 1, 1) := by decide +kernel
theorem dX8_strange_2 : decode cX8_strange 2 = .ok (.invokevirtual 117, 3) := by decide +kernel
theorem dX8_strange_5 : decode cX8_strange 5 = .ok (.ifCond .ne 7, 3) := by decide +kernel
theorem dX8_strange_8 : decode cX8_strange 8 = .ok (.ldc2_w 199, 3) := by decide +kernel
theorem dX8_strange_11 : decode cX8_strange 11 = .ok (.lreturn, 1) := by decide +kernel
theorem dX8_strange_12 : decode cX8_strange 12 = .ok (.aload_n 0, 1) := by decide +kernel
theorem dX8_strange_13 : decode cX8_strange 13 = .ok (.invokevirtual 201, 3) := by decide +kernel
theorem dX8_strange_16 : decode cX8_strange 16 = .ok (.istore_n 2, 1) := by decide +kernel
theorem dX8_strange_17 : decode cX8_strange 17 = .ok (.iload_n 2, 1) := by decide +kernel
theorem dX8_strange_18 : decode cX8_strange 18 = .ok (.ifCond .eq 6, 3) := by decide +kernel
theorem dX8_strange_21 : decode cX8_strange 21 = .ok (.iload_n 2, 1) := by decide +kernel
theorem dX8_strange_22 : decode cX8_strange 22 = .ok (.i2l, 1) := by decide +kernel
theorem dX8_strange_23 : decode cX8_strange 23 = .ok (.lreturn, 1) := by decide +kernel
theorem dX8_strange_24 : decode cX8_strange 24 = .ok (.iconst 0, 1) := by decide +kernel
theorem dX8_strange_25 : decode cX8_strange 25 = .ok (.istore_n 3, 1) := by decide +kernel
theorem dX8_strange_26 : decode cX8_strange 26 = .ok (.iload_n 3, 1) := by decide +kernel
theorem dX8_strange_27 : decode cX8_strange 27 = .ok (.aload_n 0, 1) := by decide +kernel
theorem dX8_strange_28 : decode cX8_strange 28 = .ok (.getfield 7, 3) := by decide +kernel
theorem dX8_strange_31 : decode cX8_strange 31 = .ok (.if_icmp .ge 33, 3) := by decide +kernel
theorem dX8_strange_34 : decode cX8_strange 34 = .ok (.aload_n 0, 1) := by decide +kernel
theorem dX8_strange_35 : decode cX8_strange 35 = .ok (.getfield 66, 3) := by decide +kernel
theorem dX8_strange_38 : decode cX8_strange 38 = .ok (.bipush 40, 2) := by decide +kernel
theorem dX8_strange_40 : decode cX8_strange 40 = .ok (.iload_n 1, 1) := by decide +kernel
theorem dX8_strange_41 : decode cX8_strange 41 = .ok (.imul, 1) := by decide +kernel
theorem dX8_strange_42 : decode cX8_strange 42 = .ok (.iload_n 3, 1) := by decide +kernel
theorem dX8_strange_43 : decode cX8_strange 43 = .ok (.iadd, 1) := by decide +kernel
theorem dX8_strange_44 : decode cX8_strange 44 = .ok (.aload_n 0, 1) := by decide +kernel
theorem dX8_strange_45 : decode cX8_strange 45 = .ok (.getfield 23, 3) := by decide +kernel
theorem dX8_strange_48 : decode cX8_strange 48 = .ok (.iload_n 1, 1) := by decide +kernel
theorem dX8_strange_49 : decode cX8_strange 49 = .ok (.iaload, 1) := by decide +kernel
theorem dX8_strange_50 : decode cX8_strange 50 = .ok (.i2l, 1) := by decide +kernel
theorem dX8_strange_51 : decode cX8_strange 51 = .ok (.aload_n 0, 1) := by decide +kernel
theorem dX8_strange_52 : decode cX8_strange 52 = .ok (.iload_n 1, 1) := by decide +kernel
theorem dX8_strange_53 : decode cX8_strange 53 = .ok (.invokevirtual 128, 3) := by decide +kernel
theorem dX8_strange_56 : decode cX8_strange 56 = .ok (.lmul, 1) := by decide +kernel
theorem dX8_strange_57 : decode cX8_strange 57 = .ok (.lastore, 1) := by decide +kernel
theorem dX8_strange_58 : decode cX8_strange 58 = .ok (.iinc 3 1, 3) := by decide +kernel
theorem dX8_strange_61 : decode cX8_strange 61 = .ok (.goto (-35), 3) := by decide +kernel
theorem dX8_strange_64 : decode cX8_strange 64 = .ok (.aload_n 0, 1) := by decide +kernel
theorem dX8_strange_65 : decode cX8_strange 65 = .ok (.aload_n 0, 1) := by decide +kernel
theorem dX8_strange_66 : decode cX8_strange 66 = .ok (.getfield 23, 3) := by decide +kernel
theorem dX8_strange_69 : decode cX8_strange 69 = .ok (.iload_n 1, 1) := by decide +kernel
theorem dX8_strange_70 : decode cX8_strange 70 = .ok (.iaload, 1) := by decide +kernel
theorem dX8_strange_71 : decode cX8_strange 71 = .ok (.ifCond .ne 7, 3) := by decide +kernel
theorem dX8_strange_74 : decode cX8_strange 74 = .ok (.lconst 0, 1) := by decide +kernel
theorem dX8_strange_75 : decode cX8_strange 75 = .ok (.goto 7, 3) := by decide +kernel
theorem dX8_strange_78 : decode cX8_strange 78 = .ok (.aload_n 0, 1) := by decide +kernel
theorem dX8_strange_79 : decode cX8_strange 79 = .ok (.invokevirtual 182, 3) := by decide +kernel
theorem dX8_strange_82 : decode cX8_strange 82 = .ok (.aload_n 0, 1) := by decide +kernel
theorem dX8_strange_83 : decode cX8_strange 83 = .ok (.getfield 186, 3) := by decide +kernel
theorem dX8_strange_86 : decode cX8_strange 86 = .ok (.invokevirtual 208, 3) := by decide +kernel
theorem dX8_strange_89 : decode cX8_strange 89 = .ok (.lreturn, 1) := by decide +kernel
theorem dX8_without_0 : decode cX8_without 0 = .ok (.aload_n 0, 1) := by decide +kernel
theorem dX8_without_1 : decode cX8_without 1 = .ok (.iload_n 1, 1) := by decide +kernel
theorem dX8_without_2 : decode cX8_without 2 = .ok (.invokevirtual 117, 3) := by decide +kernel
theorem dX8_without_5 : decode cX8_without 5 = .ok (.ifCond .ne 7, 3) := by decide +kernel
theorem dX8_without_8 : decode cX8_without 8 = .ok (.ldc2_w 199, 3) := by decide +kernel
theorem dX8_without_11 : decode cX8_without 11 = .ok (.lreturn, 1) := by decide +kernel
theorem dX8_without_12 : decode cX8_without 12 = .ok (.aload_n 0, 1) := by decide +kernel
theorem dX8_without_13 : decode cX8_without 13 = .ok (.invokevirtual 172, 3) := by decide +kernel
theorem dX8_without_16 : decode cX8_without 16 = .ok (.iconst 1, 1) := by decide +kernel
theorem dX8_without_17 : decode cX8_without 17 = .ok (.iload_n 1, 1) := by decide +kernel
theorem dX8_without_18 : decode cX8_without 18 = .ok (.ishl, 1) := by decide +kernel
theorem dX8_without_19 : decode cX8_without 19 = .ok (.iconst (-1), 1) := by decide +kernel
theorem dX8_without_20 : decode cX8_without 20 = .ok (.ixor, 1) := by decide +kernel
theorem dX8_without_21 : decode cX8_without 21 = .ok (.iand, 1) := by decide +kernel
theorem dX8_without_22 : decode cX8_without 22 = .ok (.istore_n 2, 1) := by decide +kernel
theorem dX8_without_23 : decode cX8_without 23 = .ok (.aload_n 0, 1) := by decide +kernel
theorem dX8_without_24 : decode cX8_without 24 = .ok (.aload_n 0, 1) := by decide +kernel
theorem dX8_without_25 : decode cX8_without 25 = .ok (.invokevirtual 172, 3) := by decide +kernel
theorem dX8_without_28 : decode cX8_without 28 = .ok (.invokevirtual 175, 3) := by decide +kernel
theorem dX8_without_31 : decode cX8_without 31 = .ok (.ifCond .ne 11, 3) := by decide +kernel
theorem dX8_without_34 : decode cX8_without 34 = .ok (.aload_n 0, 1) := by decide +kernel
theorem dX8_without_35 : decode cX8_without 35 = .ok (.iload_n 2, 1) := by decide +kernel
theorem dX8_without_36 : decode cX8_without 36 = .ok (.invokevirtual 175, 3) := by decide +kernel
theorem dX8_without_39 : decode cX8_without 39 = .ok (.ifCond .eq 7, 3) := by decide +kernel
theorem dX8_without_42 : decode cX8_without 42 = .ok (.ldc2_w 189, 3) := by decide +kernel
theorem dX8_without_45 : decode cX8_without 45 = .ok (.lreturn, 1) := by decide +kernel
theorem dX8_without_46 : decode cX8_without 46 = .ok (.aload_n 0, 1) := by decide +kernel
theorem dX8_without_47 : decode cX8_without 47 = .ok (.aload_n 0, 1) := by decide +kernel
theorem dX8_without_48 : decode cX8_without 48 = .ok (.invokevirtual 172, 3) := by decide +kernel
theorem dX8_without_51 : decode cX8_without 51 = .ok (.invokevirtual 178, 3) := by decide +kernel
theorem dX8_without_54 : decode cX8_without 54 = .ok (.aload_n 0, 1) := by decide +kernel
theorem dX8_without_55 : decode cX8_without 55 = .ok (.invokevirtual 182, 3) := by decide +kernel
theorem dX8_without_58 : decode cX8_without 58 = .ok (.lstore_n 3, 1) := by decide +kernel
theorem dX8_without_59 : decode cX8_without 59 = .ok (.aload_n 0, 1) := by decide +kernel
theorem dX8_without_60 : decode cX8_without 60 = .ok (.iload_n 2, 1) := by decide +kernel
theorem dX8_without_61 : decode cX8_without 61 = .ok (.invokevirtual 178, 3) := by decide +kernel
theorem dX8_without_64 : decode cX8_without 64 = .ok (.aload_n 0, 1) := by decide +kernel
theorem dX8_without_65 : decode cX8_without 65 = .ok (.invokevirtual 182, 3) := by decide +kernel
theorem dX8_without_68 : decode cX8_without 68 = .ok (.lstore 5, 2) := by decide +kernel
theorem dX8_without_70 : decode cX8_without 70 = .ok (.lload 5, 2) := by decide +kernel
theorem dX8_without_72 : decode cX8_without 72 = .ok (.lconst 0, 1) := by decide +kernel
theorem dX8_without_73 : decode cX8_without 73 = .ok (.lcmp, 1) := by decide +kernel
theorem dX8_without_74 : decode cX8_without 74 = .ok (.ifCond .ne 9, 3) := by decide +kernel
theorem dX8_without_77 : decode cX8_without 77 = .ok (.ldc2_w 220, 3) := by decide +kernel
theorem dX8_without_80 : decode cX8_without 80 = .ok (.goto 10, 3) := by decide +kernel
theorem dX8_without_83 : decode cX8_without 83 = .ok (.aload_n 0, 1) := by decide +kernel
theorem dX8_without_84 : decode cX8_without 84 = .ok (.lload_n 3, 1) := by decide +kernel
theorem dX8_without_85 : decode cX8_without 85 = .ok (.lload 5, 2) := by decide +kernel
theorem dX8_without_87 : decode cX8_without 87 = .ok (.invokevirtual 208, 3) := by decide +kernel
theorem dX8_without_90 : decode cX8_without 90 = .ok (.lreturn, 1) := by decide +kernel
theorem dX8_draw_0 : decode cX8_draw 0 = .ok (.lload_n 1, 1) := by decide +kernel
theorem dX8_draw_1 : decode cX8_draw 1 = .ok (.lconst 0, 1) := by decide +kernel
theorem dX8_draw_2 : decode cX8_draw 2 = .ok (.lcmp, 1) := by decide +kernel
theorem dX8_draw_3 : decode cX8_draw 3 = .ok (.ifCond .ge 7, 3) := by decide +kernel
theorem dX8_draw_6 : decode cX8_draw 6 = .ok (.ldc2_w 199, 3) := by decide +kernel
theorem dX8_draw_9 : decode cX8_draw 9 = .ok (.lreturn, 1) := by decide +kernel
theorem dX8_draw_10 : decode cX8_draw 10 = .ok (.aload_n 0, 1) := by decide +kernel
theorem dX8_draw_11 : decode cX8_draw 11 = .ok (.invokevirtual 201, 3) := by decide +kernel
theorem dX8_draw_14 : decode cX8_draw 14 = .ok (.istore_n 3, 1) := by decide +kernel
theorem dX8_draw_15 : decode cX8_draw 15 = .ok (.iload_n 3, 1) := by decide +kernel
theorem dX8_draw_16 : decode cX8_draw 16 = .ok (.bipush (-5), 2) := by decide +kernel
theorem dX8_draw_18 : decode cX8_draw 18 = .ok (.if_icmp .eq 18, 3) := by decide +kernel
theorem dX8_draw_21 : decode cX8_draw 21 = .ok (.iload_n 3, 1) := by decide +kernel
theorem dX8_draw_22 : decode cX8_draw 22 = .ok (.bipush (-4), 2) := by decide +kernel
theorem dX8_draw_24 : decode cX8_draw 24 = .ok (.if_icmp .eq 12, 3) := by decide +kernel
theorem dX8_draw_27 : decode cX8_draw 27 = .ok (.lload_n 1, 1) := by decide +kernel
theorem dX8_draw_28 : decode cX8_draw 28 = .ok (.aload_n 0, 1) := by decide +kernel
theorem dX8_draw_29 : decode cX8_draw 29 = .ok (.getfield 186, 3) := by decide +kernel
theorem dX8_draw_32 : decode cX8_draw 32 = .ok (.lcmp, 1) := by decide +kernel
theorem dX8_draw_33 : decode cX8_draw 33 = .ok (.ifCond .lt 19, 3) := by decide +kernel
theorem dX8_draw_36 : decode cX8_draw 36 = .ok (.iload_n 3, 1) := by decide +kernel
theorem dX8_draw_37 : decode cX8_draw 37 = .ok (.bipush (-5), 2) := by decide +kernel
theorem dX8_draw_39 : decode cX8_draw 39 = .ok (.if_icmp .ne 9, 3) := by decide +kernel
theorem dX8_draw_42 : decode cX8_draw 42 = .ok (.ldc2_w 189, 3) := by decide +kernel
theorem dX8_draw_45 : decode cX8_draw 45 = .ok (.goto 6, 3) := by decide +kernel
theorem dX8_draw_48 : decode cX8_draw 48 = .ok (.ldc2_w 220, 3) := by decide +kernel
theorem dX8_draw_51 : decode cX8_draw 51 = .ok (.lreturn, 1) := by decide +kernel
theorem dX8_draw_52 : decode cX8_draw 52 = .ok (.lload_n 1, 1) := by decide +kernel
theorem dX8_draw_53 : decode cX8_draw 53 = .ok (.lstore 4, 2) := by decide +kernel
theorem dX8_draw_55 : decode cX8_draw 55 = .ok (.lconst 1, 1) := by decide +kernel
theorem dX8_draw_56 : decode cX8_draw 56 = .ok (.lstore 6, 2) := by decide +kernel
theorem dX8_draw_58 : decode cX8_draw 58 = .ok (.iconst 0, 1) := by decide +kernel
theorem dX8_draw_59 : decode cX8_draw 59 = .ok (.istore 8, 2) := by decide +kernel
theorem dX8_draw_61 : decode cX8_draw 61 = .ok (.iload 8, 2) := by decide +kernel
theorem dX8_draw_63 : decode cX8_draw 63 = .ok (.aload_n 0, 1) := by decide +kernel
theorem dX8_draw_64 : decode cX8_draw 64 = .ok (.getfield 97, 3) := by decide +kernel
theorem dX8_draw_67 : decode cX8_draw 67 = .ok (.if_icmp .ge 85, 3) := by decide +kernel
theorem dX8_draw_70 : decode cX8_draw 70 = .ok (.iconst 0, 1) := by decide +kernel
theorem dX8_draw_71 : decode cX8_draw 71 = .ok (.istore 9, 2) := by decide +kernel
theorem dX8_draw_73 : decode cX8_draw 73 = .ok (.aload_n 0, 1) := by decide +kernel
theorem dX8_draw_74 : decode cX8_draw 74 = .ok (.iload 8, 2) := by decide +kernel
theorem dX8_draw_76 : decode cX8_draw 76 = .ok (.iconst 0, 1) := by decide +kernel
theorem dX8_draw_77 : decode cX8_draw 77 = .ok (.iconst 0, 1) := by decide +kernel
theorem dX8_draw_78 : decode cX8_draw 78 = .ok (.invokevirtual 195, 3) := by decide +kernel
theorem dX8_draw_81 : decode cX8_draw 81 = .ok (.aload_n 0, 1) := by decide +kernel
theorem dX8_draw_82 : decode cX8_draw 82 = .ok (.invokevirtual 182, 3) := by decide +kernel
theorem dX8_draw_85 : decode cX8_draw 85 = .ok (.lstore 10, 2) := by decide +kernel
theorem dX8_draw_87 : decode cX8_draw 87 = .ok (.lload 4, 2) := by decide +kernel
theorem dX8_draw_89 : decode cX8_draw 89 = .ok (.lload 10, 2) := by decide +kernel
theorem dX8_draw_91 : decode cX8_draw 91 = .ok (.lcmp, 1) := by decide +kernel
theorem dX8_draw_92 : decode cX8_draw 92 = .ok (.ifCond .lt 32, 3) := by decide +kernel
theorem dX8_draw_95 : decode cX8_draw 95 = .ok (.lload 4, 2) := by decide +kernel
theorem dX8_draw_97 : decode cX8_draw 97 = .ok (.lload 10, 2) := by decide +kernel
theorem dX8_draw_99 : decode cX8_draw 99 = .ok (.lsub, 1) := by decide +kernel
theorem dX8_draw_100 : decode cX8_draw 100 = .ok (.lstore 4, 2) := by decide +kernel
theorem dX8_draw_102 : decode cX8_draw 102 = .ok (.iinc 9 1, 3) := by decide +kernel
theorem dX8_draw_105 : decode cX8_draw 105 = .ok (.aload_n 0, 1) := by decide +kernel
theorem dX8_draw_106 : decode cX8_draw 106 = .ok (.iload 8, 2) := by decide +kernel
theorem dX8_draw_108 : decode cX8_draw 108 = .ok (.iload 9, 2) := by decide +kernel
theorem dX8_draw_110 : decode cX8_draw 110 = .ok (.iload 9, 2) := by decide +kernel
theorem dX8_draw_112 : decode cX8_draw 112 = .ok (.invokevirtual 195, 3) := by decide +kernel
theorem dX8_draw_115 : decode cX8_draw 115 = .ok (.aload_n 0, 1) := by decide +kernel
theorem dX8_draw_116 : decode cX8_draw 116 = .ok (.invokevirtual 182, 3) := by decide +kernel
theorem dX8_draw_119 : decode cX8_draw 119 = .ok (.lstore 10, 2) := by decide +kernel
theorem dX8_draw_121 : decode cX8_draw 121 = .ok (.goto (-34), 3) := by decide +kernel
theorem dX8_draw_124 : decode cX8_draw 124 = .ok (.aload_n 0, 1) := by decide +kernel
theorem dX8_draw_125 : decode cX8_draw 125 = .ok (.getfield 38, 3) := by decide +kernel
theorem dX8_draw_128 : decode cX8_draw 128 = .ok (.iload 8, 2) := by decide +kernel
theorem dX8_draw_130 : decode cX8_draw 130 = .ok (.iload 9, 2) := by decide +kernel
theorem dX8_draw_132 : decode cX8_draw 132 = .ok (.iastore, 1) := by decide +kernel
theorem dX8_draw_133 : decode cX8_draw 133 = .ok (.lload 6, 2) := by decide +kernel
theorem dX8_draw_135 : decode cX8_draw 135 = .ok (.aload_n 0, 1) := by decide +kernel
theorem dX8_draw_136 : decode cX8_draw 136 = .ok (.iload 8, 2) := by decide +kernel
theorem dX8_draw_138 : decode cX8_draw 138 = .ok (.iload 9, 2) := by decide +kernel
theorem dX8_draw_140 : decode cX8_draw 140 = .ok (.invokevirtual 132, 3) := by decide +kernel
theorem dX8_draw_143 : decode cX8_draw 143 = .ok (.lmul, 1) := by decide +kernel
theorem dX8_draw_144 : decode cX8_draw 144 = .ok (.lstore 6, 2) := by decide +kernel
theorem dX8_draw_146 : decode cX8_draw 146 = .ok (.iinc 8 1, 3) := by decide +kernel
theorem dX8_draw_149 : decode cX8_draw 149 = .ok (.goto (-88), 3) := by decide +kernel
theorem dX8_draw_152 : decode cX8_draw 152 = .ok (.aload_n 0, 1) := by decide +kernel
theorem dX8_draw_153 : decode cX8_draw 153 = .ok (.iconst 1, 1) := by decide +kernel
theorem dX8_draw_154 : decode cX8_draw 154 = .ok (.putfield 113, 3) := by decide +kernel
theorem dX8_draw_157 : decode cX8_draw 157 = .ok (.lload 6, 2) := by decide +kernel
theorem dX8_draw_159 : decode cX8_draw 159 = .ok (.lreturn, 1) := by decide +kernel
theorem dX8_drawn_0 : decode cX8_drawn 0 = .ok (.aload_n 0, 1) := by decide +kernel
theorem dX8_drawn_1 : decode cX8_drawn 1 = .ok (.getfield 113, 3) := by decide +kernel
theorem dX8_drawn_4 : decode cX8_drawn 4 = .ok (.ifCond .ne 10, 3) := by decide +kernel
theorem dX8_drawn_7 : decode cX8_drawn 7 = .ok (.aload_n 0, 1) := by decide +kernel
theorem dX8_drawn_8 : decode cX8_drawn 8 = .ok (.bipush (-10), 2) := by decide +kernel
theorem dX8_drawn_10 : decode cX8_drawn 10 = .ok (.invokevirtual 108, 3) := by decide +kernel
theorem dX8_drawn_13 : decode cX8_drawn 13 = .ok (.ireturn, 1) := by decide +kernel
theorem dX8_drawn_14 : decode cX8_drawn 14 = .ok (.aload_n 0, 1) := by decide +kernel
theorem dX8_drawn_15 : decode cX8_drawn 15 = .ok (.iload_n 1, 1) := by decide +kernel
theorem dX8_drawn_16 : decode cX8_drawn 16 = .ok (.invokevirtual 117, 3) := by decide +kernel
theorem dX8_drawn_19 : decode cX8_drawn 19 = .ok (.ifCond .eq 12, 3) := by decide +kernel
theorem dX8_drawn_22 : decode cX8_drawn 22 = .ok (.aload_n 0, 1) := by decide +kernel
theorem dX8_drawn_23 : decode cX8_drawn 23 = .ok (.getfield 38, 3) := by decide +kernel
theorem dX8_drawn_26 : decode cX8_drawn 26 = .ok (.iload_n 1, 1) := by decide +kernel
theorem dX8_drawn_27 : decode cX8_drawn 27 = .ok (.iaload, 1) := by decide +kernel
theorem dX8_drawn_28 : decode cX8_drawn 28 = .ok (.goto 5, 3) := by decide +kernel
theorem dX8_drawn_31 : decode cX8_drawn 31 = .ok (.bipush (-2), 2) := by decide +kernel
theorem dX8_drawn_33 : decode cX8_drawn 33 = .ok (.ireturn, 1) := by decide +kernel
theorem dX8_tell_0 : decode cX8_tell 0 = .ok (.aload_n 0, 1) := by decide +kernel
theorem dX8_tell_1 : decode cX8_tell 1 = .ok (.getfield 222, 3) := by decide +kernel
theorem dX8_tell_4 : decode cX8_tell 4 = .ok (.bipush 20, 2) := by decide +kernel
theorem dX8_tell_6 : decode cX8_tell 6 = .ok (.if_icmp .ne 6, 3) := by decide +kernel
theorem dX8_tell_9 : decode cX8_tell 9 = .ok (.bipush (-2), 2) := by decide +kernel
theorem dX8_tell_11 : decode cX8_tell 11 = .ok (.ireturn, 1) := by decide +kernel
theorem dX8_tell_12 : decode cX8_tell 12 = .ok (.aload_n 0, 1) := by decide +kernel
theorem dX8_tell_13 : decode cX8_tell 13 = .ok (.getfield 60, 3) := by decide +kernel
theorem dX8_tell_16 : decode cX8_tell 16 = .ok (.aload_n 0, 1) := by decide +kernel
theorem dX8_tell_17 : decode cX8_tell 17 = .ok (.getfield 222, 3) := by decide +kernel
theorem dX8_tell_20 : decode cX8_tell 20 = .ok (.iload_n 1, 1) := by decide +kernel
theorem dX8_tell_21 : decode cX8_tell 21 = .ok (.iastore, 1) := by decide +kernel
theorem dX8_tell_22 : decode cX8_tell 22 = .ok (.aload_n 0, 1) := by decide +kernel
theorem dX8_tell_23 : decode cX8_tell 23 = .ok (.dup, 1) := by decide +kernel
theorem dX8_tell_24 : decode cX8_tell 24 = .ok (.getfield 222, 3) := by decide +kernel
theorem dX8_tell_27 : decode cX8_tell 27 = .ok (.iconst 1, 1) := by decide +kernel
theorem dX8_tell_28 : decode cX8_tell 28 = .ok (.iadd, 1) := by decide +kernel
theorem dX8_tell_29 : decode cX8_tell 29 = .ok (.putfield 222, 3) := by decide +kernel
theorem dX8_tell_32 : decode cX8_tell 32 = .ok (.aload_n 0, 1) := by decide +kernel
theorem dX8_tell_33 : decode cX8_tell 33 = .ok (.getfield 222, 3) := by decide +kernel
theorem dX8_tell_36 : decode cX8_tell 36 = .ok (.ireturn, 1) := by decide +kernel
theorem dX8_number_0 : decode cX8_number 0 = .ok (.aload_n 0, 1) := by decide +kernel
theorem dX8_number_1 : decode cX8_number 1 = .ok (.getfield 222, 3) := by decide +kernel
theorem dX8_number_4 : decode cX8_number 4 = .ok (.istore_n 1, 1) := by decide +kernel
theorem dX8_number_5 : decode cX8_number 5 = .ok (.aload_n 0, 1) := by decide +kernel
theorem dX8_number_6 : decode cX8_number 6 = .ok (.iconst 0, 1) := by decide +kernel
theorem dX8_number_7 : decode cX8_number 7 = .ok (.putfield 222, 3) := by decide +kernel
theorem dX8_number_10 : decode cX8_number 10 = .ok (.iload_n 1, 1) := by decide +kernel
theorem dX8_number_11 : decode cX8_number 11 = .ok (.aload_n 0, 1) := by decide +kernel
theorem dX8_number_12 : decode cX8_number 12 = .ok (.getfield 97, 3) := by decide +kernel
theorem dX8_number_15 : decode cX8_number 15 = .ok (.if_icmp .ne 7, 3) := by decide +kernel
theorem dX8_number_18 : decode cX8_number 18 = .ok (.iconst 1, 1) := by decide +kernel
theorem dX8_number_19 : decode cX8_number 19 = .ok (.goto 4, 3) := by decide +kernel
theorem dX8_number_22 : decode cX8_number 22 = .ok (.iconst 0, 1) := by decide +kernel
theorem dX8_number_23 : decode cX8_number 23 = .ok (.istore_n 2, 1) := by decide +kernel
theorem dX8_number_24 : decode cX8_number 24 = .ok (.iconst 0, 1) := by decide +kernel
theorem dX8_number_25 : decode cX8_number 25 = .ok (.istore_n 3, 1) := by decide +kernel
theorem dX8_number_26 : decode cX8_number 26 = .ok (.iload_n 3, 1) := by decide +kernel
theorem dX8_number_27 : decode cX8_number 27 = .ok (.iload_n 1, 1) := by decide +kernel
theorem dX8_number_28 : decode cX8_number 28 = .ok (.if_icmp .ge 22, 3) := by decide +kernel
theorem dX8_number_31 : decode cX8_number 31 = .ok (.iload_n 2, 1) := by decide +kernel
theorem dX8_number_32 : decode cX8_number 32 = .ok (.aload_n 0, 1) := by decide +kernel
theorem dX8_number_33 : decode cX8_number 33 = .ok (.aload_n 0, 1) := by decide +kernel
theorem dX8_number_34 : decode cX8_number 34 = .ok (.getfield 60, 3) := by decide +kernel
theorem dX8_number_37 : decode cX8_number 37 = .ok (.iload_n 3, 1) := by decide +kernel
theorem dX8_number_38 : decode cX8_number 38 = .ok (.iaload, 1) := by decide +kernel
theorem dX8_number_39 : decode cX8_number 39 = .ok (.invokevirtual 135, 3) := by decide +kernel
theorem dX8_number_42 : decode cX8_number 42 = .ok (.iand, 1) := by decide +kernel
theorem dX8_number_43 : decode cX8_number 43 = .ok (.istore_n 2, 1) := by decide +kernel
theorem dX8_number_44 : decode cX8_number 44 = .ok (.iinc 3 1, 3) := by decide +kernel
theorem dX8_number_47 : decode cX8_number 47 = .ok (.goto (-21), 3) := by decide +kernel
theorem dX8_number_50 : decode cX8_number 50 = .ok (.iload_n 2, 1) := by decide +kernel
theorem dX8_number_51 : decode cX8_number 51 = .ok (.ifCond .ne 7, 3) := by decide +kernel
theorem dX8_number_54 : decode cX8_number 54 = .ok (.ldc2_w 199, 3) := by decide +kernel
theorem dX8_number_57 : decode cX8_number 57 = .ok (.lreturn, 1) := by decide +kernel
theorem dX8_number_58 : decode cX8_number 58 = .ok (.aload_n 0, 1) := by decide +kernel
theorem dX8_number_59 : decode cX8_number 59 = .ok (.aload_n 0, 1) := by decide +kernel
theorem dX8_number_60 : decode cX8_number 60 = .ok (.invokevirtual 172, 3) := by decide +kernel
theorem dX8_number_63 : decode cX8_number 63 = .ok (.invokevirtual 175, 3) := by decide +kernel
theorem dX8_number_66 : decode cX8_number 66 = .ok (.ifCond .eq 7, 3) := by decide +kernel
theorem dX8_number_69 : decode cX8_number 69 = .ok (.ldc2_w 189, 3) := by decide +kernel
theorem dX8_number_72 : decode cX8_number 72 = .ok (.lreturn, 1) := by decide +kernel
theorem dX8_number_73 : decode cX8_number 73 = .ok (.aload_n 0, 1) := by decide +kernel
theorem dX8_number_74 : decode cX8_number 74 = .ok (.aload_n 0, 1) := by decide +kernel
theorem dX8_number_75 : decode cX8_number 75 = .ok (.invokevirtual 172, 3) := by decide +kernel
theorem dX8_number_78 : decode cX8_number 78 = .ok (.invokevirtual 178, 3) := by decide +kernel
theorem dX8_number_81 : decode cX8_number 81 = .ok (.lconst 0, 1) := by decide +kernel
theorem dX8_number_82 : decode cX8_number 82 = .ok (.lstore_n 3, 1) := by decide +kernel
theorem dX8_number_83 : decode cX8_number 83 = .ok (.iconst 0, 1) := by decide +kernel
theorem dX8_number_84 : decode cX8_number 84 = .ok (.istore 5, 2) := by decide +kernel
theorem dX8_number_86 : decode cX8_number 86 = .ok (.iload 5, 2) := by decide +kernel
theorem dX8_number_88 : decode cX8_number 88 = .ok (.aload_n 0, 1) := by decide +kernel
theorem dX8_number_89 : decode cX8_number 89 = .ok (.getfield 97, 3) := by decide +kernel
theorem dX8_number_92 : decode cX8_number 92 = .ok (.if_icmp .ge 59, 3) := by decide +kernel
theorem dX8_number_95 : decode cX8_number 95 = .ok (.lload_n 3, 1) := by decide +kernel
theorem dX8_number_96 : decode cX8_number 96 = .ok (.aload_n 0, 1) := by decide +kernel
theorem dX8_number_97 : decode cX8_number 97 = .ok (.getfield 60, 3) := by decide +kernel
theorem dX8_number_100 : decode cX8_number 100 = .ok (.iload 5, 2) := by decide +kernel
theorem dX8_number_102 : decode cX8_number 102 = .ok (.iaload, 1) := by decide +kernel
theorem dX8_number_103 : decode cX8_number 103 = .ok (.ifCond .ne 7, 3) := by decide +kernel
theorem dX8_number_106 : decode cX8_number 106 = .ok (.lconst 0, 1) := by decide +kernel
theorem dX8_number_107 : decode cX8_number 107 = .ok (.goto 16, 3) := by decide +kernel
theorem dX8_number_110 : decode cX8_number 110 = .ok (.aload_n 0, 1) := by decide +kernel
theorem dX8_number_111 : decode cX8_number 111 = .ok (.iload 5, 2) := by decide +kernel
theorem dX8_number_113 : decode cX8_number 113 = .ok (.aload_n 0, 1) := by decide +kernel
theorem dX8_number_114 : decode cX8_number 114 = .ok (.getfield 60, 3) := by decide +kernel
theorem dX8_number_117 : decode cX8_number 117 = .ok (.iload 5, 2) := by decide +kernel
theorem dX8_number_119 : decode cX8_number 119 = .ok (.iaload, 1) := by decide +kernel
theorem dX8_number_120 : decode cX8_number 120 = .ok (.invokevirtual 225, 3) := by decide +kernel
theorem dX8_number_123 : decode cX8_number 123 = .ok (.ladd, 1) := by decide +kernel
theorem dX8_number_124 : decode cX8_number 124 = .ok (.lstore_n 3, 1) := by decide +kernel
theorem dX8_number_125 : decode cX8_number 125 = .ok (.aload_n 0, 1) := by decide +kernel
theorem dX8_number_126 : decode cX8_number 126 = .ok (.iload 5, 2) := by decide +kernel
theorem dX8_number_128 : decode cX8_number 128 = .ok (.aload_n 0, 1) := by decide +kernel
theorem dX8_number_129 : decode cX8_number 129 = .ok (.getfield 60, 3) := by decide +kernel
theorem dX8_number_132 : decode cX8_number 132 = .ok (.iload 5, 2) := by decide +kernel
theorem dX8_number_134 : decode cX8_number 134 = .ok (.iaload, 1) := by decide +kernel
theorem dX8_number_135 : decode cX8_number 135 = .ok (.aload_n 0, 1) := by decide +kernel
theorem dX8_number_136 : decode cX8_number 136 = .ok (.getfield 60, 3) := by decide +kernel
theorem dX8_number_139 : decode cX8_number 139 = .ok (.iload 5, 2) := by decide +kernel
theorem dX8_number_141 : decode cX8_number 141 = .ok (.iaload, 1) := by decide +kernel
theorem dX8_number_142 : decode cX8_number 142 = .ok (.invokevirtual 195, 3) := by decide +kernel
theorem dX8_number_145 : decode cX8_number 145 = .ok (.iinc 5 1, 3) := by decide +kernel
theorem dX8_number_148 : decode cX8_number 148 = .ok (.goto (-62), 3) := by decide +kernel
theorem dX8_number_151 : decode cX8_number 151 = .ok (.aload_n 0, 1) := by decide +kernel
theorem dX8_number_152 : decode cX8_number 152 = .ok (.invokevirtual 182, 3) := by decide +kernel
theorem dX8_number_155 : decode cX8_number 155 = .ok (.lconst 0, 1) := by decide +kernel
theorem dX8_number_156 : decode cX8_number 156 = .ok (.lcmp, 1) := by decide +kernel
theorem dX8_number_157 : decode cX8_number 157 = .ok (.ifCond .ne 9, 3) := by decide +kernel
theorem dX8_number_160 : decode cX8_number 160 = .ok (.ldc2_w 220, 3) := by decide +kernel
theorem dX8_number_163 : decode cX8_number 163 = .ok (.goto 4, 3) := by decide +kernel
theorem dX8_number_166 : decode cX8_number 166 = .ok (.lload_n 3, 1) := by decide +kernel
theorem dX8_number_167 : decode cX8_number 167 = .ok (.lreturn, 1) := by decide +kernel
theorem dX8_lessThan_0 : decode cX8_lessThan 0 = .ok (.aload_n 0, 1) := by decide +kernel
theorem dX8_lessThan_1 : decode cX8_lessThan 1 = .ok (.iload_n 1, 1) := by decide +kernel
theorem dX8_lessThan_2 : decode cX8_lessThan 2 = .ok (.iconst 0, 1) := by decide +kernel
theorem dX8_lessThan_3 : decode cX8_lessThan 3 = .ok (.iload_n 2, 1) := by decide +kernel
theorem dX8_lessThan_4 : decode cX8_lessThan 4 = .ok (.iconst 1, 1) := by decide +kernel
theorem dX8_lessThan_5 : decode cX8_lessThan 5 = .ok (.isub, 1) := by decide +kernel
theorem dX8_lessThan_6 : decode cX8_lessThan 6 = .ok (.invokevirtual 195, 3) := by decide +kernel
theorem dX8_lessThan_9 : decode cX8_lessThan 9 = .ok (.aload_n 0, 1) := by decide +kernel
theorem dX8_lessThan_10 : decode cX8_lessThan 10 = .ok (.invokevirtual 182, 3) := by decide +kernel
theorem dX8_lessThan_13 : decode cX8_lessThan 13 = .ok (.lreturn, 1) := by decide +kernel
theorem dX8_carry_0 : decode cX8_carry 0 = .ok (.iconst 0, 1) := by decide +kernel
theorem dX8_carry_1 : decode cX8_carry 1 = .ok (.istore 5, 2) := by decide +kernel
theorem dX8_carry_3 : decode cX8_carry 3 = .ok (.iload 5, 2) := by decide +kernel
theorem dX8_carry_5 : decode cX8_carry 5 = .ok (.iload_n 2, 1) := by decide +kernel
theorem dX8_carry_6 : decode cX8_carry 6 = .ok (.if_icmp .ge 43, 3) := by decide +kernel
theorem dX8_carry_9 : decode cX8_carry 9 = .ok (.iload 4, 2) := by decide +kernel
theorem dX8_carry_11 : decode cX8_carry 11 = .ok (.ifCond .eq 19, 3) := by decide +kernel
theorem dX8_carry_14 : decode cX8_carry 14 = .ok (.aload_n 1, 1) := by decide +kernel
theorem dX8_carry_15 : decode cX8_carry 15 = .ok (.iload 5, 2) := by decide +kernel
theorem dX8_carry_17 : decode cX8_carry 17 = .ok (.aload_n 0, 1) := by decide +kernel
theorem dX8_carry_18 : decode cX8_carry 18 = .ok (.getfield 45, 3) := by decide +kernel
theorem dX8_carry_21 : decode cX8_carry 21 = .ok (.iload_n 3, 1) := by decide +kernel
theorem dX8_carry_22 : decode cX8_carry 22 = .ok (.iload 5, 2) := by decide +kernel
theorem dX8_carry_24 : decode cX8_carry 24 = .ok (.iadd, 1) := by decide +kernel
theorem dX8_carry_25 : decode cX8_carry 25 = .ok (.iaload, 1) := by decide +kernel
theorem dX8_carry_26 : decode cX8_carry 26 = .ok (.iastore, 1) := by decide +kernel
theorem dX8_carry_27 : decode cX8_carry 27 = .ok (.goto 16, 3) := by decide +kernel
theorem dX8_carry_30 : decode cX8_carry 30 = .ok (.aload_n 0, 1) := by decide +kernel
theorem dX8_carry_31 : decode cX8_carry 31 = .ok (.getfield 45, 3) := by decide +kernel
theorem dX8_carry_34 : decode cX8_carry 34 = .ok (.iload_n 3, 1) := by decide +kernel
theorem dX8_carry_35 : decode cX8_carry 35 = .ok (.iload 5, 2) := by decide +kernel
theorem dX8_carry_37 : decode cX8_carry 37 = .ok (.iadd, 1) := by decide +kernel
theorem dX8_carry_38 : decode cX8_carry 38 = .ok (.aload_n 1, 1) := by decide +kernel
theorem dX8_carry_39 : decode cX8_carry 39 = .ok (.iload 5, 2) := by decide +kernel
theorem dX8_carry_41 : decode cX8_carry 41 = .ok (.iaload, 1) := by decide +kernel
theorem dX8_carry_42 : decode cX8_carry 42 = .ok (.iastore, 1) := by decide +kernel
theorem dX8_carry_43 : decode cX8_carry 43 = .ok (.iinc 5 1, 3) := by decide +kernel
theorem dX8_carry_46 : decode cX8_carry 46 = .ok (.goto (-43), 3) := by decide +kernel
theorem dX8_carry_49 : decode cX8_carry 49 = .ok (.iload_n 3, 1) := by decide +kernel
theorem dX8_carry_50 : decode cX8_carry 50 = .ok (.iload_n 2, 1) := by decide +kernel
theorem dX8_carry_51 : decode cX8_carry 51 = .ok (.iadd, 1) := by decide +kernel
theorem dX8_carry_52 : decode cX8_carry 52 = .ok (.ireturn, 1) := by decide +kernel
theorem dX8_carryAll_0 : decode cX8_carryAll 0 = .ok (.aload_n 0, 1) := by decide +kernel
theorem dX8_carryAll_1 : decode cX8_carryAll 1 = .ok (.getfield 88, 3) := by decide +kernel
theorem dX8_carryAll_4 : decode cX8_carryAll 4 = .ok (.iconst 0, 1) := by decide +kernel
theorem dX8_carryAll_5 : decode cX8_carryAll 5 = .ok (.aload_n 0, 1) := by decide +kernel
theorem dX8_carryAll_6 : decode cX8_carryAll 6 = .ok (.getfield 7, 3) := by decide +kernel
theorem dX8_carryAll_9 : decode cX8_carryAll 9 = .ok (.iastore, 1) := by decide +kernel
theorem dX8_carryAll_10 : decode cX8_carryAll 10 = .ok (.aload_n 0, 1) := by decide +kernel
theorem dX8_carryAll_11 : decode cX8_carryAll 11 = .ok (.getfield 88, 3) := by decide +kernel
theorem dX8_carryAll_14 : decode cX8_carryAll 14 = .ok (.iconst 1, 1) := by decide +kernel
theorem dX8_carryAll_15 : decode cX8_carryAll 15 = .ok (.aload_n 0, 1) := by decide +kernel
theorem dX8_carryAll_16 : decode cX8_carryAll 16 = .ok (.getfield 97, 3) := by decide +kernel
theorem dX8_carryAll_19 : decode cX8_carryAll 19 = .ok (.iastore, 1) := by decide +kernel
theorem dX8_carryAll_20 : decode cX8_carryAll 20 = .ok (.aload_n 0, 1) := by decide +kernel
theorem dX8_carryAll_21 : decode cX8_carryAll 21 = .ok (.aload_n 0, 1) := by decide +kernel
theorem dX8_carryAll_22 : decode cX8_carryAll 22 = .ok (.getfield 88, 3) := by decide +kernel
theorem dX8_carryAll_25 : decode cX8_carryAll 25 = .ok (.iconst 2, 1) := by decide +kernel
theorem dX8_carryAll_26 : decode cX8_carryAll 26 = .ok (.iconst 0, 1) := by decide +kernel
theorem dX8_carryAll_27 : decode cX8_carryAll 27 = .ok (.iload_n 1, 1) := by decide +kernel
theorem dX8_carryAll_28 : decode cX8_carryAll 28 = .ok (.invokevirtual 228, 3) := by decide +kernel
theorem dX8_carryAll_31 : decode cX8_carryAll 31 = .ok (.istore_n 2, 1) := by decide +kernel
theorem dX8_carryAll_32 : decode cX8_carryAll 32 = .ok (.aload_n 0, 1) := by decide +kernel
theorem dX8_carryAll_33 : decode cX8_carryAll 33 = .ok (.aload_n 0, 1) := by decide +kernel
theorem dX8_carryAll_34 : decode cX8_carryAll 34 = .ok (.getfield 13, 3) := by decide +kernel
theorem dX8_carryAll_37 : decode cX8_carryAll 37 = .ok (.bipush 40, 2) := by decide +kernel
theorem dX8_carryAll_39 : decode cX8_carryAll 39 = .ok (.iload_n 2, 1) := by decide +kernel
theorem dX8_carryAll_40 : decode cX8_carryAll 40 = .ok (.iload_n 1, 1) := by decide +kernel
theorem dX8_carryAll_41 : decode cX8_carryAll 41 = .ok (.invokevirtual 228, 3) := by decide +kernel
theorem dX8_carryAll_44 : decode cX8_carryAll 44 = .ok (.istore_n 2, 1) := by decide +kernel
theorem dX8_carryAll_45 : decode cX8_carryAll 45 = .ok (.aload_n 0, 1) := by decide +kernel
theorem dX8_carryAll_46 : decode cX8_carryAll 46 = .ok (.aload_n 0, 1) := by decide +kernel
theorem dX8_carryAll_47 : decode cX8_carryAll 47 = .ok (.getfield 17, 3) := by decide +kernel
theorem dX8_carryAll_50 : decode cX8_carryAll 50 = .ok (.bipush 21, 2) := by decide +kernel
theorem dX8_carryAll_52 : decode cX8_carryAll 52 = .ok (.iload_n 2, 1) := by decide +kernel
theorem dX8_carryAll_53 : decode cX8_carryAll 53 = .ok (.iload_n 1, 1) := by decide +kernel
theorem dX8_carryAll_54 : decode cX8_carryAll 54 = .ok (.invokevirtual 228, 3) := by decide +kernel
theorem dX8_carryAll_57 : decode cX8_carryAll 57 = .ok (.istore_n 2, 1) := by decide +kernel
theorem dX8_carryAll_58 : decode cX8_carryAll 58 = .ok (.aload_n 0, 1) := by decide +kernel
theorem dX8_carryAll_59 : decode cX8_carryAll 59 = .ok (.aload_n 0, 1) := by decide +kernel
theorem dX8_carryAll_60 : decode cX8_carryAll 60 = .ok (.getfield 20, 3) := by decide +kernel
theorem dX8_carryAll_63 : decode cX8_carryAll 63 = .ok (.bipush 7, 2) := by decide +kernel
theorem dX8_carryAll_65 : decode cX8_carryAll 65 = .ok (.iload_n 2, 1) := by decide +kernel
theorem dX8_carryAll_66 : decode cX8_carryAll 66 = .ok (.iload_n 1, 1) := by decide +kernel
theorem dX8_carryAll_67 : decode cX8_carryAll 67 = .ok (.invokevirtual 228, 3) := by decide +kernel
theorem dX8_carryAll_70 : decode cX8_carryAll 70 = .ok (.istore_n 2, 1) := by decide +kernel
theorem dX8_carryAll_71 : decode cX8_carryAll 71 = .ok (.aload_n 0, 1) := by decide +kernel
theorem dX8_carryAll_72 : decode cX8_carryAll 72 = .ok (.aload_n 0, 1) := by decide +kernel
theorem dX8_carryAll_73 : decode cX8_carryAll 73 = .ok (.getfield 23, 3) := by decide +kernel
theorem dX8_carryAll_76 : decode cX8_carryAll 76 = .ok (.bipush 7, 2) := by decide +kernel
theorem dX8_carryAll_78 : decode cX8_carryAll 78 = .ok (.iload_n 2, 1) := by decide +kernel
theorem dX8_carryAll_79 : decode cX8_carryAll 79 = .ok (.iload_n 1, 1) := by decide +kernel
theorem dX8_carryAll_80 : decode cX8_carryAll 80 = .ok (.invokevirtual 228, 3) := by decide +kernel
theorem dX8_carryAll_83 : decode cX8_carryAll 83 = .ok (.istore_n 2, 1) := by decide +kernel
theorem dX8_carryAll_84 : decode cX8_carryAll 84 = .ok (.aload_n 0, 1) := by decide +kernel
theorem dX8_carryAll_85 : decode cX8_carryAll 85 = .ok (.aload_n 0, 1) := by decide +kernel
theorem dX8_carryAll_86 : decode cX8_carryAll 86 = .ok (.getfield 26, 3) := by decide +kernel
theorem dX8_carryAll_89 : decode cX8_carryAll 89 = .ok (.bipush 7, 2) := by decide +kernel
theorem dX8_carryAll_91 : decode cX8_carryAll 91 = .ok (.iload_n 2, 1) := by decide +kernel
theorem dX8_carryAll_92 : decode cX8_carryAll 92 = .ok (.iload_n 1, 1) := by decide +kernel
theorem dX8_carryAll_93 : decode cX8_carryAll 93 = .ok (.invokevirtual 228, 3) := by decide +kernel
theorem dX8_carryAll_96 : decode cX8_carryAll 96 = .ok (.istore_n 2, 1) := by decide +kernel
theorem dX8_carryAll_97 : decode cX8_carryAll 97 = .ok (.aload_n 0, 1) := by decide +kernel
theorem dX8_carryAll_98 : decode cX8_carryAll 98 = .ok (.aload_n 0, 1) := by decide +kernel
theorem dX8_carryAll_99 : decode cX8_carryAll 99 = .ok (.getfield 29, 3) := by decide +kernel
theorem dX8_carryAll_102 : decode cX8_carryAll 102 = .ok (.bipush 35, 2) := by decide +kernel
theorem dX8_carryAll_104 : decode cX8_carryAll 104 = .ok (.iload_n 2, 1) := by decide +kernel
theorem dX8_carryAll_105 : decode cX8_carryAll 105 = .ok (.iload_n 1, 1) := by decide +kernel
theorem dX8_carryAll_106 : decode cX8_carryAll 106 = .ok (.invokevirtual 228, 3) := by decide +kernel
theorem dX8_carryAll_109 : decode cX8_carryAll 109 = .ok (.istore_n 2, 1) := by decide +kernel
theorem dX8_carryAll_110 : decode cX8_carryAll 110 = .ok (.aload_n 0, 1) := by decide +kernel
theorem dX8_carryAll_111 : decode cX8_carryAll 111 = .ok (.aload_n 0, 1) := by decide +kernel
theorem dX8_carryAll_112 : decode cX8_carryAll 112 = .ok (.getfield 32, 3) := by decide +kernel
theorem dX8_carryAll_115 : decode cX8_carryAll 115 = .ok (.bipush 35, 2) := by decide +kernel
theorem dX8_carryAll_117 : decode cX8_carryAll 117 = .ok (.iload_n 2, 1) := by decide +kernel
theorem dX8_carryAll_118 : decode cX8_carryAll 118 = .ok (.iload_n 1, 1) := by decide +kernel
theorem dX8_carryAll_119 : decode cX8_carryAll 119 = .ok (.invokevirtual 228, 3) := by decide +kernel
theorem dX8_carryAll_122 : decode cX8_carryAll 122 = .ok (.istore_n 2, 1) := by decide +kernel
theorem dX8_carryAll_123 : decode cX8_carryAll 123 = .ok (.aload_n 0, 1) := by decide +kernel
theorem dX8_carryAll_124 : decode cX8_carryAll 124 = .ok (.aload_n 0, 1) := by decide +kernel
theorem dX8_carryAll_125 : decode cX8_carryAll 125 = .ok (.getfield 35, 3) := by decide +kernel
theorem dX8_carryAll_128 : decode cX8_carryAll 128 = .ok (.bipush 49, 2) := by decide +kernel
theorem dX8_carryAll_130 : decode cX8_carryAll 130 = .ok (.iload_n 2, 1) := by decide +kernel
theorem dX8_carryAll_131 : decode cX8_carryAll 131 = .ok (.iload_n 1, 1) := by decide +kernel
theorem dX8_carryAll_132 : decode cX8_carryAll 132 = .ok (.invokevirtual 228, 3) := by decide +kernel
theorem dX8_carryAll_135 : decode cX8_carryAll 135 = .ok (.istore_n 2, 1) := by decide +kernel
theorem dX8_carryAll_136 : decode cX8_carryAll 136 = .ok (.aload_n 0, 1) := by decide +kernel
theorem dX8_carryAll_137 : decode cX8_carryAll 137 = .ok (.aload_n 0, 1) := by decide +kernel
theorem dX8_carryAll_138 : decode cX8_carryAll 138 = .ok (.getfield 88, 3) := by decide +kernel
theorem dX8_carryAll_141 : decode cX8_carryAll 141 = .ok (.iconst 0, 1) := by decide +kernel
theorem dX8_carryAll_142 : decode cX8_carryAll 142 = .ok (.iaload, 1) := by decide +kernel
theorem dX8_carryAll_143 : decode cX8_carryAll 143 = .ok (.putfield 7, 3) := by decide +kernel
theorem dX8_carryAll_146 : decode cX8_carryAll 146 = .ok (.aload_n 0, 1) := by decide +kernel
theorem dX8_carryAll_147 : decode cX8_carryAll 147 = .ok (.aload_n 0, 1) := by decide +kernel
theorem dX8_carryAll_148 : decode cX8_carryAll 148 = .ok (.getfield 88, 3) := by decide +kernel
theorem dX8_carryAll_151 : decode cX8_carryAll 151 = .ok (.iconst 1, 1) := by decide +kernel
theorem dX8_carryAll_152 : decode cX8_carryAll 152 = .ok (.iaload, 1) := by decide +kernel
theorem dX8_carryAll_153 : decode cX8_carryAll 153 = .ok (.putfield 97, 3) := by decide +kernel
theorem dX8_carryAll_156 : decode cX8_carryAll 156 = .ok (.return_, 1) := by decide +kernel
theorem dX8_keep_0 : decode cX8_keep 0 = .ok (.aload_n 0, 1) := by decide +kernel
theorem dX8_keep_1 : decode cX8_keep 1 = .ok (.iconst 0, 1) := by decide +kernel
theorem dX8_keep_2 : decode cX8_keep 2 = .ok (.invokevirtual 232, 3) := by decide +kernel
theorem dX8_keep_5 : decode cX8_keep 5 = .ok (.aload_n 0, 1) := by decide +kernel
theorem dX8_keep_6 : decode cX8_keep 6 = .ok (.iconst 1, 1) := by decide +kernel
theorem dX8_keep_7 : decode cX8_keep 7 = .ok (.putfield 236, 3) := by decide +kernel
theorem dX8_keep_10 : decode cX8_keep 10 = .ok (.aload_n 0, 1) := by decide +kernel
theorem dX8_keep_11 : decode cX8_keep 11 = .ok (.getfield 97, 3) := by decide +kernel
theorem dX8_keep_14 : decode cX8_keep 14 = .ok (.ireturn, 1) := by decide +kernel
theorem dX8_back_0 : decode cX8_back 0 = .ok (.aload_n 0, 1) := by decide +kernel
theorem dX8_back_1 : decode cX8_back 1 = .ok (.getfield 236, 3) := by decide +kernel
theorem dX8_back_4 : decode cX8_back 4 = .ok (.ifCond .ne 10, 3) := by decide +kernel
theorem dX8_back_7 : decode cX8_back 7 = .ok (.aload_n 0, 1) := by decide +kernel
theorem dX8_back_8 : decode cX8_back 8 = .ok (.bipush (-10), 2) := by decide +kernel
theorem dX8_back_10 : decode cX8_back 10 = .ok (.invokevirtual 108, 3) := by decide +kernel
theorem dX8_back_13 : decode cX8_back 13 = .ok (.ireturn, 1) := by decide +kernel
theorem dX8_back_14 : decode cX8_back 14 = .ok (.aload_n 0, 1) := by decide +kernel
theorem dX8_back_15 : decode cX8_back 15 = .ok (.iconst 1, 1) := by decide +kernel
theorem dX8_back_16 : decode cX8_back 16 = .ok (.invokevirtual 232, 3) := by decide +kernel
theorem dX8_back_19 : decode cX8_back 19 = .ok (.aload_n 0, 1) := by decide +kernel
theorem dX8_back_20 : decode cX8_back 20 = .ok (.iconst 0, 1) := by decide +kernel
theorem dX8_back_21 : decode cX8_back 21 = .ok (.putfield 113, 3) := by decide +kernel
theorem dX8_back_24 : decode cX8_back 24 = .ok (.aload_n 0, 1) := by decide +kernel
theorem dX8_back_25 : decode cX8_back 25 = .ok (.getfield 97, 3) := by decide +kernel
theorem dX8_back_28 : decode cX8_back 28 = .ok (.ireturn, 1) := by decide +kernel
theorem dX8_change_0 : decode cX8_change 0 = .ok (.iconst 0, 1) := by decide +kernel
theorem dX8_change_1 : decode cX8_change 1 = .ok (.istore_n 1, 1) := by decide +kernel
theorem dX8_change_2 : decode cX8_change 2 = .ok (.iload_n 1, 1) := by decide +kernel
theorem dX8_change_3 : decode cX8_change 3 = .ok (.sipush 260, 3) := by decide +kernel
theorem dX8_change_6 : decode cX8_change 6 = .ok (.if_icmp .ge 21, 3) := by decide +kernel
theorem dX8_change_9 : decode cX8_change 9 = .ok (.aload_n 0, 1) := by decide +kernel
theorem dX8_change_10 : decode cX8_change 10 = .ok (.getfield 91, 3) := by decide +kernel
theorem dX8_change_13 : decode cX8_change 13 = .ok (.iload_n 1, 1) := by decide +kernel
theorem dX8_change_14 : decode cX8_change 14 = .ok (.aload_n 0, 1) := by decide +kernel
theorem dX8_change_15 : decode cX8_change 15 = .ok (.getfield 45, 3) := by decide +kernel
theorem dX8_change_18 : decode cX8_change 18 = .ok (.iload_n 1, 1) := by decide +kernel
theorem dX8_change_19 : decode cX8_change 19 = .ok (.iaload, 1) := by decide +kernel
theorem dX8_change_20 : decode cX8_change 20 = .ok (.iastore, 1) := by decide +kernel
theorem dX8_change_21 : decode cX8_change 21 = .ok (.iinc 1 1, 3) := by decide +kernel
theorem dX8_change_24 : decode cX8_change 24 = .ok (.goto (-22), 3) := by decide +kernel
theorem dX8_change_27 : decode cX8_change 27 = .ok (.aload_n 0, 1) := by decide +kernel
theorem dX8_change_28 : decode cX8_change 28 = .ok (.iconst 0, 1) := by decide +kernel
theorem dX8_change_29 : decode cX8_change 29 = .ok (.invokevirtual 232, 3) := by decide +kernel
theorem dX8_change_32 : decode cX8_change 32 = .ok (.iconst 0, 1) := by decide +kernel
theorem dX8_change_33 : decode cX8_change 33 = .ok (.istore_n 1, 1) := by decide +kernel
theorem dX8_change_34 : decode cX8_change 34 = .ok (.iload_n 1, 1) := by decide +kernel
theorem dX8_change_35 : decode cX8_change 35 = .ok (.sipush 260, 3) := by decide +kernel
theorem dX8_change_38 : decode cX8_change 38 = .ok (.if_icmp .ge 35, 3) := by decide +kernel
theorem dX8_change_41 : decode cX8_change 41 = .ok (.aload_n 0, 1) := by decide +kernel
theorem dX8_change_42 : decode cX8_change 42 = .ok (.getfield 45, 3) := by decide +kernel
theorem dX8_change_45 : decode cX8_change 45 = .ok (.iload_n 1, 1) := by decide +kernel
theorem dX8_change_46 : decode cX8_change 46 = .ok (.iaload, 1) := by decide +kernel
theorem dX8_change_47 : decode cX8_change 47 = .ok (.istore_n 2, 1) := by decide +kernel
theorem dX8_change_48 : decode cX8_change 48 = .ok (.aload_n 0, 1) := by decide +kernel
theorem dX8_change_49 : decode cX8_change 49 = .ok (.getfield 45, 3) := by decide +kernel
theorem dX8_change_52 : decode cX8_change 52 = .ok (.iload_n 1, 1) := by decide +kernel
theorem dX8_change_53 : decode cX8_change 53 = .ok (.aload_n 0, 1) := by decide +kernel
theorem dX8_change_54 : decode cX8_change 54 = .ok (.getfield 91, 3) := by decide +kernel
theorem dX8_change_57 : decode cX8_change 57 = .ok (.iload_n 1, 1) := by decide +kernel
theorem dX8_change_58 : decode cX8_change 58 = .ok (.iaload, 1) := by decide +kernel
theorem dX8_change_59 : decode cX8_change 59 = .ok (.iastore, 1) := by decide +kernel
theorem dX8_change_60 : decode cX8_change 60 = .ok (.aload_n 0, 1) := by decide +kernel
theorem dX8_change_61 : decode cX8_change 61 = .ok (.getfield 91, 3) := by decide +kernel
theorem dX8_change_64 : decode cX8_change 64 = .ok (.iload_n 1, 1) := by decide +kernel
theorem dX8_change_65 : decode cX8_change 65 = .ok (.iload_n 2, 1) := by decide +kernel
theorem dX8_change_66 : decode cX8_change 66 = .ok (.iastore, 1) := by decide +kernel
theorem dX8_change_67 : decode cX8_change 67 = .ok (.iinc 1 1, 3) := by decide +kernel
theorem dX8_change_70 : decode cX8_change 70 = .ok (.goto (-36), 3) := by decide +kernel
theorem dX8_change_73 : decode cX8_change 73 = .ok (.aload_n 0, 1) := by decide +kernel
theorem dX8_change_74 : decode cX8_change 74 = .ok (.iconst 1, 1) := by decide +kernel
theorem dX8_change_75 : decode cX8_change 75 = .ok (.invokevirtual 232, 3) := by decide +kernel
theorem dX8_change_78 : decode cX8_change 78 = .ok (.iconst 0, 1) := by decide +kernel
theorem dX8_change_79 : decode cX8_change 79 = .ok (.istore_n 1, 1) := by decide +kernel
theorem dX8_change_80 : decode cX8_change 80 = .ok (.iload_n 1, 1) := by decide +kernel
theorem dX8_change_81 : decode cX8_change 81 = .ok (.sipush 260, 3) := by decide +kernel
theorem dX8_change_84 : decode cX8_change 84 = .ok (.if_icmp .ge 21, 3) := by decide +kernel
theorem dX8_change_87 : decode cX8_change 87 = .ok (.aload_n 0, 1) := by decide +kernel
theorem dX8_change_88 : decode cX8_change 88 = .ok (.getfield 45, 3) := by decide +kernel
theorem dX8_change_91 : decode cX8_change 91 = .ok (.iload_n 1, 1) := by decide +kernel
theorem dX8_change_92 : decode cX8_change 92 = .ok (.aload_n 0, 1) := by decide +kernel
theorem dX8_change_93 : decode cX8_change 93 = .ok (.getfield 91, 3) := by decide +kernel
theorem dX8_change_96 : decode cX8_change 96 = .ok (.iload_n 1, 1) := by decide +kernel
theorem dX8_change_97 : decode cX8_change 97 = .ok (.iaload, 1) := by decide +kernel
theorem dX8_change_98 : decode cX8_change 98 = .ok (.iastore, 1) := by decide +kernel
theorem dX8_change_99 : decode cX8_change 99 = .ok (.iinc 1 1, 3) := by decide +kernel
theorem dX8_change_102 : decode cX8_change 102 = .ok (.goto (-22), 3) := by decide +kernel
theorem dX8_change_105 : decode cX8_change 105 = .ok (.return_, 1) := by decide +kernel
theorem dX8_bears_0 : decode cX8_bears 0 = .ok (.aload_n 0, 1) := by decide +kernel
theorem dX8_bears_1 : decode cX8_bears 1 = .ok (.getfield 236, 3) := by decide +kernel
theorem dX8_bears_4 : decode cX8_bears 4 = .ok (.ifCond .ne 11, 3) := by decide +kernel
theorem dX8_bears_7 : decode cX8_bears 7 = .ok (.aload_n 0, 1) := by decide +kernel
theorem dX8_bears_8 : decode cX8_bears 8 = .ok (.bipush (-10), 2) := by decide +kernel
theorem dX8_bears_10 : decode cX8_bears 10 = .ok (.invokevirtual 108, 3) := by decide +kernel
theorem dX8_bears_13 : decode cX8_bears 13 = .ok (.i2l, 1) := by decide +kernel
theorem dX8_bears_14 : decode cX8_bears 14 = .ok (.lreturn, 1) := by decide +kernel
theorem dX8_bears_15 : decode cX8_bears 15 = .ok (.aload_n 0, 1) := by decide +kernel
theorem dX8_bears_16 : decode cX8_bears 16 = .ok (.invokevirtual 239, 3) := by decide +kernel
theorem dX8_bears_19 : decode cX8_bears 19 = .ok (.lstore_n 1, 1) := by decide +kernel
theorem dX8_bears_20 : decode cX8_bears 20 = .ok (.aload_n 0, 1) := by decide +kernel
theorem dX8_bears_21 : decode cX8_bears 21 = .ok (.invokevirtual 242, 3) := by decide +kernel
theorem dX8_bears_24 : decode cX8_bears 24 = .ok (.aload_n 0, 1) := by decide +kernel
theorem dX8_bears_25 : decode cX8_bears 25 = .ok (.invokevirtual 239, 3) := by decide +kernel
theorem dX8_bears_28 : decode cX8_bears 28 = .ok (.lstore_n 3, 1) := by decide +kernel
theorem dX8_bears_29 : decode cX8_bears 29 = .ok (.aload_n 0, 1) := by decide +kernel
theorem dX8_bears_30 : decode cX8_bears 30 = .ok (.invokevirtual 242, 3) := by decide +kernel
theorem dX8_bears_33 : decode cX8_bears 33 = .ok (.lload_n 1, 1) := by decide +kernel
theorem dX8_bears_34 : decode cX8_bears 34 = .ok (.lconst 0, 1) := by decide +kernel
theorem dX8_bears_35 : decode cX8_bears 35 = .ok (.lcmp, 1) := by decide +kernel
theorem dX8_bears_36 : decode cX8_bears 36 = .ok (.ifCond .lt 9, 3) := by decide +kernel
theorem dX8_bears_39 : decode cX8_bears 39 = .ok (.lload_n 3, 1) := by decide +kernel
theorem dX8_bears_40 : decode cX8_bears 40 = .ok (.lconst 0, 1) := by decide +kernel
theorem dX8_bears_41 : decode cX8_bears 41 = .ok (.lcmp, 1) := by decide +kernel
theorem dX8_bears_42 : decode cX8_bears 42 = .ok (.ifCond .ge 7, 3) := by decide +kernel
theorem dX8_bears_45 : decode cX8_bears 45 = .ok (.ldc2_w 189, 3) := by decide +kernel
theorem dX8_bears_48 : decode cX8_bears 48 = .ok (.lreturn, 1) := by decide +kernel
theorem dX8_bears_49 : decode cX8_bears 49 = .ok (.lload_n 3, 1) := by decide +kernel
theorem dX8_bears_50 : decode cX8_bears 50 = .ok (.lconst 0, 1) := by decide +kernel
theorem dX8_bears_51 : decode cX8_bears 51 = .ok (.lcmp, 1) := by decide +kernel
theorem dX8_bears_52 : decode cX8_bears 52 = .ok (.ifCond .ne 9, 3) := by decide +kernel
theorem dX8_bears_55 : decode cX8_bears 55 = .ok (.ldc2_w 220, 3) := by decide +kernel
theorem dX8_bears_58 : decode cX8_bears 58 = .ok (.goto 9, 3) := by decide +kernel
theorem dX8_bears_61 : decode cX8_bears 61 = .ok (.aload_n 0, 1) := by decide +kernel
theorem dX8_bears_62 : decode cX8_bears 62 = .ok (.lload_n 1, 1) := by decide +kernel
theorem dX8_bears_63 : decode cX8_bears 63 = .ok (.lload_n 3, 1) := by decide +kernel
theorem dX8_bears_64 : decode cX8_bears 64 = .ok (.invokevirtual 208, 3) := by decide +kernel
theorem dX8_bears_67 : decode cX8_bears 67 = .ok (.lreturn, 1) := by decide +kernel
theorem dX8_count__0 : decode cX8_count_ 0 = .ok (.iload_n 1, 1) := by decide +kernel
theorem dX8_count__1 : decode cX8_count_ 1 = .ok (.tableswitch 60 0 4 #[35, 40, 45, 50, 55], 35) := by decide +kernel
theorem dX8_count__36 : decode cX8_count_ 36 = .ok (.aload_n 0, 1) := by decide +kernel
theorem dX8_count__37 : decode cX8_count_ 37 = .ok (.getfield 97, 3) := by decide +kernel
theorem dX8_count__40 : decode cX8_count_ 40 = .ok (.ireturn, 1) := by decide +kernel
theorem dX8_count__41 : decode cX8_count_ 41 = .ok (.aload_n 0, 1) := by decide +kernel
theorem dX8_count__42 : decode cX8_count_ 42 = .ok (.getfield 7, 3) := by decide +kernel
theorem dX8_count__45 : decode cX8_count_ 45 = .ok (.ireturn, 1) := by decide +kernel
theorem dX8_count__46 : decode cX8_count_ 46 = .ok (.aload_n 0, 1) := by decide +kernel
theorem dX8_count__47 : decode cX8_count_ 47 = .ok (.invokevirtual 160, 3) := by decide +kernel
theorem dX8_count__50 : decode cX8_count_ 50 = .ok (.ireturn, 1) := by decide +kernel
theorem dX8_count__51 : decode cX8_count_ 51 = .ok (.aload_n 0, 1) := by decide +kernel
theorem dX8_count__52 : decode cX8_count_ 52 = .ok (.getfield 222, 3) := by decide +kernel
theorem dX8_count__55 : decode cX8_count_ 55 = .ok (.ireturn, 1) := by decide +kernel
theorem dX8_count__56 : decode cX8_count_ 56 = .ok (.aload_n 0, 1) := by decide +kernel
theorem dX8_count__57 : decode cX8_count_ 57 = .ok (.getfield 94, 3) := by decide +kernel
theorem dX8_count__60 : decode cX8_count_ 60 = .ok (.ireturn, 1) := by decide +kernel
theorem dX8_count__61 : decode cX8_count_ 61 = .ok (.bipush (-2), 2) := by decide +kernel
theorem dX8_count__63 : decode cX8_count_ 63 = .ok (.ireturn, 1) := by decide +kernel
