/-! decode rows (printed by program) -/
theorem dX5_init_0 : decode cX5_init 0 = .ok (.aload_n 0, 1) := by decide +kernel
theorem dX5_init_1 : decode cX5_init 1 = .ok (.invokespecial 1, 3) := by decide +kernel
theorem dX5_init_4 : decode cX5_init 4 = .ok (.aload_n 0, 1) := by decide +kernel
theorem dX5_init_5 : decode cX5_init 5 = .ok (.bipush 8, 2) := by decide +kernel
theorem dX5_init_7 : decode cX5_init 7 = .ok (.newarray .boolean, 2) := by decide +kernel
theorem dX5_init_9 : decode cX5_init 9 = .ok (.putfield 7, 3) := by decide +kernel
theorem dX5_init_12 : decode cX5_init 12 = .ok (.aload_n 0, 1) := by decide +kernel
theorem dX5_init_13 : decode cX5_init 13 = .ok (.iconst 5, 1) := by decide +kernel
theorem dX5_init_14 : decode cX5_init 14 = .ok (.newarray .int, 2) := by decide +kernel
theorem dX5_init_16 : decode cX5_init 16 = .ok (.putfield 13, 3) := by decide +kernel
theorem dX5_init_19 : decode cX5_init 19 = .ok (.aload_n 0, 1) := by decide +kernel
theorem dX5_init_20 : decode cX5_init 20 = .ok (.iconst 5, 1) := by decide +kernel
theorem dX5_init_21 : decode cX5_init 21 = .ok (.newarray .int, 2) := by decide +kernel
theorem dX5_init_23 : decode cX5_init 23 = .ok (.putfield 17, 3) := by decide +kernel
theorem dX5_init_26 : decode cX5_init 26 = .ok (.aload_n 0, 1) := by decide +kernel
theorem dX5_init_27 : decode cX5_init 27 = .ok (.iconst 5, 1) := by decide +kernel
theorem dX5_init_28 : decode cX5_init 28 = .ok (.newarray .int, 2) := by decide +kernel
theorem dX5_init_30 : decode cX5_init 30 = .ok (.putfield 20, 3) := by decide +kernel
theorem dX5_init_33 : decode cX5_init 33 = .ok (.aload_n 0, 1) := by decide +kernel
theorem dX5_init_34 : decode cX5_init 34 = .ok (.sipush 160, 3) := by decide +kernel
theorem dX5_init_37 : decode cX5_init 37 = .ok (.newarray .int, 2) := by decide +kernel
theorem dX5_init_39 : decode cX5_init 39 = .ok (.putfield 23, 3) := by decide +kernel
theorem dX5_init_42 : decode cX5_init 42 = .ok (.aload_n 0, 1) := by decide +kernel
theorem dX5_init_43 : decode cX5_init 43 = .ok (.bipush 18, 2) := by decide +kernel
theorem dX5_init_45 : decode cX5_init 45 = .ok (.newarray .int, 2) := by decide +kernel
theorem dX5_init_47 : decode cX5_init 47 = .ok (.putfield 26, 3) := by decide +kernel
theorem dX5_init_50 : decode cX5_init 50 = .ok (.aload_n 0, 1) := by decide +kernel
theorem dX5_init_51 : decode cX5_init 51 = .ok (.bipush 18, 2) := by decide +kernel
theorem dX5_init_53 : decode cX5_init 53 = .ok (.newarray .int, 2) := by decide +kernel
theorem dX5_init_55 : decode cX5_init 55 = .ok (.putfield 29, 3) := by decide +kernel
theorem dX5_init_58 : decode cX5_init 58 = .ok (.aload_n 0, 1) := by decide +kernel
theorem dX5_init_59 : decode cX5_init 59 = .ok (.sipush 3000, 3) := by decide +kernel
theorem dX5_init_62 : decode cX5_init 62 = .ok (.newarray .int, 2) := by decide +kernel
theorem dX5_init_64 : decode cX5_init 64 = .ok (.putfield 32, 3) := by decide +kernel
theorem dX5_init_67 : decode cX5_init 67 = .ok (.aload_n 0, 1) := by decide +kernel
theorem dX5_init_68 : decode cX5_init 68 = .ok (.sipush 200, 3) := by decide +kernel
theorem dX5_init_71 : decode cX5_init 71 = .ok (.newarray .int, 2) := by decide +kernel
theorem dX5_init_73 : decode cX5_init 73 = .ok (.putfield 35, 3) := by decide +kernel
theorem dX5_init_76 : decode cX5_init 76 = .ok (.aload_n 0, 1) := by decide +kernel
theorem dX5_init_77 : decode cX5_init 77 = .ok (.sipush 200, 3) := by decide +kernel
theorem dX5_init_80 : decode cX5_init 80 = .ok (.newarray .int, 2) := by decide +kernel
theorem dX5_init_82 : decode cX5_init 82 = .ok (.putfield 38, 3) := by decide +kernel
theorem dX5_init_85 : decode cX5_init 85 = .ok (.aload_n 0, 1) := by decide +kernel
theorem dX5_init_86 : decode cX5_init 86 = .ok (.bipush 6, 2) := by decide +kernel
theorem dX5_init_88 : decode cX5_init 88 = .ok (.newarray .int, 2) := by decide +kernel
theorem dX5_init_90 : decode cX5_init 90 = .ok (.putfield 41, 3) := by decide +kernel
theorem dX5_init_93 : decode cX5_init 93 = .ok (.aload_n 0, 1) := by decide +kernel
theorem dX5_init_94 : decode cX5_init 94 = .ok (.iconst 5, 1) := by decide +kernel
theorem dX5_init_95 : decode cX5_init 95 = .ok (.newarray .int, 2) := by decide +kernel
theorem dX5_init_97 : decode cX5_init 97 = .ok (.putfield 44, 3) := by decide +kernel
theorem dX5_init_100 : decode cX5_init 100 = .ok (.aload_n 0, 1) := by decide +kernel
theorem dX5_init_101 : decode cX5_init 101 = .ok (.iconst 5, 1) := by decide +kernel
theorem dX5_init_102 : decode cX5_init 102 = .ok (.newarray .int, 2) := by decide +kernel
theorem dX5_init_104 : decode cX5_init 104 = .ok (.putfield 47, 3) := by decide +kernel
theorem dX5_init_107 : decode cX5_init 107 = .ok (.aload_n 0, 1) := by decide +kernel
theorem dX5_init_108 : decode cX5_init 108 = .ok (.sipush 205, 3) := by decide +kernel
theorem dX5_init_111 : decode cX5_init 111 = .ok (.newarray .int, 2) := by decide +kernel
theorem dX5_init_113 : decode cX5_init 113 = .ok (.putfield 50, 3) := by decide +kernel
theorem dX5_init_116 : decode cX5_init 116 = .ok (.aload_n 0, 1) := by decide +kernel
theorem dX5_init_117 : decode cX5_init 117 = .ok (.bipush 8, 2) := by decide +kernel
theorem dX5_init_119 : decode cX5_init 119 = .ok (.newarray .boolean, 2) := by decide +kernel
theorem dX5_init_121 : decode cX5_init 121 = .ok (.putfield 53, 3) := by decide +kernel
theorem dX5_init_124 : decode cX5_init 124 = .ok (.aload_n 0, 1) := by decide +kernel
theorem dX5_init_125 : decode cX5_init 125 = .ok (.bipush 10, 2) := by decide +kernel
theorem dX5_init_127 : decode cX5_init 127 = .ok (.newarray .int, 2) := by decide +kernel
theorem dX5_init_129 : decode cX5_init 129 = .ok (.putfield 56, 3) := by decide +kernel
theorem dX5_init_132 : decode cX5_init 132 = .ok (.aload_n 0, 1) := by decide +kernel
theorem dX5_init_133 : decode cX5_init 133 = .ok (.iconst 4, 1) := by decide +kernel
theorem dX5_init_134 : decode cX5_init 134 = .ok (.newarray .int, 2) := by decide +kernel
theorem dX5_init_136 : decode cX5_init 136 = .ok (.putfield 59, 3) := by decide +kernel
theorem dX5_init_139 : decode cX5_init 139 = .ok (.aload_n 0, 1) := by decide +kernel
theorem dX5_init_140 : decode cX5_init 140 = .ok (.iconst 4, 1) := by decide +kernel
theorem dX5_init_141 : decode cX5_init 141 = .ok (.newarray .int, 2) := by decide +kernel
theorem dX5_init_143 : decode cX5_init 143 = .ok (.putfield 62, 3) := by decide +kernel
theorem dX5_init_146 : decode cX5_init 146 = .ok (.aload_n 0, 1) := by decide +kernel
theorem dX5_init_147 : decode cX5_init 147 = .ok (.sipush 160, 3) := by decide +kernel
theorem dX5_init_150 : decode cX5_init 150 = .ok (.newarray .int, 2) := by decide +kernel
theorem dX5_init_152 : decode cX5_init 152 = .ok (.putfield 65, 3) := by decide +kernel
theorem dX5_init_155 : decode cX5_init 155 = .ok (.iconst 0, 1) := by decide +kernel
theorem dX5_init_156 : decode cX5_init 156 = .ok (.istore_n 1, 1) := by decide +kernel
theorem dX5_init_157 : decode cX5_init 157 = .ok (.iload_n 1, 1) := by decide +kernel
theorem dX5_init_158 : decode cX5_init 158 = .ok (.bipush 8, 2) := by decide +kernel
theorem dX5_init_160 : decode cX5_init 160 = .ok (.if_icmp .ge 16, 3) := by decide +kernel
theorem dX5_init_163 : decode cX5_init 163 = .ok (.aload_n 0, 1) := by decide +kernel
theorem dX5_init_164 : decode cX5_init 164 = .ok (.getfield 7, 3) := by decide +kernel
theorem dX5_init_167 : decode cX5_init 167 = .ok (.iload_n 1, 1) := by decide +kernel
theorem dX5_init_168 : decode cX5_init 168 = .ok (.iconst 1, 1) := by decide +kernel
theorem dX5_init_169 : decode cX5_init 169 = .ok (.bastore, 1) := by decide +kernel
theorem dX5_init_170 : decode cX5_init 170 = .ok (.iinc 1 1, 3) := by decide +kernel
theorem dX5_init_173 : decode cX5_init 173 = .ok (.goto (-16), 3) := by decide +kernel
theorem dX5_init_176 : decode cX5_init 176 = .ok (.iconst 0, 1) := by decide +kernel
theorem dX5_init_177 : decode cX5_init 177 = .ok (.istore_n 1, 1) := by decide +kernel
theorem dX5_init_178 : decode cX5_init 178 = .ok (.iload_n 1, 1) := by decide +kernel
theorem dX5_init_179 : decode cX5_init 179 = .ok (.iconst 4, 1) := by decide +kernel
theorem dX5_init_180 : decode cX5_init 180 = .ok (.if_icmp .ge 16, 3) := by decide +kernel
theorem dX5_init_183 : decode cX5_init 183 = .ok (.aload_n 0, 1) := by decide +kernel
theorem dX5_init_184 : decode cX5_init 184 = .ok (.getfield 59, 3) := by decide +kernel
theorem dX5_init_187 : decode cX5_init 187 = .ok (.iload_n 1, 1) := by decide +kernel
theorem dX5_init_188 : decode cX5_init 188 = .ok (.iconst (-1), 1) := by decide +kernel
theorem dX5_init_189 : decode cX5_init 189 = .ok (.iastore, 1) := by decide +kernel
theorem dX5_init_190 : decode cX5_init 190 = .ok (.iinc 1 1, 3) := by decide +kernel
theorem dX5_init_193 : decode cX5_init 193 = .ok (.goto (-15), 3) := by decide +kernel
theorem dX5_init_196 : decode cX5_init 196 = .ok (.aload_n 0, 1) := by decide +kernel
theorem dX5_init_197 : decode cX5_init 197 = .ok (.iconst (-1), 1) := by decide +kernel
theorem dX5_init_198 : decode cX5_init 198 = .ok (.putfield 68, 3) := by decide +kernel
theorem dX5_init_201 : decode cX5_init 201 = .ok (.aload_n 0, 1) := by decide +kernel
theorem dX5_init_202 : decode cX5_init 202 = .ok (.iconst 0, 1) := by decide +kernel
theorem dX5_init_203 : decode cX5_init 203 = .ok (.invokevirtual 72, 3) := by decide +kernel
theorem dX5_init_206 : decode cX5_init 206 = .ok (.aload_n 0, 1) := by decide +kernel
theorem dX5_init_207 : decode cX5_init 207 = .ok (.bipush 18, 2) := by decide +kernel
theorem dX5_init_209 : decode cX5_init 209 = .ok (.invokevirtual 72, 3) := by decide +kernel
theorem dX5_init_212 : decode cX5_init 212 = .ok (.aload_n 0, 1) := by decide +kernel
theorem dX5_init_213 : decode cX5_init 213 = .ok (.iconst 1, 1) := by decide +kernel
theorem dX5_init_214 : decode cX5_init 214 = .ok (.invokevirtual 72, 3) := by decide +kernel
theorem dX5_init_217 : decode cX5_init 217 = .ok (.aload_n 0, 1) := by decide +kernel
theorem dX5_init_218 : decode cX5_init 218 = .ok (.bipush 6, 2) := by decide +kernel
theorem dX5_init_220 : decode cX5_init 220 = .ok (.invokevirtual 72, 3) := by decide +kernel
theorem dX5_init_223 : decode cX5_init 223 = .ok (.aload_n 0, 1) := by decide +kernel
theorem dX5_init_224 : decode cX5_init 224 = .ok (.bipush 9, 2) := by decide +kernel
theorem dX5_init_226 : decode cX5_init 226 = .ok (.invokevirtual 72, 3) := by decide +kernel
theorem dX5_init_229 : decode cX5_init 229 = .ok (.aload_n 0, 1) := by decide +kernel
theorem dX5_init_230 : decode cX5_init 230 = .ok (.iconst 0, 1) := by decide +kernel
theorem dX5_init_231 : decode cX5_init 231 = .ok (.invokevirtual 72, 3) := by decide +kernel
theorem dX5_init_234 : decode cX5_init 234 = .ok (.aload_n 0, 1) := by decide +kernel
theorem dX5_init_235 : decode cX5_init 235 = .ok (.bipush 18, 2) := by decide +kernel
theorem dX5_init_237 : decode cX5_init 237 = .ok (.invokevirtual 72, 3) := by decide +kernel
theorem dX5_init_240 : decode cX5_init 240 = .ok (.aload_n 0, 1) := by decide +kernel
theorem dX5_init_241 : decode cX5_init 241 = .ok (.bipush 7, 2) := by decide +kernel
theorem dX5_init_243 : decode cX5_init 243 = .ok (.invokevirtual 72, 3) := by decide +kernel
theorem dX5_init_246 : decode cX5_init 246 = .ok (.aload_n 0, 1) := by decide +kernel
theorem dX5_init_247 : decode cX5_init 247 = .ok (.bipush 16, 2) := by decide +kernel
theorem dX5_init_249 : decode cX5_init 249 = .ok (.invokevirtual 72, 3) := by decide +kernel
theorem dX5_init_252 : decode cX5_init 252 = .ok (.aload_n 0, 1) := by decide +kernel
theorem dX5_init_253 : decode cX5_init 253 = .ok (.getfield 29, 3) := by decide +kernel
theorem dX5_init_256 : decode cX5_init 256 = .ok (.iconst 0, 1) := by decide +kernel
theorem dX5_init_257 : decode cX5_init 257 = .ok (.iconst 5, 1) := by decide +kernel
theorem dX5_init_258 : decode cX5_init 258 = .ok (.iastore, 1) := by decide +kernel
theorem dX5_init_259 : decode cX5_init 259 = .ok (.aload_n 0, 1) := by decide +kernel
theorem dX5_init_260 : decode cX5_init 260 = .ok (.getfield 26, 3) := by decide +kernel
theorem dX5_init_263 : decode cX5_init 263 = .ok (.iconst 1, 1) := by decide +kernel
theorem dX5_init_264 : decode cX5_init 264 = .ok (.iconst 5, 1) := by decide +kernel
theorem dX5_init_265 : decode cX5_init 265 = .ok (.iastore, 1) := by decide +kernel
theorem dX5_init_266 : decode cX5_init 266 = .ok (.aload_n 0, 1) := by decide +kernel
theorem dX5_init_267 : decode cX5_init 267 = .ok (.getfield 29, 3) := by decide +kernel
theorem dX5_init_270 : decode cX5_init 270 = .ok (.iconst 1, 1) := by decide +kernel
theorem dX5_init_271 : decode cX5_init 271 = .ok (.iconst 3, 1) := by decide +kernel
theorem dX5_init_272 : decode cX5_init 272 = .ok (.iastore, 1) := by decide +kernel
theorem dX5_init_273 : decode cX5_init 273 = .ok (.aload_n 0, 1) := by decide +kernel
theorem dX5_init_274 : decode cX5_init 274 = .ok (.getfield 26, 3) := by decide +kernel
theorem dX5_init_277 : decode cX5_init 277 = .ok (.iconst 2, 1) := by decide +kernel
theorem dX5_init_278 : decode cX5_init 278 = .ok (.bipush 8, 2) := by decide +kernel
theorem dX5_init_280 : decode cX5_init 280 = .ok (.iastore, 1) := by decide +kernel
theorem dX5_init_281 : decode cX5_init 281 = .ok (.aload_n 0, 1) := by decide +kernel
theorem dX5_init_282 : decode cX5_init 282 = .ok (.getfield 29, 3) := by decide +kernel
theorem dX5_init_285 : decode cX5_init 285 = .ok (.iconst 2, 1) := by decide +kernel
theorem dX5_init_286 : decode cX5_init 286 = .ok (.iconst 1, 1) := by decide +kernel
theorem dX5_init_287 : decode cX5_init 287 = .ok (.iastore, 1) := by decide +kernel
theorem dX5_init_288 : decode cX5_init 288 = .ok (.aload_n 0, 1) := by decide +kernel
theorem dX5_init_289 : decode cX5_init 289 = .ok (.iconst 1, 1) := by decide +kernel
theorem dX5_init_290 : decode cX5_init 290 = .ok (.putfield 76, 3) := by decide +kernel
theorem dX5_init_293 : decode cX5_init 293 = .ok (.return_, 1) := by decide +kernel
theorem dX5_within_0 : decode cX5_within 0 = .ok (.iload_n 0, 1) := by decide +kernel
theorem dX5_within_1 : decode cX5_within 1 = .ok (.iload_n 1, 1) := by decide +kernel
theorem dX5_within_2 : decode cX5_within 2 = .ok (.if_icmp .lt 12, 3) := by decide +kernel
theorem dX5_within_5 : decode cX5_within 5 = .ok (.iload_n 0, 1) := by decide +kernel
theorem dX5_within_6 : decode cX5_within 6 = .ok (.iload_n 2, 1) := by decide +kernel
theorem dX5_within_7 : decode cX5_within 7 = .ok (.if_icmp .gt 7, 3) := by decide +kernel
theorem dX5_within_10 : decode cX5_within 10 = .ok (.iconst 1, 1) := by decide +kernel
theorem dX5_within_11 : decode cX5_within 11 = .ok (.goto 4, 3) := by decide +kernel
theorem dX5_within_14 : decode cX5_within 14 = .ok (.iconst 0, 1) := by decide +kernel
theorem dX5_within_15 : decode cX5_within 15 = .ok (.ireturn, 1) := by decide +kernel
theorem dX5_bound_0 : decode cX5_bound 0 = .ok (.iload_n 0, 1) := by decide +kernel
theorem dX5_bound_1 : decode cX5_bound 1 = .ok (.bipush (-20), 2) := by decide +kernel
theorem dX5_bound_3 : decode cX5_bound 3 = .ok (.if_icmp .ge 8, 3) := by decide +kernel
theorem dX5_bound_6 : decode cX5_bound 6 = .ok (.bipush (-20), 2) := by decide +kernel
theorem dX5_bound_8 : decode cX5_bound 8 = .ok (.goto 15, 3) := by decide +kernel
theorem dX5_bound_11 : decode cX5_bound 11 = .ok (.iload_n 0, 1) := by decide +kernel
theorem dX5_bound_12 : decode cX5_bound 12 = .ok (.bipush 20, 2) := by decide +kernel
theorem dX5_bound_14 : decode cX5_bound 14 = .ok (.if_icmp .le 8, 3) := by decide +kernel
theorem dX5_bound_17 : decode cX5_bound 17 = .ok (.bipush 20, 2) := by decide +kernel
theorem dX5_bound_19 : decode cX5_bound 19 = .ok (.goto 4, 3) := by decide +kernel
theorem dX5_bound_22 : decode cX5_bound 22 = .ok (.iload_n 0, 1) := by decide +kernel
theorem dX5_bound_23 : decode cX5_bound 23 = .ok (.ireturn, 1) := by decide +kernel
theorem dX5_isOne_0 : decode cX5_isOne 0 = .ok (.iload_n 1, 1) := by decide +kernel
theorem dX5_isOne_1 : decode cX5_isOne 1 = .ok (.iconst 0, 1) := by decide +kernel
theorem dX5_isOne_2 : decode cX5_isOne 2 = .ok (.aload_n 0, 1) := by decide +kernel
theorem dX5_isOne_3 : decode cX5_isOne 3 = .ok (.getfield 79, 3) := by decide +kernel
theorem dX5_isOne_6 : decode cX5_isOne 6 = .ok (.iconst 1, 1) := by decide +kernel
theorem dX5_isOne_7 : decode cX5_isOne 7 = .ok (.isub, 1) := by decide +kernel
theorem dX5_isOne_8 : decode cX5_isOne 8 = .ok (.invokestatic 82, 3) := by decide +kernel
theorem dX5_isOne_11 : decode cX5_isOne 11 = .ok (.ireturn, 1) := by decide +kernel
theorem dX5_areTwo_0 : decode cX5_areTwo 0 = .ok (.aload_n 0, 1) := by decide +kernel
theorem dX5_areTwo_1 : decode cX5_areTwo 1 = .ok (.iload_n 1, 1) := by decide +kernel
theorem dX5_areTwo_2 : decode cX5_areTwo 2 = .ok (.invokevirtual 86, 3) := by decide +kernel
theorem dX5_areTwo_5 : decode cX5_areTwo 5 = .ok (.ifCond .eq 20, 3) := by decide +kernel
theorem dX5_areTwo_8 : decode cX5_areTwo 8 = .ok (.aload_n 0, 1) := by decide +kernel
theorem dX5_areTwo_9 : decode cX5_areTwo 9 = .ok (.iload_n 2, 1) := by decide +kernel
theorem dX5_areTwo_10 : decode cX5_areTwo 10 = .ok (.invokevirtual 86, 3) := by decide +kernel
theorem dX5_areTwo_13 : decode cX5_areTwo 13 = .ok (.ifCond .eq 12, 3) := by decide +kernel
theorem dX5_areTwo_16 : decode cX5_areTwo 16 = .ok (.iload_n 1, 1) := by decide +kernel
theorem dX5_areTwo_17 : decode cX5_areTwo 17 = .ok (.iload_n 2, 1) := by decide +kernel
theorem dX5_areTwo_18 : decode cX5_areTwo 18 = .ok (.if_icmp .eq 7, 3) := by decide +kernel
theorem dX5_areTwo_21 : decode cX5_areTwo 21 = .ok (.iconst 1, 1) := by decide +kernel
theorem dX5_areTwo_22 : decode cX5_areTwo 22 = .ok (.goto 4, 3) := by decide +kernel
theorem dX5_areTwo_25 : decode cX5_areTwo 25 = .ok (.iconst 0, 1) := by decide +kernel
theorem dX5_areTwo_26 : decode cX5_areTwo 26 = .ok (.ireturn, 1) := by decide +kernel
theorem dX5_isLayer_0 : decode cX5_isLayer 0 = .ok (.iload_n 0, 1) := by decide +kernel
theorem dX5_isLayer_1 : decode cX5_isLayer 1 = .ok (.iconst 0, 1) := by decide +kernel
theorem dX5_isLayer_2 : decode cX5_isLayer 2 = .ok (.bipush 7, 2) := by decide +kernel
theorem dX5_isLayer_4 : decode cX5_isLayer 4 = .ok (.invokestatic 82, 3) := by decide +kernel
theorem dX5_isLayer_7 : decode cX5_isLayer 7 = .ok (.ireturn, 1) := by decide +kernel
theorem dX5_isSheet_0 : decode cX5_isSheet 0 = .ok (.iload_n 0, 1) := by decide +kernel
theorem dX5_isSheet_1 : decode cX5_isSheet 1 = .ok (.iconst 0, 1) := by decide +kernel
theorem dX5_isSheet_2 : decode cX5_isSheet 2 = .ok (.iconst 3, 1) := by decide +kernel
theorem dX5_isSheet_3 : decode cX5_isSheet 3 = .ok (.invokestatic 82, 3) := by decide +kernel
theorem dX5_isSheet_6 : decode cX5_isSheet 6 = .ok (.ireturn, 1) := by decide +kernel
theorem dX5_bitsOf_0 : decode cX5_bitsOf 0 = .ok (.iconst 0, 1) := by decide +kernel
theorem dX5_bitsOf_1 : decode cX5_bitsOf 1 = .ok (.istore_n 1, 1) := by decide +kernel
theorem dX5_bitsOf_2 : decode cX5_bitsOf 2 = .ok (.iconst 0, 1) := by decide +kernel
theorem dX5_bitsOf_3 : decode cX5_bitsOf 3 = .ok (.istore_n 2, 1) := by decide +kernel
theorem dX5_bitsOf_4 : decode cX5_bitsOf 4 = .ok (.iload_n 2, 1) := by decide +kernel
theorem dX5_bitsOf_5 : decode cX5_bitsOf 5 = .ok (.bipush 8, 2) := by decide +kernel
theorem dX5_bitsOf_7 : decode cX5_bitsOf 7 = .ok (.if_icmp .ge 17, 3) := by decide +kernel
theorem dX5_bitsOf_10 : decode cX5_bitsOf 10 = .ok (.iload_n 1, 1) := by decide +kernel
theorem dX5_bitsOf_11 : decode cX5_bitsOf 11 = .ok (.iload_n 0, 1) := by decide +kernel
theorem dX5_bitsOf_12 : decode cX5_bitsOf 12 = .ok (.iload_n 2, 1) := by decide +kernel
theorem dX5_bitsOf_13 : decode cX5_bitsOf 13 = .ok (.ishr, 1) := by decide +kernel
theorem dX5_bitsOf_14 : decode cX5_bitsOf 14 = .ok (.iconst 1, 1) := by decide +kernel
theorem dX5_bitsOf_15 : decode cX5_bitsOf 15 = .ok (.iand, 1) := by decide +kernel
theorem dX5_bitsOf_16 : decode cX5_bitsOf 16 = .ok (.iadd, 1) := by decide +kernel
theorem dX5_bitsOf_17 : decode cX5_bitsOf 17 = .ok (.istore_n 1, 1) := by decide +kernel
theorem dX5_bitsOf_18 : decode cX5_bitsOf 18 = .ok (.iinc 2 1, 3) := by decide +kernel
theorem dX5_bitsOf_21 : decode cX5_bitsOf 21 = .ok (.goto (-17), 3) := by decide +kernel
theorem dX5_bitsOf_24 : decode cX5_bitsOf 24 = .ok (.iload_n 1, 1) := by decide +kernel
theorem dX5_bitsOf_25 : decode cX5_bitsOf 25 = .ok (.ireturn, 1) := by decide +kernel
theorem dX5_isOf_0 : decode cX5_isOf 0 = .ok (.iload_n 1, 1) := by decide +kernel
theorem dX5_isOf_1 : decode cX5_isOf 1 = .ok (.ifCond .eq 35, 3) := by decide +kernel
theorem dX5_isOf_4 : decode cX5_isOf 4 = .ok (.iload_n 1, 1) := by decide +kernel
theorem dX5_isOf_5 : decode cX5_isOf 5 = .ok (.iconst 1, 1) := by decide +kernel
theorem dX5_isOf_6 : decode cX5_isOf 6 = .ok (.if_icmp .ne 13, 3) := by decide +kernel
theorem dX5_isOf_9 : decode cX5_isOf 9 = .ok (.iload_n 2, 1) := by decide +kernel
theorem dX5_isOf_10 : decode cX5_isOf 10 = .ok (.invokestatic 90, 3) := by decide +kernel
theorem dX5_isOf_13 : decode cX5_isOf 13 = .ok (.ifCond .eq 27, 3) := by decide +kernel
theorem dX5_isOf_16 : decode cX5_isOf 16 = .ok (.goto 20, 3) := by decide +kernel
theorem dX5_isOf_19 : decode cX5_isOf 19 = .ok (.iload_n 1, 1) := by decide +kernel
theorem dX5_isOf_20 : decode cX5_isOf 20 = .ok (.iconst 2, 1) := by decide +kernel
theorem dX5_isOf_21 : decode cX5_isOf 21 = .ok (.iconst 3, 1) := by decide +kernel
theorem dX5_isOf_22 : decode cX5_isOf 22 = .ok (.invokestatic 82, 3) := by decide +kernel
theorem dX5_isOf_25 : decode cX5_isOf 25 = .ok (.ifCond .eq 15, 3) := by decide +kernel
theorem dX5_isOf_28 : decode cX5_isOf 28 = .ok (.aload_n 0, 1) := by decide +kernel
theorem dX5_isOf_29 : decode cX5_isOf 29 = .ok (.iload_n 2, 1) := by decide +kernel
theorem dX5_isOf_30 : decode cX5_isOf 30 = .ok (.invokevirtual 86, 3) := by decide +kernel
theorem dX5_isOf_33 : decode cX5_isOf 33 = .ok (.ifCond .eq 7, 3) := by decide +kernel
theorem dX5_isOf_36 : decode cX5_isOf 36 = .ok (.iconst 1, 1) := by decide +kernel
theorem dX5_isOf_37 : decode cX5_isOf 37 = .ok (.goto 4, 3) := by decide +kernel
theorem dX5_isOf_40 : decode cX5_isOf 40 = .ok (.iconst 0, 1) := by decide +kernel
theorem dX5_isOf_41 : decode cX5_isOf 41 = .ok (.ireturn, 1) := by decide +kernel
theorem dX5_isFit_0 : decode cX5_isFit 0 = .ok (.iload_n 0, 1) := by decide +kernel
theorem dX5_isFit_1 : decode cX5_isFit 1 = .ok (.tableswitch 51 0 2 #[27, 36, 43], 27) := by decide +kernel
theorem dX5_isFit_28 : decode cX5_isFit 28 = .ok (.iload_n 1, 1) := by decide +kernel
theorem dX5_isFit_29 : decode cX5_isFit 29 = .ok (.iconst 0, 1) := by decide +kernel
theorem dX5_isFit_30 : decode cX5_isFit 30 = .ok (.sipush 999, 3) := by decide +kernel
theorem dX5_isFit_33 : decode cX5_isFit 33 = .ok (.invokestatic 82, 3) := by decide +kernel
theorem dX5_isFit_36 : decode cX5_isFit 36 = .ok (.ireturn, 1) := by decide +kernel
theorem dX5_isFit_37 : decode cX5_isFit 37 = .ok (.iload_n 1, 1) := by decide +kernel
theorem dX5_isFit_38 : decode cX5_isFit 38 = .ok (.iconst 0, 1) := by decide +kernel
theorem dX5_isFit_39 : decode cX5_isFit 39 = .ok (.iconst 1, 1) := by decide +kernel
theorem dX5_isFit_40 : decode cX5_isFit 40 = .ok (.invokestatic 82, 3) := by decide +kernel
theorem dX5_isFit_43 : decode cX5_isFit 43 = .ok (.ireturn, 1) := by decide +kernel
theorem dX5_isFit_44 : decode cX5_isFit 44 = .ok (.iload_n 1, 1) := by decide +kernel
theorem dX5_isFit_45 : decode cX5_isFit 45 = .ok (.iconst 0, 1) := by decide +kernel
theorem dX5_isFit_46 : decode cX5_isFit 46 = .ok (.bipush 9, 2) := by decide +kernel
theorem dX5_isFit_48 : decode cX5_isFit 48 = .ok (.invokestatic 82, 3) := by decide +kernel
theorem dX5_isFit_51 : decode cX5_isFit 51 = .ok (.ireturn, 1) := by decide +kernel
theorem dX5_isFit_52 : decode cX5_isFit 52 = .ok (.iload_n 1, 1) := by decide +kernel
theorem dX5_isFit_53 : decode cX5_isFit 53 = .ok (.bipush (-20), 2) := by decide +kernel
theorem dX5_isFit_55 : decode cX5_isFit 55 = .ok (.bipush 20, 2) := by decide +kernel
theorem dX5_isFit_57 : decode cX5_isFit 57 = .ok (.invokestatic 82, 3) := by decide +kernel
theorem dX5_isFit_60 : decode cX5_isFit 60 = .ok (.ireturn, 1) := by decide +kernel
theorem dX5_get_0 : decode cX5_get 0 = .ok (.iload_n 1, 1) := by decide +kernel
theorem dX5_get_1 : decode cX5_get 1 = .ok (.tableswitch 54 0 2 #[27, 32, 47], 27) := by decide +kernel
theorem dX5_get_28 : decode cX5_get 28 = .ok (.aload_n 0, 1) := by decide +kernel
theorem dX5_get_29 : decode cX5_get 29 = .ok (.getfield 93, 3) := by decide +kernel
theorem dX5_get_32 : decode cX5_get 32 = .ok (.ireturn, 1) := by decide +kernel
theorem dX5_get_33 : decode cX5_get 33 = .ok (.aload_n 0, 1) := by decide +kernel
theorem dX5_get_34 : decode cX5_get 34 = .ok (.getfield 7, 3) := by decide +kernel
theorem dX5_get_37 : decode cX5_get 37 = .ok (.iload_n 2, 1) := by decide +kernel
theorem dX5_get_38 : decode cX5_get 38 = .ok (.baload, 1) := by decide +kernel
theorem dX5_get_39 : decode cX5_get 39 = .ok (.ifCond .eq 7, 3) := by decide +kernel
theorem dX5_get_42 : decode cX5_get 42 = .ok (.iconst 1, 1) := by decide +kernel
theorem dX5_get_43 : decode cX5_get 43 = .ok (.goto 4, 3) := by decide +kernel
theorem dX5_get_46 : decode cX5_get 46 = .ok (.iconst 0, 1) := by decide +kernel
theorem dX5_get_47 : decode cX5_get 47 = .ok (.ireturn, 1) := by decide +kernel
theorem dX5_get_48 : decode cX5_get 48 = .ok (.aload_n 0, 1) := by decide +kernel
theorem dX5_get_49 : decode cX5_get 49 = .ok (.getfield 17, 3) := by decide +kernel
theorem dX5_get_52 : decode cX5_get 52 = .ok (.iload_n 2, 1) := by decide +kernel
theorem dX5_get_53 : decode cX5_get 53 = .ok (.iaload, 1) := by decide +kernel
theorem dX5_get_54 : decode cX5_get 54 = .ok (.ireturn, 1) := by decide +kernel
theorem dX5_get_55 : decode cX5_get 55 = .ok (.aload_n 0, 1) := by decide +kernel
theorem dX5_get_56 : decode cX5_get 56 = .ok (.getfield 20, 3) := by decide +kernel
theorem dX5_get_59 : decode cX5_get 59 = .ok (.iload_n 2, 1) := by decide +kernel
theorem dX5_get_60 : decode cX5_get 60 = .ok (.iaload, 1) := by decide +kernel
theorem dX5_get_61 : decode cX5_get 61 = .ok (.ireturn, 1) := by decide +kernel
theorem dX5_set_0 : decode cX5_set 0 = .ok (.aload_n 0, 1) := by decide +kernel
theorem dX5_set_1 : decode cX5_set 1 = .ok (.iload_n 1, 1) := by decide +kernel
theorem dX5_set_2 : decode cX5_set 2 = .ok (.iload_n 2, 1) := by decide +kernel
theorem dX5_set_3 : decode cX5_set 3 = .ok (.invokevirtual 96, 3) := by decide +kernel
theorem dX5_set_6 : decode cX5_set 6 = .ok (.ifCond .eq 11, 3) := by decide +kernel
theorem dX5_set_9 : decode cX5_set 9 = .ok (.iload_n 1, 1) := by decide +kernel
theorem dX5_set_10 : decode cX5_set 10 = .ok (.iload_n 3, 1) := by decide +kernel
theorem dX5_set_11 : decode cX5_set 11 = .ok (.invokestatic 100, 3) := by decide +kernel
theorem dX5_set_14 : decode cX5_set 14 = .ok (.ifCond .ne 7, 3) := by decide +kernel
theorem dX5_set_17 : decode cX5_set 17 = .ok (.sipush (-1000), 3) := by decide +kernel
theorem dX5_set_20 : decode cX5_set 20 = .ok (.ireturn, 1) := by decide +kernel
theorem dX5_set_21 : decode cX5_set 21 = .ok (.aload_n 0, 1) := by decide +kernel
theorem dX5_set_22 : decode cX5_set 22 = .ok (.iload_n 1, 1) := by decide +kernel
theorem dX5_set_23 : decode cX5_set 23 = .ok (.iload_n 2, 1) := by decide +kernel
theorem dX5_set_24 : decode cX5_set 24 = .ok (.invokevirtual 103, 3) := by decide +kernel
theorem dX5_set_27 : decode cX5_set 27 = .ok (.istore 4, 2) := by decide +kernel
theorem dX5_set_29 : decode cX5_set 29 = .ok (.iload_n 1, 1) := by decide +kernel
theorem dX5_set_30 : decode cX5_set 30 = .ok (.ifCond .ne 11, 3) := by decide +kernel
theorem dX5_set_33 : decode cX5_set 33 = .ok (.aload_n 0, 1) := by decide +kernel
theorem dX5_set_34 : decode cX5_set 34 = .ok (.iload_n 3, 1) := by decide +kernel
theorem dX5_set_35 : decode cX5_set 35 = .ok (.putfield 93, 3) := by decide +kernel
theorem dX5_set_38 : decode cX5_set 38 = .ok (.goto 49, 3) := by decide +kernel
theorem dX5_set_41 : decode cX5_set 41 = .ok (.iload_n 1, 1) := by decide +kernel
theorem dX5_set_42 : decode cX5_set 42 = .ok (.iconst 1, 1) := by decide +kernel
theorem dX5_set_43 : decode cX5_set 43 = .ok (.if_icmp .ne 22, 3) := by decide +kernel
theorem dX5_set_46 : decode cX5_set 46 = .ok (.aload_n 0, 1) := by decide +kernel
theorem dX5_set_47 : decode cX5_set 47 = .ok (.getfield 7, 3) := by decide +kernel
theorem dX5_set_50 : decode cX5_set 50 = .ok (.iload_n 2, 1) := by decide +kernel
theorem dX5_set_51 : decode cX5_set 51 = .ok (.iload_n 3, 1) := by decide +kernel
theorem dX5_set_52 : decode cX5_set 52 = .ok (.iconst 1, 1) := by decide +kernel
theorem dX5_set_53 : decode cX5_set 53 = .ok (.if_icmp .ne 7, 3) := by decide +kernel
theorem dX5_set_56 : decode cX5_set 56 = .ok (.iconst 1, 1) := by decide +kernel
theorem dX5_set_57 : decode cX5_set 57 = .ok (.goto 4, 3) := by decide +kernel
theorem dX5_set_60 : decode cX5_set 60 = .ok (.iconst 0, 1) := by decide +kernel
theorem dX5_set_61 : decode cX5_set 61 = .ok (.bastore, 1) := by decide +kernel
theorem dX5_set_62 : decode cX5_set 62 = .ok (.goto 25, 3) := by decide +kernel
theorem dX5_set_65 : decode cX5_set 65 = .ok (.iload_n 1, 1) := by decide +kernel
theorem dX5_set_66 : decode cX5_set 66 = .ok (.iconst 2, 1) := by decide +kernel
theorem dX5_set_67 : decode cX5_set 67 = .ok (.if_icmp .ne 13, 3) := by decide +kernel
theorem dX5_set_70 : decode cX5_set 70 = .ok (.aload_n 0, 1) := by decide +kernel
theorem dX5_set_71 : decode cX5_set 71 = .ok (.getfield 17, 3) := by decide +kernel
theorem dX5_set_74 : decode cX5_set 74 = .ok (.iload_n 2, 1) := by decide +kernel
theorem dX5_set_75 : decode cX5_set 75 = .ok (.iload_n 3, 1) := by decide +kernel
theorem dX5_set_76 : decode cX5_set 76 = .ok (.iastore, 1) := by decide +kernel
theorem dX5_set_77 : decode cX5_set 77 = .ok (.goto 10, 3) := by decide +kernel
theorem dX5_set_80 : decode cX5_set 80 = .ok (.aload_n 0, 1) := by decide +kernel
theorem dX5_set_81 : decode cX5_set 81 = .ok (.getfield 20, 3) := by decide +kernel
theorem dX5_set_84 : decode cX5_set 84 = .ok (.iload_n 2, 1) := by decide +kernel
theorem dX5_set_85 : decode cX5_set 85 = .ok (.iload_n 3, 1) := by decide +kernel
theorem dX5_set_86 : decode cX5_set 86 = .ok (.iastore, 1) := by decide +kernel
theorem dX5_set_87 : decode cX5_set 87 = .ok (.iload 4, 2) := by decide +kernel
theorem dX5_set_89 : decode cX5_set 89 = .ok (.ireturn, 1) := by decide +kernel
theorem dX5_person_0 : decode cX5_person 0 = .ok (.iload_n 1, 1) := by decide +kernel
theorem dX5_person_1 : decode cX5_person 1 = .ok (.iconst 0, 1) := by decide +kernel
theorem dX5_person_2 : decode cX5_person 2 = .ok (.iconst 5, 1) := by decide +kernel
theorem dX5_person_3 : decode cX5_person 3 = .ok (.invokestatic 82, 3) := by decide +kernel
theorem dX5_person_6 : decode cX5_person 6 = .ok (.ifCond .eq 13, 3) := by decide +kernel
theorem dX5_person_9 : decode cX5_person 9 = .ok (.iload_n 2, 1) := by decide +kernel
theorem dX5_person_10 : decode cX5_person 10 = .ok (.iconst 0, 1) := by decide +kernel
theorem dX5_person_11 : decode cX5_person 11 = .ok (.bipush 9, 2) := by decide +kernel
theorem dX5_person_13 : decode cX5_person 13 = .ok (.invokestatic 82, 3) := by decide +kernel
theorem dX5_person_16 : decode cX5_person 16 = .ok (.ifCond .ne 6, 3) := by decide +kernel
theorem dX5_person_19 : decode cX5_person 19 = .ok (.bipush (-2), 2) := by decide +kernel
theorem dX5_person_21 : decode cX5_person 21 = .ok (.ireturn, 1) := by decide +kernel
theorem dX5_person_22 : decode cX5_person 22 = .ok (.aload_n 0, 1) := by decide +kernel
theorem dX5_person_23 : decode cX5_person 23 = .ok (.getfield 79, 3) := by decide +kernel
theorem dX5_person_26 : decode cX5_person 26 = .ok (.iconst 5, 1) := by decide +kernel
theorem dX5_person_27 : decode cX5_person 27 = .ok (.if_icmp .ne 6, 3) := by decide +kernel
theorem dX5_person_30 : decode cX5_person 30 = .ok (.bipush (-4), 2) := by decide +kernel
theorem dX5_person_32 : decode cX5_person 32 = .ok (.ireturn, 1) := by decide +kernel
theorem dX5_person_33 : decode cX5_person 33 = .ok (.aload_n 0, 1) := by decide +kernel
theorem dX5_person_34 : decode cX5_person 34 = .ok (.getfield 13, 3) := by decide +kernel
theorem dX5_person_37 : decode cX5_person 37 = .ok (.aload_n 0, 1) := by decide +kernel
theorem dX5_person_38 : decode cX5_person 38 = .ok (.getfield 79, 3) := by decide +kernel
theorem dX5_person_41 : decode cX5_person 41 = .ok (.iload_n 1, 1) := by decide +kernel
theorem dX5_person_42 : decode cX5_person 42 = .ok (.iastore, 1) := by decide +kernel
theorem dX5_person_43 : decode cX5_person 43 = .ok (.aload_n 0, 1) := by decide +kernel
theorem dX5_person_44 : decode cX5_person 44 = .ok (.getfield 17, 3) := by decide +kernel
theorem dX5_person_47 : decode cX5_person 47 = .ok (.aload_n 0, 1) := by decide +kernel
theorem dX5_person_48 : decode cX5_person 48 = .ok (.getfield 79, 3) := by decide +kernel
theorem dX5_person_51 : decode cX5_person 51 = .ok (.iload_n 2, 1) := by decide +kernel
theorem dX5_person_52 : decode cX5_person 52 = .ok (.iastore, 1) := by decide +kernel
theorem dX5_person_53 : decode cX5_person 53 = .ok (.aload_n 0, 1) := by decide +kernel
theorem dX5_person_54 : decode cX5_person 54 = .ok (.getfield 20, 3) := by decide +kernel
theorem dX5_person_57 : decode cX5_person 57 = .ok (.aload_n 0, 1) := by decide +kernel
theorem dX5_person_58 : decode cX5_person 58 = .ok (.getfield 79, 3) := by decide +kernel
theorem dX5_person_61 : decode cX5_person 61 = .ok (.iconst 0, 1) := by decide +kernel
theorem dX5_person_62 : decode cX5_person 62 = .ok (.iastore, 1) := by decide +kernel
theorem dX5_person_63 : decode cX5_person 63 = .ok (.aload_n 0, 1) := by decide +kernel
theorem dX5_person_64 : decode cX5_person 64 = .ok (.dup, 1) := by decide +kernel
theorem dX5_person_65 : decode cX5_person 65 = .ok (.getfield 79, 3) := by decide +kernel
theorem dX5_person_68 : decode cX5_person 68 = .ok (.dup_x1, 1) := by decide +kernel
theorem dX5_person_69 : decode cX5_person 69 = .ok (.iconst 1, 1) := by decide +kernel
theorem dX5_person_70 : decode cX5_person 70 = .ok (.iadd, 1) := by decide +kernel
theorem dX5_person_71 : decode cX5_person 71 = .ok (.putfield 79, 3) := by decide +kernel
theorem dX5_person_74 : decode cX5_person 74 = .ok (.ireturn, 1) := by decide +kernel
theorem dX5_sent_0 : decode cX5_sent 0 = .ok (.iconst 0, 1) := by decide +kernel
theorem dX5_sent_1 : decode cX5_sent 1 = .ok (.istore_n 2, 1) := by decide +kernel
theorem dX5_sent_2 : decode cX5_sent 2 = .ok (.iconst 0, 1) := by decide +kernel
theorem dX5_sent_3 : decode cX5_sent 3 = .ok (.istore_n 3, 1) := by decide +kernel
theorem dX5_sent_4 : decode cX5_sent 4 = .ok (.iload_n 3, 1) := by decide +kernel
theorem dX5_sent_5 : decode cX5_sent 5 = .ok (.aload_n 0, 1) := by decide +kernel
theorem dX5_sent_6 : decode cX5_sent 6 = .ok (.getfield 79, 3) := by decide +kernel
theorem dX5_sent_9 : decode cX5_sent 9 = .ok (.if_icmp .ge 26, 3) := by decide +kernel
theorem dX5_sent_12 : decode cX5_sent 12 = .ok (.iload_n 3, 1) := by decide +kernel
theorem dX5_sent_13 : decode cX5_sent 13 = .ok (.iload_n 1, 1) := by decide +kernel
theorem dX5_sent_14 : decode cX5_sent 14 = .ok (.if_icmp .eq 15, 3) := by decide +kernel
theorem dX5_sent_17 : decode cX5_sent 17 = .ok (.aload_n 0, 1) := by decide +kernel
theorem dX5_sent_18 : decode cX5_sent 18 = .ok (.iload_n 1, 1) := by decide +kernel
theorem dX5_sent_19 : decode cX5_sent 19 = .ok (.iload_n 3, 1) := by decide +kernel
theorem dX5_sent_20 : decode cX5_sent 20 = .ok (.invokevirtual 107, 3) := by decide +kernel
theorem dX5_sent_23 : decode cX5_sent 23 = .ok (.ifCond .eq 6, 3) := by decide +kernel
theorem dX5_sent_26 : decode cX5_sent 26 = .ok (.iinc 2 1, 3) := by decide +kernel
theorem dX5_sent_29 : decode cX5_sent 29 = .ok (.iinc 3 1, 3) := by decide +kernel
theorem dX5_sent_32 : decode cX5_sent 32 = .ok (.goto (-28), 3) := by decide +kernel
theorem dX5_sent_35 : decode cX5_sent 35 = .ok (.iload_n 2, 1) := by decide +kernel
theorem dX5_sent_36 : decode cX5_sent 36 = .ok (.ireturn, 1) := by decide +kernel
theorem dX5_gotten_0 : decode cX5_gotten 0 = .ok (.iconst 0, 1) := by decide +kernel
theorem dX5_gotten_1 : decode cX5_gotten 1 = .ok (.istore_n 2, 1) := by decide +kernel
theorem dX5_gotten_2 : decode cX5_gotten 2 = .ok (.iconst 0, 1) := by decide +kernel
theorem dX5_gotten_3 : decode cX5_gotten 3 = .ok (.istore_n 3, 1) := by decide +kernel
theorem dX5_gotten_4 : decode cX5_gotten 4 = .ok (.iload_n 3, 1) := by decide +kernel
theorem dX5_gotten_5 : decode cX5_gotten 5 = .ok (.aload_n 0, 1) := by decide +kernel
theorem dX5_gotten_6 : decode cX5_gotten 6 = .ok (.getfield 79, 3) := by decide +kernel
theorem dX5_gotten_9 : decode cX5_gotten 9 = .ok (.if_icmp .ge 26, 3) := by decide +kernel
theorem dX5_gotten_12 : decode cX5_gotten 12 = .ok (.iload_n 3, 1) := by decide +kernel
theorem dX5_gotten_13 : decode cX5_gotten 13 = .ok (.iload_n 1, 1) := by decide +kernel
theorem dX5_gotten_14 : decode cX5_gotten 14 = .ok (.if_icmp .eq 15, 3) := by decide +kernel
theorem dX5_gotten_17 : decode cX5_gotten 17 = .ok (.iload_n 2, 1) := by decide +kernel
theorem dX5_gotten_18 : decode cX5_gotten 18 = .ok (.aload_n 0, 1) := by decide +kernel
theorem dX5_gotten_19 : decode cX5_gotten 19 = .ok (.iload_n 3, 1) := by decide +kernel
theorem dX5_gotten_20 : decode cX5_gotten 20 = .ok (.iload_n 1, 1) := by decide +kernel
theorem dX5_gotten_21 : decode cX5_gotten 21 = .ok (.invokevirtual 107, 3) := by decide +kernel
theorem dX5_gotten_24 : decode cX5_gotten 24 = .ok (.invokestatic 110, 3) := by decide +kernel
theorem dX5_gotten_27 : decode cX5_gotten 27 = .ok (.iadd, 1) := by decide +kernel
theorem dX5_gotten_28 : decode cX5_gotten 28 = .ok (.istore_n 2, 1) := by decide +kernel
theorem dX5_gotten_29 : decode cX5_gotten 29 = .ok (.iinc 3 1, 3) := by decide +kernel
theorem dX5_gotten_32 : decode cX5_gotten 32 = .ok (.goto (-28), 3) := by decide +kernel
theorem dX5_gotten_35 : decode cX5_gotten 35 = .ok (.iload_n 2, 1) := by decide +kernel
theorem dX5_gotten_36 : decode cX5_gotten 36 = .ok (.ireturn, 1) := by decide +kernel
theorem dX5_told_0 : decode cX5_told 0 = .ok (.iload_n 2, 1) := by decide +kernel
theorem dX5_told_1 : decode cX5_told 1 = .ok (.iconst 0, 1) := by decide +kernel
theorem dX5_told_2 : decode cX5_told 2 = .ok (.iconst 3, 1) := by decide +kernel
theorem dX5_told_3 : decode cX5_told 3 = .ok (.invokestatic 82, 3) := by decide +kernel
theorem dX5_told_6 : decode cX5_told 6 = .ok (.ifCond .eq 25, 3) := by decide +kernel
theorem dX5_told_9 : decode cX5_told 9 = .ok (.aload_n 0, 1) := by decide +kernel
theorem dX5_told_10 : decode cX5_told 10 = .ok (.iload_n 2, 1) := by decide +kernel
theorem dX5_told_11 : decode cX5_told 11 = .ok (.iload_n 1, 1) := by decide +kernel
theorem dX5_told_12 : decode cX5_told 12 = .ok (.invokevirtual 96, 3) := by decide +kernel
theorem dX5_told_15 : decode cX5_told 15 = .ok (.ifCond .eq 12, 3) := by decide +kernel
theorem dX5_told_18 : decode cX5_told 18 = .ok (.aload_n 0, 1) := by decide +kernel
theorem dX5_told_19 : decode cX5_told 19 = .ok (.iload_n 2, 1) := by decide +kernel
theorem dX5_told_20 : decode cX5_told 20 = .ok (.iload_n 1, 1) := by decide +kernel
theorem dX5_told_21 : decode cX5_told 21 = .ok (.invokevirtual 103, 3) := by decide +kernel
theorem dX5_told_24 : decode cX5_told 24 = .ok (.goto 6, 3) := by decide +kernel
theorem dX5_told_27 : decode cX5_told 27 = .ok (.sipush (-1000), 3) := by decide +kernel
theorem dX5_told_30 : decode cX5_told 30 = .ok (.ireturn, 1) := by decide +kernel
theorem dX5_told_31 : decode cX5_told 31 = .ok (.aload_n 0, 1) := by decide +kernel
theorem dX5_told_32 : decode cX5_told 32 = .ok (.iload_n 1, 1) := by decide +kernel
theorem dX5_told_33 : decode cX5_told 33 = .ok (.invokevirtual 86, 3) := by decide +kernel
theorem dX5_told_36 : decode cX5_told 36 = .ok (.ifCond .ne 7, 3) := by decide +kernel
theorem dX5_told_39 : decode cX5_told 39 = .ok (.sipush (-1000), 3) := by decide +kernel
theorem dX5_told_42 : decode cX5_told 42 = .ok (.ireturn, 1) := by decide +kernel
theorem dX5_told_43 : decode cX5_told 43 = .ok (.iload_n 2, 1) := by decide +kernel
theorem dX5_told_44 : decode cX5_told 44 = .ok (.tableswitch 67 4 7 #[32, 39, 45, 51], 32) := by decide +kernel
theorem dX5_told_76 : decode cX5_told 76 = .ok (.aload_n 0, 1) := by decide +kernel
theorem dX5_told_77 : decode cX5_told 77 = .ok (.getfield 13, 3) := by decide +kernel
theorem dX5_told_80 : decode cX5_told 80 = .ok (.iload_n 1, 1) := by decide +kernel
theorem dX5_told_81 : decode cX5_told 81 = .ok (.iaload, 1) := by decide +kernel
theorem dX5_told_82 : decode cX5_told 82 = .ok (.ireturn, 1) := by decide +kernel
theorem dX5_told_83 : decode cX5_told 83 = .ok (.aload_n 0, 1) := by decide +kernel
theorem dX5_told_84 : decode cX5_told 84 = .ok (.iload_n 1, 1) := by decide +kernel
theorem dX5_told_85 : decode cX5_told 85 = .ok (.invokevirtual 114, 3) := by decide +kernel
theorem dX5_told_88 : decode cX5_told 88 = .ok (.ireturn, 1) := by decide +kernel
theorem dX5_told_89 : decode cX5_told 89 = .ok (.aload_n 0, 1) := by decide +kernel
theorem dX5_told_90 : decode cX5_told 90 = .ok (.iload_n 1, 1) := by decide +kernel
theorem dX5_told_91 : decode cX5_told 91 = .ok (.invokevirtual 117, 3) := by decide +kernel
theorem dX5_told_94 : decode cX5_told 94 = .ok (.ireturn, 1) := by decide +kernel
theorem dX5_told_95 : decode cX5_told 95 = .ok (.aload_n 0, 1) := by decide +kernel
theorem dX5_told_96 : decode cX5_told 96 = .ok (.getfield 20, 3) := by decide +kernel
theorem dX5_told_99 : decode cX5_told 99 = .ok (.iload_n 1, 1) := by decide +kernel
theorem dX5_told_100 : decode cX5_told 100 = .ok (.iaload, 1) := by decide +kernel
theorem dX5_told_101 : decode cX5_told 101 = .ok (.aload_n 0, 1) := by decide +kernel
theorem dX5_told_102 : decode cX5_told 102 = .ok (.iload_n 1, 1) := by decide +kernel
theorem dX5_told_103 : decode cX5_told 103 = .ok (.invokevirtual 120, 3) := by decide +kernel
theorem dX5_told_106 : decode cX5_told 106 = .ok (.iadd, 1) := by decide +kernel
theorem dX5_told_107 : decode cX5_told 107 = .ok (.invokestatic 123, 3) := by decide +kernel
theorem dX5_told_110 : decode cX5_told 110 = .ok (.ireturn, 1) := by decide +kernel
theorem dX5_told_111 : decode cX5_told 111 = .ok (.sipush (-1000), 3) := by decide +kernel
theorem dX5_told_114 : decode cX5_told 114 = .ok (.ireturn, 1) := by decide +kernel
theorem dX5_feed_0 : decode cX5_feed 0 = .ok (.iload_n 1, 1) := by decide +kernel
theorem dX5_feed_1 : decode cX5_feed 1 = .ok (.iconst 0, 1) := by decide +kernel
theorem dX5_feed_2 : decode cX5_feed 2 = .ok (.sipush 255, 3) := by decide +kernel
theorem dX5_feed_5 : decode cX5_feed 5 = .ok (.invokestatic 82, 3) := by decide +kernel
theorem dX5_feed_8 : decode cX5_feed 8 = .ok (.ifCond .ne 6, 3) := by decide +kernel
theorem dX5_feed_11 : decode cX5_feed 11 = .ok (.bipush (-2), 2) := by decide +kernel
theorem dX5_feed_13 : decode cX5_feed 13 = .ok (.ireturn, 1) := by decide +kernel
theorem dX5_feed_14 : decode cX5_feed 14 = .ok (.aload_n 0, 1) := by decide +kernel
theorem dX5_feed_15 : decode cX5_feed 15 = .ok (.getfield 126, 3) := by decide +kernel
theorem dX5_feed_18 : decode cX5_feed 18 = .ok (.sipush 160, 3) := by decide +kernel
theorem dX5_feed_21 : decode cX5_feed 21 = .ok (.if_icmp .ne 6, 3) := by decide +kernel
theorem dX5_feed_24 : decode cX5_feed 24 = .ok (.bipush (-4), 2) := by decide +kernel
theorem dX5_feed_26 : decode cX5_feed 26 = .ok (.ireturn, 1) := by decide +kernel
theorem dX5_feed_27 : decode cX5_feed 27 = .ok (.aload_n 0, 1) := by decide +kernel
theorem dX5_feed_28 : decode cX5_feed 28 = .ok (.getfield 23, 3) := by decide +kernel
theorem dX5_feed_31 : decode cX5_feed 31 = .ok (.aload_n 0, 1) := by decide +kernel
theorem dX5_feed_32 : decode cX5_feed 32 = .ok (.dup, 1) := by decide +kernel
theorem dX5_feed_33 : decode cX5_feed 33 = .ok (.getfield 126, 3) := by decide +kernel
theorem dX5_feed_36 : decode cX5_feed 36 = .ok (.dup_x1, 1) := by decide +kernel
theorem dX5_feed_37 : decode cX5_feed 37 = .ok (.iconst 1, 1) := by decide +kernel
theorem dX5_feed_38 : decode cX5_feed 38 = .ok (.iadd, 1) := by decide +kernel
theorem dX5_feed_39 : decode cX5_feed 39 = .ok (.putfield 126, 3) := by decide +kernel
theorem dX5_feed_42 : decode cX5_feed 42 = .ok (.iload_n 1, 1) := by decide +kernel
theorem dX5_feed_43 : decode cX5_feed 43 = .ok (.iastore, 1) := by decide +kernel
theorem dX5_feed_44 : decode cX5_feed 44 = .ok (.aload_n 0, 1) := by decide +kernel
theorem dX5_feed_45 : decode cX5_feed 45 = .ok (.getfield 126, 3) := by decide +kernel
theorem dX5_feed_48 : decode cX5_feed 48 = .ok (.ireturn, 1) := by decide +kernel
theorem dX5_isLetter_0 : decode cX5_isLetter 0 = .ok (.iload_n 0, 1) := by decide +kernel
theorem dX5_isLetter_1 : decode cX5_isLetter 1 = .ok (.bipush 97, 2) := by decide +kernel
theorem dX5_isLetter_3 : decode cX5_isLetter 3 = .ok (.if_icmp .lt 13, 3) := by decide +kernel
theorem dX5_isLetter_6 : decode cX5_isLetter 6 = .ok (.iload_n 0, 1) := by decide +kernel
theorem dX5_isLetter_7 : decode cX5_isLetter 7 = .ok (.bipush 122, 2) := by decide +kernel
theorem dX5_isLetter_9 : decode cX5_isLetter 9 = .ok (.if_icmp .gt 7, 3) := by decide +kernel
theorem dX5_isLetter_12 : decode cX5_isLetter 12 = .ok (.iconst 1, 1) := by decide +kernel
theorem dX5_isLetter_13 : decode cX5_isLetter 13 = .ok (.goto 4, 3) := by decide +kernel
theorem dX5_isLetter_16 : decode cX5_isLetter 16 = .ok (.iconst 0, 1) := by decide +kernel
theorem dX5_isLetter_17 : decode cX5_isLetter 17 = .ok (.ireturn, 1) := by decide +kernel
theorem dX5_isDigit_0 : decode cX5_isDigit 0 = .ok (.iload_n 0, 1) := by decide +kernel
theorem dX5_isDigit_1 : decode cX5_isDigit 1 = .ok (.bipush 48, 2) := by decide +kernel
theorem dX5_isDigit_3 : decode cX5_isDigit 3 = .ok (.if_icmp .lt 13, 3) := by decide +kernel
theorem dX5_isDigit_6 : decode cX5_isDigit 6 = .ok (.iload_n 0, 1) := by decide +kernel
theorem dX5_isDigit_7 : decode cX5_isDigit 7 = .ok (.bipush 57, 2) := by decide +kernel
theorem dX5_isDigit_9 : decode cX5_isDigit 9 = .ok (.if_icmp .gt 7, 3) := by decide +kernel
theorem dX5_isDigit_12 : decode cX5_isDigit 12 = .ok (.iconst 1, 1) := by decide +kernel
theorem dX5_isDigit_13 : decode cX5_isDigit 13 = .ok (.goto 4, 3) := by decide +kernel
theorem dX5_isDigit_16 : decode cX5_isDigit 16 = .ok (.iconst 0, 1) := by decide +kernel
theorem dX5_isDigit_17 : decode cX5_isDigit 17 = .ok (.ireturn, 1) := by decide +kernel
theorem dX5_isSign_0 : decode cX5_isSign 0 = .ok (.iload_n 0, 1) := by decide +kernel
theorem dX5_isSign_1 : decode cX5_isSign 1 = .ok (.tableswitch 105 40 61 #[103, 103, 103, 103, 105, 103, 105, 105, 105, 105, 105, 105, 105, 105, 105, 105, 105, 105, 105, 103, 103, 103], 103) := by decide +kernel
theorem dX5_isSign_104 : decode cX5_isSign 104 = .ok (.iconst 1, 1) := by decide +kernel
theorem dX5_isSign_105 : decode cX5_isSign 105 = .ok (.ireturn, 1) := by decide +kernel
theorem dX5_isSign_106 : decode cX5_isSign 106 = .ok (.iconst 0, 1) := by decide +kernel
theorem dX5_isSign_107 : decode cX5_isSign 107 = .ok (.ireturn, 1) := by decide +kernel
theorem dX5_named_0 : decode cX5_named 0 = .ok (.aload_n 0, 1) := by decide +kernel
theorem dX5_named_1 : decode cX5_named 1 = .ok (.getfield 129, 3) := by decide +kernel
theorem dX5_named_4 : decode cX5_named 4 = .ok (.lookupswitch 72 #[(555, 70), (131638, 68), (267223, 62), (6415353, 60), (212302449, 64), (291335149, 66)], 60) := by decide +kernel
theorem dX5_named_64 : decode cX5_named 64 = .ok (.iconst 0, 1) := by decide +kernel
theorem dX5_named_65 : decode cX5_named 65 = .ok (.ireturn, 1) := by decide +kernel
theorem dX5_named_66 : decode cX5_named 66 = .ok (.iconst 1, 1) := by decide +kernel
theorem dX5_named_67 : decode cX5_named 67 = .ok (.ireturn, 1) := by decide +kernel
theorem dX5_named_68 : decode cX5_named 68 = .ok (.iconst 2, 1) := by decide +kernel
theorem dX5_named_69 : decode cX5_named 69 = .ok (.ireturn, 1) := by decide +kernel
theorem dX5_named_70 : decode cX5_named 70 = .ok (.iconst 3, 1) := by decide +kernel
theorem dX5_named_71 : decode cX5_named 71 = .ok (.ireturn, 1) := by decide +kernel
theorem dX5_named_72 : decode cX5_named 72 = .ok (.iconst 4, 1) := by decide +kernel
theorem dX5_named_73 : decode cX5_named 73 = .ok (.ireturn, 1) := by decide +kernel
theorem dX5_named_74 : decode cX5_named 74 = .ok (.iconst 5, 1) := by decide +kernel
theorem dX5_named_75 : decode cX5_named 75 = .ok (.ireturn, 1) := by decide +kernel
theorem dX5_named_76 : decode cX5_named 76 = .ok (.iconst (-1), 1) := by decide +kernel
theorem dX5_named_77 : decode cX5_named 77 = .ok (.ireturn, 1) := by decide +kernel
theorem dX5_isKey_0 : decode cX5_isKey 0 = .ok (.aload_n 0, 1) := by decide +kernel
theorem dX5_isKey_1 : decode cX5_isKey 1 = .ok (.getfield 129, 3) := by decide +kernel
theorem dX5_isKey_4 : decode cX5_isKey 4 = .ok (.lookupswitch 62 #[(423, 60), (1111, 60), (10631, 60), (74917, 60), (3291049, 60), (10206127, 60)], 60) := by decide +kernel
theorem dX5_isKey_64 : decode cX5_isKey 64 = .ok (.iconst 1, 1) := by decide +kernel
theorem dX5_isKey_65 : decode cX5_isKey 65 = .ok (.ireturn, 1) := by decide +kernel
theorem dX5_isKey_66 : decode cX5_isKey 66 = .ok (.iconst 0, 1) := by decide +kernel
theorem dX5_isKey_67 : decode cX5_isKey 67 = .ok (.ireturn, 1) := by decide +kernel
theorem dX5_next_0 : decode cX5_next 0 = .ok (.aload_n 0, 1) := by decide +kernel
theorem dX5_next_1 : decode cX5_next 1 = .ok (.aload_n 0, 1) := by decide +kernel
theorem dX5_next_2 : decode cX5_next 2 = .ok (.getfield 132, 3) := by decide +kernel
theorem dX5_next_5 : decode cX5_next 5 = .ok (.putfield 135, 3) := by decide +kernel
theorem dX5_next_8 : decode cX5_next 8 = .ok (.aload_n 0, 1) := by decide +kernel
theorem dX5_next_9 : decode cX5_next 9 = .ok (.getfield 135, 3) := by decide +kernel
theorem dX5_next_12 : decode cX5_next 12 = .ok (.aload_n 0, 1) := by decide +kernel
theorem dX5_next_13 : decode cX5_next 13 = .ok (.getfield 126, 3) := by decide +kernel
theorem dX5_next_16 : decode cX5_next 16 = .ok (.if_icmp .ge 44, 3) := by decide +kernel
theorem dX5_next_19 : decode cX5_next 19 = .ok (.aload_n 0, 1) := by decide +kernel
theorem dX5_next_20 : decode cX5_next 20 = .ok (.getfield 23, 3) := by decide +kernel
theorem dX5_next_23 : decode cX5_next 23 = .ok (.aload_n 0, 1) := by decide +kernel
theorem dX5_next_24 : decode cX5_next 24 = .ok (.getfield 135, 3) := by decide +kernel
theorem dX5_next_27 : decode cX5_next 27 = .ok (.iaload, 1) := by decide +kernel
theorem dX5_next_28 : decode cX5_next 28 = .ok (.bipush 32, 2) := by decide +kernel
theorem dX5_next_30 : decode cX5_next 30 = .ok (.if_icmp .eq 17, 3) := by decide +kernel
theorem dX5_next_33 : decode cX5_next 33 = .ok (.aload_n 0, 1) := by decide +kernel
theorem dX5_next_34 : decode cX5_next 34 = .ok (.getfield 23, 3) := by decide +kernel
theorem dX5_next_37 : decode cX5_next 37 = .ok (.aload_n 0, 1) := by decide +kernel
theorem dX5_next_38 : decode cX5_next 38 = .ok (.getfield 135, 3) := by decide +kernel
theorem dX5_next_41 : decode cX5_next 41 = .ok (.iaload, 1) := by decide +kernel
theorem dX5_next_42 : decode cX5_next 42 = .ok (.bipush 10, 2) := by decide +kernel
theorem dX5_next_44 : decode cX5_next 44 = .ok (.if_icmp .ne 16, 3) := by decide +kernel
theorem dX5_next_47 : decode cX5_next 47 = .ok (.aload_n 0, 1) := by decide +kernel
theorem dX5_next_48 : decode cX5_next 48 = .ok (.dup, 1) := by decide +kernel
theorem dX5_next_49 : decode cX5_next 49 = .ok (.getfield 135, 3) := by decide +kernel
theorem dX5_next_52 : decode cX5_next 52 = .ok (.iconst 1, 1) := by decide +kernel
theorem dX5_next_53 : decode cX5_next 53 = .ok (.iadd, 1) := by decide +kernel
theorem dX5_next_54 : decode cX5_next 54 = .ok (.putfield 135, 3) := by decide +kernel
theorem dX5_next_57 : decode cX5_next 57 = .ok (.goto (-49), 3) := by decide +kernel
theorem dX5_next_60 : decode cX5_next 60 = .ok (.aload_n 0, 1) := by decide +kernel
theorem dX5_next_61 : decode cX5_next 61 = .ok (.aload_n 0, 1) := by decide +kernel
theorem dX5_next_62 : decode cX5_next 62 = .ok (.getfield 135, 3) := by decide +kernel
theorem dX5_next_65 : decode cX5_next 65 = .ok (.putfield 132, 3) := by decide +kernel
theorem dX5_next_68 : decode cX5_next 68 = .ok (.aload_n 0, 1) := by decide +kernel
theorem dX5_next_69 : decode cX5_next 69 = .ok (.iconst 0, 1) := by decide +kernel
theorem dX5_next_70 : decode cX5_next 70 = .ok (.putfield 129, 3) := by decide +kernel
theorem dX5_next_73 : decode cX5_next 73 = .ok (.aload_n 0, 1) := by decide +kernel
theorem dX5_next_74 : decode cX5_next 74 = .ok (.getfield 135, 3) := by decide +kernel
theorem dX5_next_77 : decode cX5_next 77 = .ok (.aload_n 0, 1) := by decide +kernel
theorem dX5_next_78 : decode cX5_next 78 = .ok (.getfield 126, 3) := by decide +kernel
theorem dX5_next_81 : decode cX5_next 81 = .ok (.if_icmp .ne 10, 3) := by decide +kernel
theorem dX5_next_84 : decode cX5_next 84 = .ok (.aload_n 0, 1) := by decide +kernel
theorem dX5_next_85 : decode cX5_next 85 = .ok (.bipush 101, 2) := by decide +kernel
theorem dX5_next_87 : decode cX5_next 87 = .ok (.putfield 138, 3) := by decide +kernel
theorem dX5_next_90 : decode cX5_next 90 = .ok (.return_, 1) := by decide +kernel
theorem dX5_next_91 : decode cX5_next 91 = .ok (.aload_n 0, 1) := by decide +kernel
theorem dX5_next_92 : decode cX5_next 92 = .ok (.getfield 23, 3) := by decide +kernel
theorem dX5_next_95 : decode cX5_next 95 = .ok (.aload_n 0, 1) := by decide +kernel
theorem dX5_next_96 : decode cX5_next 96 = .ok (.getfield 135, 3) := by decide +kernel
theorem dX5_next_99 : decode cX5_next 99 = .ok (.iaload, 1) := by decide +kernel
theorem dX5_next_100 : decode cX5_next 100 = .ok (.istore_n 1, 1) := by decide +kernel
theorem dX5_next_101 : decode cX5_next 101 = .ok (.iload_n 1, 1) := by decide +kernel
theorem dX5_next_102 : decode cX5_next 102 = .ok (.invokestatic 141, 3) := by decide +kernel
theorem dX5_next_105 : decode cX5_next 105 = .ok (.ifCond .eq 128, 3) := by decide +kernel
theorem dX5_next_108 : decode cX5_next 108 = .ok (.aload_n 0, 1) := by decide +kernel
theorem dX5_next_109 : decode cX5_next 109 = .ok (.getfield 132, 3) := by decide +kernel
theorem dX5_next_112 : decode cX5_next 112 = .ok (.aload_n 0, 1) := by decide +kernel
theorem dX5_next_113 : decode cX5_next 113 = .ok (.getfield 126, 3) := by decide +kernel
theorem dX5_next_116 : decode cX5_next 116 = .ok (.if_icmp .ge 69, 3) := by decide +kernel
theorem dX5_next_119 : decode cX5_next 119 = .ok (.aload_n 0, 1) := by decide +kernel
theorem dX5_next_120 : decode cX5_next 120 = .ok (.getfield 23, 3) := by decide +kernel
theorem dX5_next_123 : decode cX5_next 123 = .ok (.aload_n 0, 1) := by decide +kernel
theorem dX5_next_124 : decode cX5_next 124 = .ok (.getfield 132, 3) := by decide +kernel
theorem dX5_next_127 : decode cX5_next 127 = .ok (.iaload, 1) := by decide +kernel
theorem dX5_next_128 : decode cX5_next 128 = .ok (.invokestatic 141, 3) := by decide +kernel
theorem dX5_next_131 : decode cX5_next 131 = .ok (.ifCond .eq 54, 3) := by decide +kernel
theorem dX5_next_134 : decode cX5_next 134 = .ok (.aload_n 0, 1) := by decide +kernel
theorem dX5_next_135 : decode cX5_next 135 = .ok (.getfield 132, 3) := by decide +kernel
theorem dX5_next_138 : decode cX5_next 138 = .ok (.aload_n 0, 1) := by decide +kernel
theorem dX5_next_139 : decode cX5_next 139 = .ok (.getfield 135, 3) := by decide +kernel
theorem dX5_next_142 : decode cX5_next 142 = .ok (.isub, 1) := by decide +kernel
theorem dX5_next_143 : decode cX5_next 143 = .ok (.bipush 6, 2) := by decide +kernel
theorem dX5_next_145 : decode cX5_next 145 = .ok (.if_icmp .ge 27, 3) := by decide +kernel
theorem dX5_next_148 : decode cX5_next 148 = .ok (.aload_n 0, 1) := by decide +kernel
theorem dX5_next_149 : decode cX5_next 149 = .ok (.bipush 27, 2) := by decide +kernel
theorem dX5_next_151 : decode cX5_next 151 = .ok (.aload_n 0, 1) := by decide +kernel
theorem dX5_next_152 : decode cX5_next 152 = .ok (.getfield 129, 3) := by decide +kernel
theorem dX5_next_155 : decode cX5_next 155 = .ok (.imul, 1) := by decide +kernel
theorem dX5_next_156 : decode cX5_next 156 = .ok (.aload_n 0, 1) := by decide +kernel
theorem dX5_next_157 : decode cX5_next 157 = .ok (.getfield 23, 3) := by decide +kernel
theorem dX5_next_160 : decode cX5_next 160 = .ok (.aload_n 0, 1) := by decide +kernel
theorem dX5_next_161 : decode cX5_next 161 = .ok (.getfield 132, 3) := by decide +kernel
theorem dX5_next_164 : decode cX5_next 164 = .ok (.iaload, 1) := by decide +kernel
theorem dX5_next_165 : decode cX5_next 165 = .ok (.iadd, 1) := by decide +kernel
theorem dX5_next_166 : decode cX5_next 166 = .ok (.bipush 96, 2) := by decide +kernel
theorem dX5_next_168 : decode cX5_next 168 = .ok (.isub, 1) := by decide +kernel
theorem dX5_next_169 : decode cX5_next 169 = .ok (.putfield 129, 3) := by decide +kernel
theorem dX5_next_172 : decode cX5_next 172 = .ok (.aload_n 0, 1) := by decide +kernel
theorem dX5_next_173 : decode cX5_next 173 = .ok (.dup, 1) := by decide +kernel
theorem dX5_next_174 : decode cX5_next 174 = .ok (.getfield 132, 3) := by decide +kernel
theorem dX5_next_177 : decode cX5_next 177 = .ok (.iconst 1, 1) := by decide +kernel
theorem dX5_next_178 : decode cX5_next 178 = .ok (.iadd, 1) := by decide +kernel
theorem dX5_next_179 : decode cX5_next 179 = .ok (.putfield 132, 3) := by decide +kernel
theorem dX5_next_182 : decode cX5_next 182 = .ok (.goto (-74), 3) := by decide +kernel
theorem dX5_next_185 : decode cX5_next 185 = .ok (.aload_n 0, 1) := by decide +kernel
theorem dX5_next_186 : decode cX5_next 186 = .ok (.getfield 132, 3) := by decide +kernel
theorem dX5_next_189 : decode cX5_next 189 = .ok (.aload_n 0, 1) := by decide +kernel
theorem dX5_next_190 : decode cX5_next 190 = .ok (.getfield 135, 3) := by decide +kernel
theorem dX5_next_193 : decode cX5_next 193 = .ok (.isub, 1) := by decide +kernel
theorem dX5_next_194 : decode cX5_next 194 = .ok (.bipush 6, 2) := by decide +kernel
theorem dX5_next_196 : decode cX5_next 196 = .ok (.if_icmp .le 8, 3) := by decide +kernel
theorem dX5_next_199 : decode cX5_next 199 = .ok (.aload_n 0, 1) := by decide +kernel
theorem dX5_next_200 : decode cX5_next 200 = .ok (.iconst (-1), 1) := by decide +kernel
theorem dX5_next_201 : decode cX5_next 201 = .ok (.putfield 129, 3) := by decide +kernel
theorem dX5_next_204 : decode cX5_next 204 = .ok (.aload_n 0, 1) := by decide +kernel
theorem dX5_next_205 : decode cX5_next 205 = .ok (.aload_n 0, 1) := by decide +kernel
theorem dX5_next_206 : decode cX5_next 206 = .ok (.invokevirtual 144, 3) := by decide +kernel
theorem dX5_next_209 : decode cX5_next 209 = .ok (.iconst (-1), 1) := by decide +kernel
theorem dX5_next_210 : decode cX5_next 210 = .ok (.if_icmp .ne 15, 3) := by decide +kernel
theorem dX5_next_213 : decode cX5_next 213 = .ok (.aload_n 0, 1) := by decide +kernel
theorem dX5_next_214 : decode cX5_next 214 = .ok (.invokevirtual 148, 3) := by decide +kernel
theorem dX5_next_217 : decode cX5_next 217 = .ok (.ifCond .ne 8, 3) := by decide +kernel
theorem dX5_next_220 : decode cX5_next 220 = .ok (.bipush 120, 2) := by decide +kernel
theorem dX5_next_222 : decode cX5_next 222 = .ok (.goto 5, 3) := by decide +kernel
theorem dX5_next_225 : decode cX5_next 225 = .ok (.bipush 119, 2) := by decide +kernel
theorem dX5_next_227 : decode cX5_next 227 = .ok (.putfield 138, 3) := by decide +kernel
theorem dX5_next_230 : decode cX5_next 230 = .ok (.goto 145, 3) := by decide +kernel
theorem dX5_next_233 : decode cX5_next 233 = .ok (.iload_n 1, 1) := by decide +kernel
theorem dX5_next_234 : decode cX5_next 234 = .ok (.invokestatic 152, 3) := by decide +kernel
theorem dX5_next_237 : decode cX5_next 237 = .ok (.ifCond .eq 111, 3) := by decide +kernel
theorem dX5_next_240 : decode cX5_next 240 = .ok (.aload_n 0, 1) := by decide +kernel
theorem dX5_next_241 : decode cX5_next 241 = .ok (.iconst 0, 1) := by decide +kernel
theorem dX5_next_242 : decode cX5_next 242 = .ok (.putfield 155, 3) := by decide +kernel
theorem dX5_next_245 : decode cX5_next 245 = .ok (.aload_n 0, 1) := by decide +kernel
theorem dX5_next_246 : decode cX5_next 246 = .ok (.getfield 132, 3) := by decide +kernel
theorem dX5_next_249 : decode cX5_next 249 = .ok (.aload_n 0, 1) := by decide +kernel
theorem dX5_next_250 : decode cX5_next 250 = .ok (.getfield 126, 3) := by decide +kernel
theorem dX5_next_253 : decode cX5_next 253 = .ok (.if_icmp .ge 68, 3) := by decide +kernel
theorem dX5_next_256 : decode cX5_next 256 = .ok (.aload_n 0, 1) := by decide +kernel
theorem dX5_next_257 : decode cX5_next 257 = .ok (.getfield 23, 3) := by decide +kernel
theorem dX5_next_260 : decode cX5_next 260 = .ok (.aload_n 0, 1) := by decide +kernel
theorem dX5_next_261 : decode cX5_next 261 = .ok (.getfield 132, 3) := by decide +kernel
theorem dX5_next_264 : decode cX5_next 264 = .ok (.iaload, 1) := by decide +kernel
theorem dX5_next_265 : decode cX5_next 265 = .ok (.invokestatic 152, 3) := by decide +kernel
theorem dX5_next_268 : decode cX5_next 268 = .ok (.ifCond .eq 53, 3) := by decide +kernel
theorem dX5_next_271 : decode cX5_next 271 = .ok (.aload_n 0, 1) := by decide +kernel
theorem dX5_next_272 : decode cX5_next 272 = .ok (.getfield 132, 3) := by decide +kernel
theorem dX5_next_275 : decode cX5_next 275 = .ok (.aload_n 0, 1) := by decide +kernel
theorem dX5_next_276 : decode cX5_next 276 = .ok (.getfield 135, 3) := by decide +kernel
theorem dX5_next_279 : decode cX5_next 279 = .ok (.isub, 1) := by decide +kernel
theorem dX5_next_280 : decode cX5_next 280 = .ok (.iconst 4, 1) := by decide +kernel
theorem dX5_next_281 : decode cX5_next 281 = .ok (.if_icmp .ge 27, 3) := by decide +kernel
theorem dX5_next_284 : decode cX5_next 284 = .ok (.aload_n 0, 1) := by decide +kernel
theorem dX5_next_285 : decode cX5_next 285 = .ok (.bipush 10, 2) := by decide +kernel
theorem dX5_next_287 : decode cX5_next 287 = .ok (.aload_n 0, 1) := by decide +kernel
theorem dX5_next_288 : decode cX5_next 288 = .ok (.getfield 155, 3) := by decide +kernel
theorem dX5_next_291 : decode cX5_next 291 = .ok (.imul, 1) := by decide +kernel
theorem dX5_next_292 : decode cX5_next 292 = .ok (.aload_n 0, 1) := by decide +kernel
theorem dX5_next_293 : decode cX5_next 293 = .ok (.getfield 23, 3) := by decide +kernel
theorem dX5_next_296 : decode cX5_next 296 = .ok (.aload_n 0, 1) := by decide +kernel
theorem dX5_next_297 : decode cX5_next 297 = .ok (.getfield 132, 3) := by decide +kernel
theorem dX5_next_300 : decode cX5_next 300 = .ok (.iaload, 1) := by decide +kernel
theorem dX5_next_301 : decode cX5_next 301 = .ok (.iadd, 1) := by decide +kernel
theorem dX5_next_302 : decode cX5_next 302 = .ok (.bipush 48, 2) := by decide +kernel
theorem dX5_next_304 : decode cX5_next 304 = .ok (.isub, 1) := by decide +kernel
theorem dX5_next_305 : decode cX5_next 305 = .ok (.putfield 155, 3) := by decide +kernel
theorem dX5_next_308 : decode cX5_next 308 = .ok (.aload_n 0, 1) := by decide +kernel
theorem dX5_next_309 : decode cX5_next 309 = .ok (.dup, 1) := by decide +kernel
theorem dX5_next_310 : decode cX5_next 310 = .ok (.getfield 132, 3) := by decide +kernel
theorem dX5_next_313 : decode cX5_next 313 = .ok (.iconst 1, 1) := by decide +kernel
theorem dX5_next_314 : decode cX5_next 314 = .ok (.iadd, 1) := by decide +kernel
theorem dX5_next_315 : decode cX5_next 315 = .ok (.putfield 132, 3) := by decide +kernel
theorem dX5_next_318 : decode cX5_next 318 = .ok (.goto (-73), 3) := by decide +kernel
theorem dX5_next_321 : decode cX5_next 321 = .ok (.aload_n 0, 1) := by decide +kernel
theorem dX5_next_322 : decode cX5_next 322 = .ok (.aload_n 0, 1) := by decide +kernel
theorem dX5_next_323 : decode cX5_next 323 = .ok (.getfield 132, 3) := by decide +kernel
theorem dX5_next_326 : decode cX5_next 326 = .ok (.aload_n 0, 1) := by decide +kernel
theorem dX5_next_327 : decode cX5_next 327 = .ok (.getfield 135, 3) := by decide +kernel
theorem dX5_next_330 : decode cX5_next 330 = .ok (.isub, 1) := by decide +kernel
theorem dX5_next_331 : decode cX5_next 331 = .ok (.iconst 4, 1) := by decide +kernel
theorem dX5_next_332 : decode cX5_next 332 = .ok (.if_icmp .le 8, 3) := by decide +kernel
theorem dX5_next_335 : decode cX5_next 335 = .ok (.bipush 120, 2) := by decide +kernel
theorem dX5_next_337 : decode cX5_next 337 = .ok (.goto 5, 3) := by decide +kernel
theorem dX5_next_340 : decode cX5_next 340 = .ok (.bipush 48, 2) := by decide +kernel
theorem dX5_next_342 : decode cX5_next 342 = .ok (.putfield 138, 3) := by decide +kernel
theorem dX5_next_345 : decode cX5_next 345 = .ok (.goto 30, 3) := by decide +kernel
theorem dX5_next_348 : decode cX5_next 348 = .ok (.aload_n 0, 1) := by decide +kernel
theorem dX5_next_349 : decode cX5_next 349 = .ok (.dup, 1) := by decide +kernel
theorem dX5_next_350 : decode cX5_next 350 = .ok (.getfield 132, 3) := by decide +kernel
theorem dX5_next_353 : decode cX5_next 353 = .ok (.iconst 1, 1) := by decide +kernel
theorem dX5_next_354 : decode cX5_next 354 = .ok (.iadd, 1) := by decide +kernel
theorem dX5_next_355 : decode cX5_next 355 = .ok (.putfield 132, 3) := by decide +kernel
theorem dX5_next_358 : decode cX5_next 358 = .ok (.aload_n 0, 1) := by decide +kernel
theorem dX5_next_359 : decode cX5_next 359 = .ok (.iload_n 1, 1) := by decide +kernel
theorem dX5_next_360 : decode cX5_next 360 = .ok (.invokestatic 158, 3) := by decide +kernel
theorem dX5_next_363 : decode cX5_next 363 = .ok (.ifCond .eq 7, 3) := by decide +kernel
theorem dX5_next_366 : decode cX5_next 366 = .ok (.iload_n 1, 1) := by decide +kernel
theorem dX5_next_367 : decode cX5_next 367 = .ok (.goto 5, 3) := by decide +kernel
theorem dX5_next_370 : decode cX5_next 370 = .ok (.bipush 120, 2) := by decide +kernel
theorem dX5_next_372 : decode cX5_next 372 = .ok (.putfield 138, 3) := by decide +kernel
theorem dX5_next_375 : decode cX5_next 375 = .ok (.return_, 1) := by decide +kernel
theorem dX5_takes_0 : decode cX5_takes 0 = .ok (.aload_n 0, 1) := by decide +kernel
theorem dX5_takes_1 : decode cX5_takes 1 = .ok (.getfield 138, 3) := by decide +kernel
theorem dX5_takes_4 : decode cX5_takes 4 = .ok (.bipush 119, 2) := by decide +kernel
theorem dX5_takes_6 : decode cX5_takes 6 = .ok (.if_icmp .ne 11, 3) := by decide +kernel
theorem dX5_takes_9 : decode cX5_takes 9 = .ok (.aload_n 0, 1) := by decide +kernel
theorem dX5_takes_10 : decode cX5_takes 10 = .ok (.getfield 129, 3) := by decide +kernel
theorem dX5_takes_13 : decode cX5_takes 13 = .ok (.iload_n 1, 1) := by decide +kernel
theorem dX5_takes_14 : decode cX5_takes 14 = .ok (.if_icmp .eq 5, 3) := by decide +kernel
theorem dX5_takes_17 : decode cX5_takes 17 = .ok (.iconst 0, 1) := by decide +kernel
theorem dX5_takes_18 : decode cX5_takes 18 = .ok (.ireturn, 1) := by decide +kernel
theorem dX5_takes_19 : decode cX5_takes 19 = .ok (.aload_n 0, 1) := by decide +kernel
theorem dX5_takes_20 : decode cX5_takes 20 = .ok (.invokevirtual 161, 3) := by decide +kernel
theorem dX5_takes_23 : decode cX5_takes 23 = .ok (.iconst 1, 1) := by decide +kernel
theorem dX5_takes_24 : decode cX5_takes 24 = .ok (.ireturn, 1) := by decide +kernel
theorem dX5_codes_0 : decode cX5_codes 0 = .ok (.aload_n 0, 1) := by decide +kernel
theorem dX5_codes_1 : decode cX5_codes 1 = .ok (.getfield 32, 3) := by decide +kernel
theorem dX5_codes_4 : decode cX5_codes 4 = .ok (.aload_n 0, 1) := by decide +kernel
theorem dX5_codes_5 : decode cX5_codes 5 = .ok (.dup, 1) := by decide +kernel
theorem dX5_codes_6 : decode cX5_codes 6 = .ok (.getfield 164, 3) := by decide +kernel
theorem dX5_codes_9 : decode cX5_codes 9 = .ok (.dup_x1, 1) := by decide +kernel
theorem dX5_codes_10 : decode cX5_codes 10 = .ok (.iconst 1, 1) := by decide +kernel
theorem dX5_codes_11 : decode cX5_codes 11 = .ok (.iadd, 1) := by decide +kernel
theorem dX5_codes_12 : decode cX5_codes 12 = .ok (.putfield 164, 3) := by decide +kernel
theorem dX5_codes_15 : decode cX5_codes 15 = .ok (.iload_n 1, 1) := by decide +kernel
theorem dX5_codes_16 : decode cX5_codes 16 = .ok (.iastore, 1) := by decide +kernel
theorem dX5_codes_17 : decode cX5_codes 17 = .ok (.return_, 1) := by decide +kernel
theorem dX5_rank_0 : decode cX5_rank 0 = .ok (.iload_n 0, 1) := by decide +kernel
theorem dX5_rank_1 : decode cX5_rank 1 = .ok (.tableswitch 67 6 14 #[59, 59, 61, 57, 57, 53, 51, 55, 64], 51) := by decide +kernel
theorem dX5_rank_52 : decode cX5_rank 52 = .ok (.iconst 1, 1) := by decide +kernel
theorem dX5_rank_53 : decode cX5_rank 53 = .ok (.ireturn, 1) := by decide +kernel
theorem dX5_rank_54 : decode cX5_rank 54 = .ok (.iconst 2, 1) := by decide +kernel
theorem dX5_rank_55 : decode cX5_rank 55 = .ok (.ireturn, 1) := by decide +kernel
theorem dX5_rank_56 : decode cX5_rank 56 = .ok (.iconst 3, 1) := by decide +kernel
theorem dX5_rank_57 : decode cX5_rank 57 = .ok (.ireturn, 1) := by decide +kernel
theorem dX5_rank_58 : decode cX5_rank 58 = .ok (.iconst 4, 1) := by decide +kernel
theorem dX5_rank_59 : decode cX5_rank 59 = .ok (.ireturn, 1) := by decide +kernel
theorem dX5_rank_60 : decode cX5_rank 60 = .ok (.iconst 5, 1) := by decide +kernel
theorem dX5_rank_61 : decode cX5_rank 61 = .ok (.ireturn, 1) := by decide +kernel
theorem dX5_rank_62 : decode cX5_rank 62 = .ok (.bipush 6, 2) := by decide +kernel
theorem dX5_rank_64 : decode cX5_rank 64 = .ok (.ireturn, 1) := by decide +kernel
theorem dX5_rank_65 : decode cX5_rank 65 = .ok (.bipush 7, 2) := by decide +kernel
theorem dX5_rank_67 : decode cX5_rank 67 = .ok (.ireturn, 1) := by decide +kernel
theorem dX5_rank_68 : decode cX5_rank 68 = .ok (.iconst 0, 1) := by decide +kernel
theorem dX5_rank_69 : decode cX5_rank 69 = .ok (.ireturn, 1) := by decide +kernel
theorem dX5_lays_0 : decode cX5_lays 0 = .ok (.aload_n 0, 1) := by decide +kernel
theorem dX5_lays_1 : decode cX5_lays 1 = .ok (.getfield 167, 3) := by decide +kernel
theorem dX5_lays_4 : decode cX5_lays 4 = .ok (.ifCond .le 85, 3) := by decide +kernel
theorem dX5_lays_7 : decode cX5_lays 7 = .ok (.aload_n 0, 1) := by decide +kernel
theorem dX5_lays_8 : decode cX5_lays 8 = .ok (.getfield 35, 3) := by decide +kernel
theorem dX5_lays_11 : decode cX5_lays 11 = .ok (.aload_n 0, 1) := by decide +kernel
theorem dX5_lays_12 : decode cX5_lays 12 = .ok (.getfield 167, 3) := by decide +kernel
theorem dX5_lays_15 : decode cX5_lays 15 = .ok (.iconst 1, 1) := by decide +kernel
theorem dX5_lays_16 : decode cX5_lays 16 = .ok (.isub, 1) := by decide +kernel
theorem dX5_lays_17 : decode cX5_lays 17 = .ok (.iaload, 1) := by decide +kernel
theorem dX5_lays_18 : decode cX5_lays 18 = .ok (.invokestatic 170, 3) := by decide +kernel
theorem dX5_lays_21 : decode cX5_lays 21 = .ok (.iload_n 1, 1) := by decide +kernel
theorem dX5_lays_22 : decode cX5_lays 22 = .ok (.if_icmp .lt 67, 3) := by decide +kernel
theorem dX5_lays_25 : decode cX5_lays 25 = .ok (.aload_n 0, 1) := by decide +kernel
theorem dX5_lays_26 : decode cX5_lays 26 = .ok (.dup, 1) := by decide +kernel
theorem dX5_lays_27 : decode cX5_lays 27 = .ok (.getfield 167, 3) := by decide +kernel
theorem dX5_lays_30 : decode cX5_lays 30 = .ok (.iconst 1, 1) := by decide +kernel
theorem dX5_lays_31 : decode cX5_lays 31 = .ok (.isub, 1) := by decide +kernel
theorem dX5_lays_32 : decode cX5_lays 32 = .ok (.putfield 167, 3) := by decide +kernel
theorem dX5_lays_35 : decode cX5_lays 35 = .ok (.aload_n 0, 1) := by decide +kernel
theorem dX5_lays_36 : decode cX5_lays 36 = .ok (.aload_n 0, 1) := by decide +kernel
theorem dX5_lays_37 : decode cX5_lays 37 = .ok (.getfield 35, 3) := by decide +kernel
theorem dX5_lays_40 : decode cX5_lays 40 = .ok (.aload_n 0, 1) := by decide +kernel
theorem dX5_lays_41 : decode cX5_lays 41 = .ok (.getfield 167, 3) := by decide +kernel
theorem dX5_lays_44 : decode cX5_lays 44 = .ok (.iaload, 1) := by decide +kernel
theorem dX5_lays_45 : decode cX5_lays 45 = .ok (.invokevirtual 72, 3) := by decide +kernel
theorem dX5_lays_48 : decode cX5_lays 48 = .ok (.aload_n 0, 1) := by decide +kernel
theorem dX5_lays_49 : decode cX5_lays 49 = .ok (.getfield 35, 3) := by decide +kernel
theorem dX5_lays_52 : decode cX5_lays 52 = .ok (.aload_n 0, 1) := by decide +kernel
theorem dX5_lays_53 : decode cX5_lays 53 = .ok (.getfield 167, 3) := by decide +kernel
theorem dX5_lays_56 : decode cX5_lays 56 = .ok (.iaload, 1) := by decide +kernel
theorem dX5_lays_57 : decode cX5_lays 57 = .ok (.bipush 13, 2) := by decide +kernel
theorem dX5_lays_59 : decode cX5_lays 59 = .ok (.if_icmp .eq 17, 3) := by decide +kernel
theorem dX5_lays_62 : decode cX5_lays 62 = .ok (.aload_n 0, 1) := by decide +kernel
theorem dX5_lays_63 : decode cX5_lays 63 = .ok (.getfield 35, 3) := by decide +kernel
theorem dX5_lays_66 : decode cX5_lays 66 = .ok (.aload_n 0, 1) := by decide +kernel
theorem dX5_lays_67 : decode cX5_lays 67 = .ok (.getfield 167, 3) := by decide +kernel
theorem dX5_lays_70 : decode cX5_lays 70 = .ok (.iaload, 1) := by decide +kernel
theorem dX5_lays_71 : decode cX5_lays 71 = .ok (.bipush 14, 2) := by decide +kernel
theorem dX5_lays_73 : decode cX5_lays 73 = .ok (.if_icmp .ne (-73), 3) := by decide +kernel
theorem dX5_lays_76 : decode cX5_lays 76 = .ok (.aload_n 0, 1) := by decide +kernel
theorem dX5_lays_77 : decode cX5_lays 77 = .ok (.dup, 1) := by decide +kernel
theorem dX5_lays_78 : decode cX5_lays 78 = .ok (.getfield 173, 3) := by decide +kernel
theorem dX5_lays_81 : decode cX5_lays 81 = .ok (.iconst 1, 1) := by decide +kernel
theorem dX5_lays_82 : decode cX5_lays 82 = .ok (.isub, 1) := by decide +kernel
theorem dX5_lays_83 : decode cX5_lays 83 = .ok (.putfield 173, 3) := by decide +kernel
theorem dX5_lays_86 : decode cX5_lays 86 = .ok (.goto (-86), 3) := by decide +kernel
theorem dX5_lays_89 : decode cX5_lays 89 = .ok (.return_, 1) := by decide +kernel
theorem dX5_push_0 : decode cX5_push 0 = .ok (.aload_n 0, 1) := by decide +kernel
theorem dX5_push_1 : decode cX5_push 1 = .ok (.getfield 35, 3) := by decide +kernel
theorem dX5_push_4 : decode cX5_push 4 = .ok (.aload_n 0, 1) := by decide +kernel
theorem dX5_push_5 : decode cX5_push 5 = .ok (.dup, 1) := by decide +kernel
theorem dX5_push_6 : decode cX5_push 6 = .ok (.getfield 167, 3) := by decide +kernel
theorem dX5_push_9 : decode cX5_push 9 = .ok (.dup_x1, 1) := by decide +kernel
theorem dX5_push_10 : decode cX5_push 10 = .ok (.iconst 1, 1) := by decide +kernel
theorem dX5_push_11 : decode cX5_push 11 = .ok (.iadd, 1) := by decide +kernel
theorem dX5_push_12 : decode cX5_push 12 = .ok (.putfield 167, 3) := by decide +kernel
theorem dX5_push_15 : decode cX5_push 15 = .ok (.iload_n 1, 1) := by decide +kernel
theorem dX5_push_16 : decode cX5_push 16 = .ok (.iastore, 1) := by decide +kernel
theorem dX5_push_17 : decode cX5_push 17 = .ok (.iload_n 1, 1) := by decide +kernel
theorem dX5_push_18 : decode cX5_push 18 = .ok (.bipush 13, 2) := by decide +kernel
theorem dX5_push_20 : decode cX5_push 20 = .ok (.if_icmp .eq 16, 3) := by decide +kernel
theorem dX5_push_23 : decode cX5_push 23 = .ok (.iload_n 1, 1) := by decide +kernel
theorem dX5_push_24 : decode cX5_push 24 = .ok (.bipush 14, 2) := by decide +kernel
theorem dX5_push_26 : decode cX5_push 26 = .ok (.if_icmp .eq 10, 3) := by decide +kernel
theorem dX5_push_29 : decode cX5_push 29 = .ok (.iload_n 1, 1) := by decide +kernel
theorem dX5_push_30 : decode cX5_push 30 = .ok (.invokestatic 170, 3) := by decide +kernel
theorem dX5_push_33 : decode cX5_push 33 = .ok (.ifCond .ne 13, 3) := by decide +kernel
theorem dX5_push_36 : decode cX5_push 36 = .ok (.aload_n 0, 1) := by decide +kernel
theorem dX5_push_37 : decode cX5_push 37 = .ok (.dup, 1) := by decide +kernel
theorem dX5_push_38 : decode cX5_push 38 = .ok (.getfield 173, 3) := by decide +kernel
theorem dX5_push_41 : decode cX5_push 41 = .ok (.iconst 1, 1) := by decide +kernel
theorem dX5_push_42 : decode cX5_push 42 = .ok (.iadd, 1) := by decide +kernel
theorem dX5_push_43 : decode cX5_push 43 = .ok (.putfield 173, 3) := by decide +kernel
theorem dX5_push_46 : decode cX5_push 46 = .ok (.return_, 1) := by decide +kernel
theorem dX5_one_0 : decode cX5_one 0 = .ok (.aload_n 0, 1) := by decide +kernel
theorem dX5_one_1 : decode cX5_one 1 = .ok (.getfield 138, 3) := by decide +kernel
theorem dX5_one_4 : decode cX5_one 4 = .ok (.bipush 119, 2) := by decide +kernel
theorem dX5_one_6 : decode cX5_one 6 = .ok (.if_icmp .ne 10, 3) := by decide +kernel
theorem dX5_one_9 : decode cX5_one 9 = .ok (.aload_n 0, 1) := by decide +kernel
theorem dX5_one_10 : decode cX5_one 10 = .ok (.invokevirtual 144, 3) := by decide +kernel
theorem dX5_one_13 : decode cX5_one 13 = .ok (.goto 4, 3) := by decide +kernel
theorem dX5_one_16 : decode cX5_one 16 = .ok (.iconst (-1), 1) := by decide +kernel
theorem dX5_one_17 : decode cX5_one 17 = .ok (.istore_n 2, 1) := by decide +kernel
theorem dX5_one_18 : decode cX5_one 18 = .ok (.aload_n 0, 1) := by decide +kernel
theorem dX5_one_19 : decode cX5_one 19 = .ok (.getfield 138, 3) := by decide +kernel
theorem dX5_one_22 : decode cX5_one 22 = .ok (.bipush 48, 2) := by decide +kernel
theorem dX5_one_24 : decode cX5_one 24 = .ok (.if_icmp .eq 8, 3) := by decide +kernel
theorem dX5_one_27 : decode cX5_one 27 = .ok (.iload_n 2, 1) := by decide +kernel
theorem dX5_one_28 : decode cX5_one 28 = .ok (.iconst (-1), 1) := by decide +kernel
theorem dX5_one_29 : decode cX5_one 29 = .ok (.if_icmp .eq 36, 3) := by decide +kernel
theorem dX5_one_32 : decode cX5_one 32 = .ok (.aload_n 0, 1) := by decide +kernel
theorem dX5_one_33 : decode cX5_one 33 = .ok (.iload_n 2, 1) := by decide +kernel
theorem dX5_one_34 : decode cX5_one 34 = .ok (.iconst (-1), 1) := by decide +kernel
theorem dX5_one_35 : decode cX5_one 35 = .ok (.if_icmp .ne 13, 3) := by decide +kernel
theorem dX5_one_38 : decode cX5_one 38 = .ok (.bipush 15, 2) := by decide +kernel
theorem dX5_one_40 : decode cX5_one 40 = .ok (.aload_n 0, 1) := by decide +kernel
theorem dX5_one_41 : decode cX5_one 41 = .ok (.getfield 155, 3) := by decide +kernel
theorem dX5_one_44 : decode cX5_one 44 = .ok (.iadd, 1) := by decide +kernel
theorem dX5_one_45 : decode cX5_one 45 = .ok (.goto 4, 3) := by decide +kernel
theorem dX5_one_48 : decode cX5_one 48 = .ok (.iload_n 2, 1) := by decide +kernel
theorem dX5_one_49 : decode cX5_one 49 = .ok (.invokevirtual 72, 3) := by decide +kernel
theorem dX5_one_52 : decode cX5_one 52 = .ok (.aload_n 0, 1) := by decide +kernel
theorem dX5_one_53 : decode cX5_one 53 = .ok (.bipush 7, 2) := by decide +kernel
theorem dX5_one_55 : decode cX5_one 55 = .ok (.invokevirtual 176, 3) := by decide +kernel
theorem dX5_one_58 : decode cX5_one 58 = .ok (.aload_n 0, 1) := by decide +kernel
theorem dX5_one_59 : decode cX5_one 59 = .ok (.iconst 1, 1) := by decide +kernel
theorem dX5_one_60 : decode cX5_one 60 = .ok (.putfield 179, 3) := by decide +kernel
theorem dX5_one_63 : decode cX5_one 63 = .ok (.iconst 1, 1) := by decide +kernel
theorem dX5_one_64 : decode cX5_one 64 = .ok (.ireturn, 1) := by decide +kernel
theorem dX5_one_65 : decode cX5_one 65 = .ok (.iload_n 1, 1) := by decide +kernel
theorem dX5_one_66 : decode cX5_one 66 = .ok (.ifCond .eq 26, 3) := by decide +kernel
theorem dX5_one_69 : decode cX5_one 69 = .ok (.aload_n 0, 1) := by decide +kernel
theorem dX5_one_70 : decode cX5_one 70 = .ok (.getfield 138, 3) := by decide +kernel
theorem dX5_one_73 : decode cX5_one 73 = .ok (.bipush 119, 2) := by decide +kernel
theorem dX5_one_75 : decode cX5_one 75 = .ok (.if_icmp .ne 17, 3) := by decide +kernel
theorem dX5_one_78 : decode cX5_one 78 = .ok (.aload_n 0, 1) := by decide +kernel
theorem dX5_one_79 : decode cX5_one 79 = .ok (.getfield 129, 3) := by decide +kernel
theorem dX5_one_82 : decode cX5_one 82 = .ok (.sipush 10631, 3) := by decide +kernel
theorem dX5_one_85 : decode cX5_one 85 = .ok (.if_icmp .ne 7, 3) := by decide +kernel
theorem dX5_one_88 : decode cX5_one 88 = .ok (.iconst 1, 1) := by decide +kernel
theorem dX5_one_89 : decode cX5_one 89 = .ok (.goto 4, 3) := by decide +kernel
theorem dX5_one_92 : decode cX5_one 92 = .ok (.iconst 0, 1) := by decide +kernel
theorem dX5_one_93 : decode cX5_one 93 = .ok (.istore_n 3, 1) := by decide +kernel
theorem dX5_one_94 : decode cX5_one 94 = .ok (.iload_n 3, 1) := by decide +kernel
theorem dX5_one_95 : decode cX5_one 95 = .ok (.ifCond .ne 21, 3) := by decide +kernel
theorem dX5_one_98 : decode cX5_one 98 = .ok (.aload_n 0, 1) := by decide +kernel
theorem dX5_one_99 : decode cX5_one 99 = .ok (.getfield 138, 3) := by decide +kernel
theorem dX5_one_102 : decode cX5_one 102 = .ok (.bipush 45, 2) := by decide +kernel
theorem dX5_one_104 : decode cX5_one 104 = .ok (.if_icmp .eq 12, 3) := by decide +kernel
theorem dX5_one_107 : decode cX5_one 107 = .ok (.aload_n 0, 1) := by decide +kernel
theorem dX5_one_108 : decode cX5_one 108 = .ok (.getfield 138, 3) := by decide +kernel
theorem dX5_one_111 : decode cX5_one 111 = .ok (.bipush 40, 2) := by decide +kernel
theorem dX5_one_113 : decode cX5_one 113 = .ok (.if_icmp .ne 11, 3) := by decide +kernel
theorem dX5_one_116 : decode cX5_one 116 = .ok (.aload_n 0, 1) := by decide +kernel
theorem dX5_one_117 : decode cX5_one 117 = .ok (.getfield 173, 3) := by decide +kernel
theorem dX5_one_120 : decode cX5_one 120 = .ok (.iconst 5, 1) := by decide +kernel
theorem dX5_one_121 : decode cX5_one 121 = .ok (.if_icmp .ne 5, 3) := by decide +kernel
theorem dX5_one_124 : decode cX5_one 124 = .ok (.iconst 0, 1) := by decide +kernel
theorem dX5_one_125 : decode cX5_one 125 = .ok (.ireturn, 1) := by decide +kernel
theorem dX5_one_126 : decode cX5_one 126 = .ok (.aload_n 0, 1) := by decide +kernel
theorem dX5_one_127 : decode cX5_one 127 = .ok (.getfield 138, 3) := by decide +kernel
theorem dX5_one_130 : decode cX5_one 130 = .ok (.bipush 40, 2) := by decide +kernel
theorem dX5_one_132 : decode cX5_one 132 = .ok (.if_icmp .ne 28, 3) := by decide +kernel
theorem dX5_one_135 : decode cX5_one 135 = .ok (.aload_n 0, 1) := by decide +kernel
theorem dX5_one_136 : decode cX5_one 136 = .ok (.aload_n 0, 1) := by decide +kernel
theorem dX5_one_137 : decode cX5_one 137 = .ok (.getfield 183, 3) := by decide +kernel
theorem dX5_one_140 : decode cX5_one 140 = .ok (.ifCond .eq 8, 3) := by decide +kernel
theorem dX5_one_143 : decode cX5_one 143 = .ok (.bipush (-2), 2) := by decide +kernel
theorem dX5_one_145 : decode cX5_one 145 = .ok (.goto 4, 3) := by decide +kernel
theorem dX5_one_148 : decode cX5_one 148 = .ok (.iconst (-1), 1) := by decide +kernel
theorem dX5_one_149 : decode cX5_one 149 = .ok (.invokevirtual 186, 3) := by decide +kernel
theorem dX5_one_152 : decode cX5_one 152 = .ok (.aload_n 0, 1) := by decide +kernel
theorem dX5_one_153 : decode cX5_one 153 = .ok (.iconst 0, 1) := by decide +kernel
theorem dX5_one_154 : decode cX5_one 154 = .ok (.putfield 183, 3) := by decide +kernel
theorem dX5_one_157 : decode cX5_one 157 = .ok (.goto 18, 3) := by decide +kernel
theorem dX5_one_160 : decode cX5_one 160 = .ok (.aload_n 0, 1) := by decide +kernel
theorem dX5_one_161 : decode cX5_one 161 = .ok (.iload_n 3, 1) := by decide +kernel
theorem dX5_one_162 : decode cX5_one 162 = .ok (.ifCond .eq 8, 3) := by decide +kernel
theorem dX5_one_165 : decode cX5_one 165 = .ok (.bipush 13, 2) := by decide +kernel
theorem dX5_one_167 : decode cX5_one 167 = .ok (.goto 5, 3) := by decide +kernel
theorem dX5_one_170 : decode cX5_one 170 = .ok (.bipush 14, 2) := by decide +kernel
theorem dX5_one_172 : decode cX5_one 172 = .ok (.invokevirtual 186, 3) := by decide +kernel
theorem dX5_one_175 : decode cX5_one 175 = .ok (.aload_n 0, 1) := by decide +kernel
theorem dX5_one_176 : decode cX5_one 176 = .ok (.aload_n 0, 1) := by decide +kernel
theorem dX5_one_177 : decode cX5_one 177 = .ok (.getfield 138, 3) := by decide +kernel
theorem dX5_one_180 : decode cX5_one 180 = .ok (.bipush 45, 2) := by decide +kernel
theorem dX5_one_182 : decode cX5_one 182 = .ok (.if_icmp .eq 7, 3) := by decide +kernel
theorem dX5_one_185 : decode cX5_one 185 = .ok (.iconst 1, 1) := by decide +kernel
theorem dX5_one_186 : decode cX5_one 186 = .ok (.goto 4, 3) := by decide +kernel
theorem dX5_one_189 : decode cX5_one 189 = .ok (.iconst 0, 1) := by decide +kernel
theorem dX5_one_190 : decode cX5_one 190 = .ok (.putfield 189, 3) := by decide +kernel
theorem dX5_one_193 : decode cX5_one 193 = .ok (.iconst 1, 1) := by decide +kernel
theorem dX5_one_194 : decode cX5_one 194 = .ok (.ireturn, 1) := by decide +kernel
theorem dX5_signed_0 : decode cX5_signed 0 = .ok (.aload_n 0, 1) := by decide +kernel
theorem dX5_signed_1 : decode cX5_signed 1 = .ok (.getfield 138, 3) := by decide +kernel
theorem dX5_signed_4 : decode cX5_signed 4 = .ok (.lookupswitch 129 #[(42, 60), (43, 63), (45, 66), (60, 69), (61, 83), (119, 97)], 60) := by decide +kernel
theorem dX5_signed_64 : decode cX5_signed 64 = .ok (.bipush 8, 2) := by decide +kernel
theorem dX5_signed_66 : decode cX5_signed 66 = .ok (.ireturn, 1) := by decide +kernel
theorem dX5_signed_67 : decode cX5_signed 67 = .ok (.bipush 6, 2) := by decide +kernel
theorem dX5_signed_69 : decode cX5_signed 69 = .ok (.ireturn, 1) := by decide +kernel
theorem dX5_signed_70 : decode cX5_signed 70 = .ok (.bipush 7, 2) := by decide +kernel
theorem dX5_signed_72 : decode cX5_signed 72 = .ok (.ireturn, 1) := by decide +kernel
theorem dX5_signed_73 : decode cX5_signed 73 = .ok (.aload_n 0, 1) := by decide +kernel
theorem dX5_signed_74 : decode cX5_signed 74 = .ok (.getfield 183, 3) := by decide +kernel
theorem dX5_signed_77 : decode cX5_signed 77 = .ok (.ifCond .eq 7, 3) := by decide +kernel
theorem dX5_signed_80 : decode cX5_signed 80 = .ok (.iconst (-1), 1) := by decide +kernel
theorem dX5_signed_81 : decode cX5_signed 81 = .ok (.goto 5, 3) := by decide +kernel
theorem dX5_signed_84 : decode cX5_signed 84 = .ok (.bipush 9, 2) := by decide +kernel
theorem dX5_signed_86 : decode cX5_signed 86 = .ok (.ireturn, 1) := by decide +kernel
theorem dX5_signed_87 : decode cX5_signed 87 = .ok (.aload_n 0, 1) := by decide +kernel
theorem dX5_signed_88 : decode cX5_signed 88 = .ok (.getfield 183, 3) := by decide +kernel
theorem dX5_signed_91 : decode cX5_signed 91 = .ok (.ifCond .eq 7, 3) := by decide +kernel
theorem dX5_signed_94 : decode cX5_signed 94 = .ok (.iconst (-1), 1) := by decide +kernel
theorem dX5_signed_95 : decode cX5_signed 95 = .ok (.goto 5, 3) := by decide +kernel
theorem dX5_signed_98 : decode cX5_signed 98 = .ok (.bipush 10, 2) := by decide +kernel
theorem dX5_signed_100 : decode cX5_signed 100 = .ok (.ireturn, 1) := by decide +kernel
theorem dX5_signed_101 : decode cX5_signed 101 = .ok (.aload_n 0, 1) := by decide +kernel
theorem dX5_signed_102 : decode cX5_signed 102 = .ok (.getfield 129, 3) := by decide +kernel
theorem dX5_signed_105 : decode cX5_signed 105 = .ok (.sipush 1111, 3) := by decide +kernel
theorem dX5_signed_108 : decode cX5_signed 108 = .ok (.if_icmp .ne 8, 3) := by decide +kernel
theorem dX5_signed_111 : decode cX5_signed 111 = .ok (.bipush 11, 2) := by decide +kernel
theorem dX5_signed_113 : decode cX5_signed 113 = .ok (.goto 19, 3) := by decide +kernel
theorem dX5_signed_116 : decode cX5_signed 116 = .ok (.aload_n 0, 1) := by decide +kernel
theorem dX5_signed_117 : decode cX5_signed 117 = .ok (.getfield 129, 3) := by decide +kernel
theorem dX5_signed_120 : decode cX5_signed 120 = .ok (.sipush 423, 3) := by decide +kernel
theorem dX5_signed_123 : decode cX5_signed 123 = .ok (.if_icmp .ne 8, 3) := by decide +kernel
theorem dX5_signed_126 : decode cX5_signed 126 = .ok (.bipush 12, 2) := by decide +kernel
theorem dX5_signed_128 : decode cX5_signed 128 = .ok (.goto 4, 3) := by decide +kernel
theorem dX5_signed_131 : decode cX5_signed 131 = .ok (.iconst (-1), 1) := by decide +kernel
theorem dX5_signed_132 : decode cX5_signed 132 = .ok (.ireturn, 1) := by decide +kernel
theorem dX5_signed_133 : decode cX5_signed 133 = .ok (.iconst (-1), 1) := by decide +kernel
theorem dX5_signed_134 : decode cX5_signed 134 = .ok (.ireturn, 1) := by decide +kernel
theorem dX5_closes_0 : decode cX5_closes 0 = .ok (.aload_n 0, 1) := by decide +kernel
theorem dX5_closes_1 : decode cX5_closes 1 = .ok (.iconst 1, 1) := by decide +kernel
theorem dX5_closes_2 : decode cX5_closes 2 = .ok (.invokevirtual 176, 3) := by decide +kernel
theorem dX5_closes_5 : decode cX5_closes 5 = .ok (.aload_n 0, 1) := by decide +kernel
theorem dX5_closes_6 : decode cX5_closes 6 = .ok (.getfield 167, 3) := by decide +kernel
theorem dX5_closes_9 : decode cX5_closes 9 = .ok (.ifCond .ne 5, 3) := by decide +kernel
theorem dX5_closes_12 : decode cX5_closes 12 = .ok (.iconst 0, 1) := by decide +kernel
theorem dX5_closes_13 : decode cX5_closes 13 = .ok (.ireturn, 1) := by decide +kernel
theorem dX5_closes_14 : decode cX5_closes 14 = .ok (.aload_n 0, 1) := by decide +kernel
theorem dX5_closes_15 : decode cX5_closes 15 = .ok (.dup, 1) := by decide +kernel
theorem dX5_closes_16 : decode cX5_closes 16 = .ok (.getfield 167, 3) := by decide +kernel
theorem dX5_closes_19 : decode cX5_closes 19 = .ok (.iconst 1, 1) := by decide +kernel
theorem dX5_closes_20 : decode cX5_closes 20 = .ok (.isub, 1) := by decide +kernel
theorem dX5_closes_21 : decode cX5_closes 21 = .ok (.putfield 167, 3) := by decide +kernel
theorem dX5_closes_24 : decode cX5_closes 24 = .ok (.aload_n 0, 1) := by decide +kernel
theorem dX5_closes_25 : decode cX5_closes 25 = .ok (.aload_n 0, 1) := by decide +kernel
theorem dX5_closes_26 : decode cX5_closes 26 = .ok (.getfield 35, 3) := by decide +kernel
theorem dX5_closes_29 : decode cX5_closes 29 = .ok (.aload_n 0, 1) := by decide +kernel
theorem dX5_closes_30 : decode cX5_closes 30 = .ok (.getfield 167, 3) := by decide +kernel
theorem dX5_closes_33 : decode cX5_closes 33 = .ok (.iaload, 1) := by decide +kernel
theorem dX5_closes_34 : decode cX5_closes 34 = .ok (.bipush (-2), 2) := by decide +kernel
theorem dX5_closes_36 : decode cX5_closes 36 = .ok (.if_icmp .ne 7, 3) := by decide +kernel
theorem dX5_closes_39 : decode cX5_closes 39 = .ok (.iconst 1, 1) := by decide +kernel
theorem dX5_closes_40 : decode cX5_closes 40 = .ok (.goto 4, 3) := by decide +kernel
theorem dX5_closes_43 : decode cX5_closes 43 = .ok (.iconst 0, 1) := by decide +kernel
theorem dX5_closes_44 : decode cX5_closes 44 = .ok (.putfield 183, 3) := by decide +kernel
theorem dX5_closes_47 : decode cX5_closes 47 = .ok (.aload_n 0, 1) := by decide +kernel
theorem dX5_closes_48 : decode cX5_closes 48 = .ok (.dup, 1) := by decide +kernel
theorem dX5_closes_49 : decode cX5_closes 49 = .ok (.getfield 173, 3) := by decide +kernel
theorem dX5_closes_52 : decode cX5_closes 52 = .ok (.iconst 1, 1) := by decide +kernel
theorem dX5_closes_53 : decode cX5_closes 53 = .ok (.isub, 1) := by decide +kernel
theorem dX5_closes_54 : decode cX5_closes 54 = .ok (.putfield 173, 3) := by decide +kernel
theorem dX5_closes_57 : decode cX5_closes 57 = .ok (.aload_n 0, 1) := by decide +kernel
theorem dX5_closes_58 : decode cX5_closes 58 = .ok (.bipush 7, 2) := by decide +kernel
theorem dX5_closes_60 : decode cX5_closes 60 = .ok (.invokevirtual 176, 3) := by decide +kernel
theorem dX5_closes_63 : decode cX5_closes 63 = .ok (.iconst 1, 1) := by decide +kernel
theorem dX5_closes_64 : decode cX5_closes 64 = .ok (.ireturn, 1) := by decide +kernel
theorem dX5_goesOn_0 : decode cX5_goesOn 0 = .ok (.aload_n 0, 1) := by decide +kernel
theorem dX5_goesOn_1 : decode cX5_goesOn 1 = .ok (.getfield 179, 3) := by decide +kernel
theorem dX5_goesOn_4 : decode cX5_goesOn 4 = .ok (.ifCond .ne 12, 3) := by decide +kernel
theorem dX5_goesOn_7 : decode cX5_goesOn 7 = .ok (.aload_n 0, 1) := by decide +kernel
theorem dX5_goesOn_8 : decode cX5_goesOn 8 = .ok (.aload_n 0, 1) := by decide +kernel
theorem dX5_goesOn_9 : decode cX5_goesOn 9 = .ok (.getfield 189, 3) := by decide +kernel
theorem dX5_goesOn_12 : decode cX5_goesOn 12 = .ok (.invokevirtual 192, 3) := by decide +kernel
theorem dX5_goesOn_15 : decode cX5_goesOn 15 = .ok (.ireturn, 1) := by decide +kernel
theorem dX5_goesOn_16 : decode cX5_goesOn 16 = .ok (.aload_n 0, 1) := by decide +kernel
theorem dX5_goesOn_17 : decode cX5_goesOn 17 = .ok (.getfield 138, 3) := by decide +kernel
theorem dX5_goesOn_20 : decode cX5_goesOn 20 = .ok (.bipush 41, 2) := by decide +kernel
theorem dX5_goesOn_22 : decode cX5_goesOn 22 = .ok (.if_icmp .ne 8, 3) := by decide +kernel
theorem dX5_goesOn_25 : decode cX5_goesOn 25 = .ok (.aload_n 0, 1) := by decide +kernel
theorem dX5_goesOn_26 : decode cX5_goesOn 26 = .ok (.invokevirtual 196, 3) := by decide +kernel
theorem dX5_goesOn_29 : decode cX5_goesOn 29 = .ok (.ireturn, 1) := by decide +kernel
theorem dX5_goesOn_30 : decode cX5_goesOn 30 = .ok (.aload_n 0, 1) := by decide +kernel
theorem dX5_goesOn_31 : decode cX5_goesOn 31 = .ok (.invokevirtual 199, 3) := by decide +kernel
theorem dX5_goesOn_34 : decode cX5_goesOn 34 = .ok (.istore_n 1, 1) := by decide +kernel
theorem dX5_goesOn_35 : decode cX5_goesOn 35 = .ok (.iload_n 1, 1) := by decide +kernel
theorem dX5_goesOn_36 : decode cX5_goesOn 36 = .ok (.iconst (-1), 1) := by decide +kernel
theorem dX5_goesOn_37 : decode cX5_goesOn 37 = .ok (.if_icmp .ne 5, 3) := by decide +kernel
theorem dX5_goesOn_40 : decode cX5_goesOn 40 = .ok (.iconst 0, 1) := by decide +kernel
theorem dX5_goesOn_41 : decode cX5_goesOn 41 = .ok (.ireturn, 1) := by decide +kernel
theorem dX5_goesOn_42 : decode cX5_goesOn 42 = .ok (.aload_n 0, 1) := by decide +kernel
theorem dX5_goesOn_43 : decode cX5_goesOn 43 = .ok (.iload_n 1, 1) := by decide +kernel
theorem dX5_goesOn_44 : decode cX5_goesOn 44 = .ok (.invokestatic 170, 3) := by decide +kernel
theorem dX5_goesOn_47 : decode cX5_goesOn 47 = .ok (.invokevirtual 176, 3) := by decide +kernel
theorem dX5_goesOn_50 : decode cX5_goesOn 50 = .ok (.aload_n 0, 1) := by decide +kernel
theorem dX5_goesOn_51 : decode cX5_goesOn 51 = .ok (.iload_n 1, 1) := by decide +kernel
theorem dX5_goesOn_52 : decode cX5_goesOn 52 = .ok (.invokevirtual 186, 3) := by decide +kernel
theorem dX5_goesOn_55 : decode cX5_goesOn 55 = .ok (.aload_n 0, 1) := by decide +kernel
theorem dX5_goesOn_56 : decode cX5_goesOn 56 = .ok (.iconst 0, 1) := by decide +kernel
theorem dX5_goesOn_57 : decode cX5_goesOn 57 = .ok (.putfield 179, 3) := by decide +kernel
theorem dX5_goesOn_60 : decode cX5_goesOn 60 = .ok (.aload_n 0, 1) := by decide +kernel
theorem dX5_goesOn_61 : decode cX5_goesOn 61 = .ok (.iload_n 1, 1) := by decide +kernel
theorem dX5_goesOn_62 : decode cX5_goesOn 62 = .ok (.invokestatic 170, 3) := by decide +kernel
theorem dX5_goesOn_65 : decode cX5_goesOn 65 = .ok (.iconst 3, 1) := by decide +kernel
theorem dX5_goesOn_66 : decode cX5_goesOn 66 = .ok (.if_icmp .ge 7, 3) := by decide +kernel
theorem dX5_goesOn_69 : decode cX5_goesOn 69 = .ok (.iconst 1, 1) := by decide +kernel
theorem dX5_goesOn_70 : decode cX5_goesOn 70 = .ok (.goto 4, 3) := by decide +kernel
theorem dX5_goesOn_73 : decode cX5_goesOn 73 = .ok (.iconst 0, 1) := by decide +kernel
theorem dX5_goesOn_74 : decode cX5_goesOn 74 = .ok (.putfield 189, 3) := by decide +kernel
theorem dX5_goesOn_77 : decode cX5_goesOn 77 = .ok (.aload_n 0, 1) := by decide +kernel
theorem dX5_goesOn_78 : decode cX5_goesOn 78 = .ok (.getfield 189, 3) := by decide +kernel
theorem dX5_goesOn_81 : decode cX5_goesOn 81 = .ok (.ifCond .eq 11, 3) := by decide +kernel
theorem dX5_goesOn_84 : decode cX5_goesOn 84 = .ok (.aload_n 0, 1) := by decide +kernel
theorem dX5_goesOn_85 : decode cX5_goesOn 85 = .ok (.iconst 0, 1) := by decide +kernel
theorem dX5_goesOn_86 : decode cX5_goesOn 86 = .ok (.putfield 183, 3) := by decide +kernel
theorem dX5_goesOn_89 : decode cX5_goesOn 89 = .ok (.goto 16, 3) := by decide +kernel
theorem dX5_goesOn_92 : decode cX5_goesOn 92 = .ok (.iload_n 1, 1) := by decide +kernel
theorem dX5_goesOn_93 : decode cX5_goesOn 93 = .ok (.invokestatic 170, 3) := by decide +kernel
theorem dX5_goesOn_96 : decode cX5_goesOn 96 = .ok (.iconst 4, 1) := by decide +kernel
theorem dX5_goesOn_97 : decode cX5_goesOn 97 = .ok (.if_icmp .ne 8, 3) := by decide +kernel
theorem dX5_goesOn_100 : decode cX5_goesOn 100 = .ok (.aload_n 0, 1) := by decide +kernel
theorem dX5_goesOn_101 : decode cX5_goesOn 101 = .ok (.iconst 1, 1) := by decide +kernel
theorem dX5_goesOn_102 : decode cX5_goesOn 102 = .ok (.putfield 183, 3) := by decide +kernel
theorem dX5_goesOn_105 : decode cX5_goesOn 105 = .ok (.iconst 1, 1) := by decide +kernel
theorem dX5_goesOn_106 : decode cX5_goesOn 106 = .ok (.ireturn, 1) := by decide +kernel
theorem dX5_part_0 : decode cX5_part 0 = .ok (.aload_n 0, 1) := by decide +kernel
theorem dX5_part_1 : decode cX5_part 1 = .ok (.iload_n 2, 1) := by decide +kernel
theorem dX5_part_2 : decode cX5_part 2 = .ok (.invokevirtual 202, 3) := by decide +kernel
theorem dX5_part_5 : decode cX5_part 5 = .ok (.ifCond .ne 5, 3) := by decide +kernel
theorem dX5_part_8 : decode cX5_part 8 = .ok (.iconst 0, 1) := by decide +kernel
theorem dX5_part_9 : decode cX5_part 9 = .ok (.ireturn, 1) := by decide +kernel
theorem dX5_part_10 : decode cX5_part 10 = .ok (.aload_n 0, 1) := by decide +kernel
theorem dX5_part_11 : decode cX5_part 11 = .ok (.getfield 26, 3) := by decide +kernel
theorem dX5_part_14 : decode cX5_part 14 = .ok (.iload_n 1, 1) := by decide +kernel
theorem dX5_part_15 : decode cX5_part 15 = .ok (.aload_n 0, 1) := by decide +kernel
theorem dX5_part_16 : decode cX5_part 16 = .ok (.getfield 164, 3) := by decide +kernel
theorem dX5_part_19 : decode cX5_part 19 = .ok (.iastore, 1) := by decide +kernel
theorem dX5_part_20 : decode cX5_part 20 = .ok (.aload_n 0, 1) := by decide +kernel
theorem dX5_part_21 : decode cX5_part 21 = .ok (.iconst 0, 1) := by decide +kernel
theorem dX5_part_22 : decode cX5_part 22 = .ok (.putfield 167, 3) := by decide +kernel
theorem dX5_part_25 : decode cX5_part 25 = .ok (.aload_n 0, 1) := by decide +kernel
theorem dX5_part_26 : decode cX5_part 26 = .ok (.iconst 0, 1) := by decide +kernel
theorem dX5_part_27 : decode cX5_part 27 = .ok (.putfield 173, 3) := by decide +kernel
theorem dX5_part_30 : decode cX5_part 30 = .ok (.aload_n 0, 1) := by decide +kernel
theorem dX5_part_31 : decode cX5_part 31 = .ok (.iconst 0, 1) := by decide +kernel
theorem dX5_part_32 : decode cX5_part 32 = .ok (.putfield 183, 3) := by decide +kernel
theorem dX5_part_35 : decode cX5_part 35 = .ok (.aload_n 0, 1) := by decide +kernel
theorem dX5_part_36 : decode cX5_part 36 = .ok (.iconst 0, 1) := by decide +kernel
theorem dX5_part_37 : decode cX5_part 37 = .ok (.putfield 179, 3) := by decide +kernel
theorem dX5_part_40 : decode cX5_part 40 = .ok (.aload_n 0, 1) := by decide +kernel
theorem dX5_part_41 : decode cX5_part 41 = .ok (.iconst 1, 1) := by decide +kernel
theorem dX5_part_42 : decode cX5_part 42 = .ok (.putfield 189, 3) := by decide +kernel
theorem dX5_part_45 : decode cX5_part 45 = .ok (.aload_n 0, 1) := by decide +kernel
theorem dX5_part_46 : decode cX5_part 46 = .ok (.getfield 179, 3) := by decide +kernel
theorem dX5_part_49 : decode cX5_part 49 = .ok (.ifCond .eq 12, 3) := by decide +kernel
theorem dX5_part_52 : decode cX5_part 52 = .ok (.aload_n 0, 1) := by decide +kernel
theorem dX5_part_53 : decode cX5_part 53 = .ok (.getfield 138, 3) := by decide +kernel
theorem dX5_part_56 : decode cX5_part 56 = .ok (.bipush 59, 2) := by decide +kernel
theorem dX5_part_58 : decode cX5_part 58 = .ok (.if_icmp .eq 19, 3) := by decide +kernel
theorem dX5_part_61 : decode cX5_part 61 = .ok (.aload_n 0, 1) := by decide +kernel
theorem dX5_part_62 : decode cX5_part 62 = .ok (.invokevirtual 205, 3) := by decide +kernel
theorem dX5_part_65 : decode cX5_part 65 = .ok (.ifCond .ne 5, 3) := by decide +kernel
theorem dX5_part_68 : decode cX5_part 68 = .ok (.iconst 0, 1) := by decide +kernel
theorem dX5_part_69 : decode cX5_part 69 = .ok (.ireturn, 1) := by decide +kernel
theorem dX5_part_70 : decode cX5_part 70 = .ok (.aload_n 0, 1) := by decide +kernel
theorem dX5_part_71 : decode cX5_part 71 = .ok (.invokevirtual 161, 3) := by decide +kernel
theorem dX5_part_74 : decode cX5_part 74 = .ok (.goto (-29), 3) := by decide +kernel
theorem dX5_part_77 : decode cX5_part 77 = .ok (.aload_n 0, 1) := by decide +kernel
theorem dX5_part_78 : decode cX5_part 78 = .ok (.iconst 1, 1) := by decide +kernel
theorem dX5_part_79 : decode cX5_part 79 = .ok (.invokevirtual 176, 3) := by decide +kernel
theorem dX5_part_82 : decode cX5_part 82 = .ok (.aload_n 0, 1) := by decide +kernel
theorem dX5_part_83 : decode cX5_part 83 = .ok (.getfield 167, 3) := by decide +kernel
theorem dX5_part_86 : decode cX5_part 86 = .ok (.ifCond .le 5, 3) := by decide +kernel
theorem dX5_part_89 : decode cX5_part 89 = .ok (.iconst 0, 1) := by decide +kernel
theorem dX5_part_90 : decode cX5_part 90 = .ok (.ireturn, 1) := by decide +kernel
theorem dX5_part_91 : decode cX5_part 91 = .ok (.aload_n 0, 1) := by decide +kernel
theorem dX5_part_92 : decode cX5_part 92 = .ok (.getfield 29, 3) := by decide +kernel
theorem dX5_part_95 : decode cX5_part 95 = .ok (.iload_n 1, 1) := by decide +kernel
theorem dX5_part_96 : decode cX5_part 96 = .ok (.aload_n 0, 1) := by decide +kernel
theorem dX5_part_97 : decode cX5_part 97 = .ok (.getfield 164, 3) := by decide +kernel
theorem dX5_part_100 : decode cX5_part 100 = .ok (.aload_n 0, 1) := by decide +kernel
theorem dX5_part_101 : decode cX5_part 101 = .ok (.getfield 26, 3) := by decide +kernel
theorem dX5_part_104 : decode cX5_part 104 = .ok (.iload_n 1, 1) := by decide +kernel
theorem dX5_part_105 : decode cX5_part 105 = .ok (.iaload, 1) := by decide +kernel
theorem dX5_part_106 : decode cX5_part 106 = .ok (.isub, 1) := by decide +kernel
theorem dX5_part_107 : decode cX5_part 107 = .ok (.iastore, 1) := by decide +kernel
theorem dX5_part_108 : decode cX5_part 108 = .ok (.aload_n 0, 1) := by decide +kernel
theorem dX5_part_109 : decode cX5_part 109 = .ok (.invokevirtual 161, 3) := by decide +kernel
theorem dX5_part_112 : decode cX5_part 112 = .ok (.iconst 1, 1) := by decide +kernel
theorem dX5_part_113 : decode cX5_part 113 = .ok (.ireturn, 1) := by decide +kernel
theorem dX5_text_0 : decode cX5_text 0 = .ok (.aload_n 0, 1) := by decide +kernel
theorem dX5_text_1 : decode cX5_text 1 = .ok (.getfield 76, 3) := by decide +kernel
theorem dX5_text_4 : decode cX5_text 4 = .ok (.bipush 6, 2) := by decide +kernel
theorem dX5_text_6 : decode cX5_text 6 = .ok (.if_icmp .ne 6, 3) := by decide +kernel
theorem dX5_text_9 : decode cX5_text 9 = .ok (.bipush (-4), 2) := by decide +kernel
theorem dX5_text_11 : decode cX5_text 11 = .ok (.ireturn, 1) := by decide +kernel
theorem dX5_text_12 : decode cX5_text 12 = .ok (.aload_n 0, 1) := by decide +kernel
theorem dX5_text_13 : decode cX5_text 13 = .ok (.getfield 164, 3) := by decide +kernel
theorem dX5_text_16 : decode cX5_text 16 = .ok (.istore_n 1, 1) := by decide +kernel
theorem dX5_text_17 : decode cX5_text 17 = .ok (.aload_n 0, 1) := by decide +kernel
theorem dX5_text_18 : decode cX5_text 18 = .ok (.iconst 0, 1) := by decide +kernel
theorem dX5_text_19 : decode cX5_text 19 = .ok (.putfield 132, 3) := by decide +kernel
theorem dX5_text_22 : decode cX5_text 22 = .ok (.aload_n 0, 1) := by decide +kernel
theorem dX5_text_23 : decode cX5_text 23 = .ok (.invokevirtual 161, 3) := by decide +kernel
theorem dX5_text_26 : decode cX5_text 26 = .ok (.aload_n 0, 1) := by decide +kernel
theorem dX5_text_27 : decode cX5_text 27 = .ok (.iconst 3, 1) := by decide +kernel
theorem dX5_text_28 : decode cX5_text 28 = .ok (.aload_n 0, 1) := by decide +kernel
theorem dX5_text_29 : decode cX5_text 29 = .ok (.getfield 76, 3) := by decide +kernel
theorem dX5_text_32 : decode cX5_text 32 = .ok (.imul, 1) := by decide +kernel
theorem dX5_text_33 : decode cX5_text 33 = .ok (.ldc 208, 2) := by decide +kernel
theorem dX5_text_35 : decode cX5_text 35 = .ok (.invokevirtual 209, 3) := by decide +kernel
theorem dX5_text_38 : decode cX5_text 38 = .ok (.ifCond .eq 50, 3) := by decide +kernel
theorem dX5_text_41 : decode cX5_text 41 = .ok (.aload_n 0, 1) := by decide +kernel
theorem dX5_text_42 : decode cX5_text 42 = .ok (.iconst 3, 1) := by decide +kernel
theorem dX5_text_43 : decode cX5_text 43 = .ok (.aload_n 0, 1) := by decide +kernel
theorem dX5_text_44 : decode cX5_text 44 = .ok (.getfield 76, 3) := by decide +kernel
theorem dX5_text_47 : decode cX5_text 47 = .ok (.imul, 1) := by decide +kernel
theorem dX5_text_48 : decode cX5_text 48 = .ok (.iconst 1, 1) := by decide +kernel
theorem dX5_text_49 : decode cX5_text 49 = .ok (.iadd, 1) := by decide +kernel
theorem dX5_text_50 : decode cX5_text 50 = .ok (.ldc 212, 2) := by decide +kernel
theorem dX5_text_52 : decode cX5_text 52 = .ok (.invokevirtual 209, 3) := by decide +kernel
theorem dX5_text_55 : decode cX5_text 55 = .ok (.ifCond .eq 33, 3) := by decide +kernel
theorem dX5_text_58 : decode cX5_text 58 = .ok (.aload_n 0, 1) := by decide +kernel
theorem dX5_text_59 : decode cX5_text 59 = .ok (.iconst 3, 1) := by decide +kernel
theorem dX5_text_60 : decode cX5_text 60 = .ok (.aload_n 0, 1) := by decide +kernel
theorem dX5_text_61 : decode cX5_text 61 = .ok (.getfield 76, 3) := by decide +kernel
theorem dX5_text_64 : decode cX5_text 64 = .ok (.imul, 1) := by decide +kernel
theorem dX5_text_65 : decode cX5_text 65 = .ok (.iconst 2, 1) := by decide +kernel
theorem dX5_text_66 : decode cX5_text 66 = .ok (.iadd, 1) := by decide +kernel
theorem dX5_text_67 : decode cX5_text 67 = .ok (.ldc 213, 2) := by decide +kernel
theorem dX5_text_69 : decode cX5_text 69 = .ok (.invokevirtual 209, 3) := by decide +kernel
theorem dX5_text_72 : decode cX5_text 72 = .ok (.ifCond .eq 16, 3) := by decide +kernel
theorem dX5_text_75 : decode cX5_text 75 = .ok (.aload_n 0, 1) := by decide +kernel
theorem dX5_text_76 : decode cX5_text 76 = .ok (.getfield 138, 3) := by decide +kernel
theorem dX5_text_79 : decode cX5_text 79 = .ok (.bipush 101, 2) := by decide +kernel
theorem dX5_text_81 : decode cX5_text 81 = .ok (.if_icmp .ne 7, 3) := by decide +kernel
theorem dX5_text_84 : decode cX5_text 84 = .ok (.iconst 1, 1) := by decide +kernel
theorem dX5_text_85 : decode cX5_text 85 = .ok (.goto 4, 3) := by decide +kernel
theorem dX5_text_88 : decode cX5_text 88 = .ok (.iconst 0, 1) := by decide +kernel
theorem dX5_text_89 : decode cX5_text 89 = .ok (.istore_n 2, 1) := by decide +kernel
theorem dX5_text_90 : decode cX5_text 90 = .ok (.aload_n 0, 1) := by decide +kernel
theorem dX5_text_91 : decode cX5_text 91 = .ok (.iconst 0, 1) := by decide +kernel
theorem dX5_text_92 : decode cX5_text 92 = .ok (.putfield 126, 3) := by decide +kernel
theorem dX5_text_95 : decode cX5_text 95 = .ok (.iload_n 2, 1) := by decide +kernel
theorem dX5_text_96 : decode cX5_text 96 = .ok (.ifCond .eq 15, 3) := by decide +kernel
theorem dX5_text_99 : decode cX5_text 99 = .ok (.aload_n 0, 1) := by decide +kernel
theorem dX5_text_100 : decode cX5_text 100 = .ok (.dup, 1) := by decide +kernel
theorem dX5_text_101 : decode cX5_text 101 = .ok (.getfield 76, 3) := by decide +kernel
theorem dX5_text_104 : decode cX5_text 104 = .ok (.dup_x1, 1) := by decide +kernel
theorem dX5_text_105 : decode cX5_text 105 = .ok (.iconst 1, 1) := by decide +kernel
theorem dX5_text_106 : decode cX5_text 106 = .ok (.iadd, 1) := by decide +kernel
theorem dX5_text_107 : decode cX5_text 107 = .ok (.putfield 76, 3) := by decide +kernel
theorem dX5_text_110 : decode cX5_text 110 = .ok (.ireturn, 1) := by decide +kernel
theorem dX5_text_111 : decode cX5_text 111 = .ok (.aload_n 0, 1) := by decide +kernel
theorem dX5_text_112 : decode cX5_text 112 = .ok (.iload_n 1, 1) := by decide +kernel
theorem dX5_text_113 : decode cX5_text 113 = .ok (.putfield 164, 3) := by decide +kernel
theorem dX5_text_116 : decode cX5_text 116 = .ok (.bipush (-100), 2) := by decide +kernel
theorem dX5_text_118 : decode cX5_text 118 = .ok (.aload_n 0, 1) := by decide +kernel
theorem dX5_text_119 : decode cX5_text 119 = .ok (.getfield 135, 3) := by decide +kernel
theorem dX5_text_122 : decode cX5_text 122 = .ok (.isub, 1) := by decide +kernel
theorem dX5_text_123 : decode cX5_text 123 = .ok (.ireturn, 1) := by decide +kernel
theorem dX5_force_0 : decode cX5_force 0 = .ok (.iload_n 1, 1) := by decide +kernel
theorem dX5_force_1 : decode cX5_force 1 = .ok (.iconst 0, 1) := by decide +kernel
theorem dX5_force_2 : decode cX5_force 2 = .ok (.aload_n 0, 1) := by decide +kernel
theorem dX5_force_3 : decode cX5_force 3 = .ok (.getfield 76, 3) := by decide +kernel
theorem dX5_force_6 : decode cX5_force 6 = .ok (.iconst 1, 1) := by decide +kernel
theorem dX5_force_7 : decode cX5_force 7 = .ok (.isub, 1) := by decide +kernel
theorem dX5_force_8 : decode cX5_force 8 = .ok (.invokestatic 82, 3) := by decide +kernel
theorem dX5_force_11 : decode cX5_force 11 = .ok (.ifCond .ne 6, 3) := by decide +kernel
theorem dX5_force_14 : decode cX5_force 14 = .ok (.bipush (-2), 2) := by decide +kernel
theorem dX5_force_16 : decode cX5_force 16 = .ok (.ireturn, 1) := by decide +kernel
theorem dX5_force_17 : decode cX5_force 17 = .ok (.aload_n 0, 1) := by decide +kernel
theorem dX5_force_18 : decode cX5_force 18 = .ok (.getfield 214, 3) := by decide +kernel
theorem dX5_force_21 : decode cX5_force 21 = .ok (.istore_n 2, 1) := by decide +kernel
theorem dX5_force_22 : decode cX5_force 22 = .ok (.aload_n 0, 1) := by decide +kernel
theorem dX5_force_23 : decode cX5_force 23 = .ok (.iload_n 1, 1) := by decide +kernel
theorem dX5_force_24 : decode cX5_force 24 = .ok (.putfield 214, 3) := by decide +kernel
theorem dX5_force_27 : decode cX5_force 27 = .ok (.iload_n 2, 1) := by decide +kernel
theorem dX5_force_28 : decode cX5_force 28 = .ok (.ireturn, 1) := by decide +kernel
theorem dX5_ruled_0 : decode cX5_ruled 0 = .ok (.iconst 0, 1) := by decide +kernel
theorem dX5_ruled_1 : decode cX5_ruled 1 = .ok (.istore_n 2, 1) := by decide +kernel
theorem dX5_ruled_2 : decode cX5_ruled 2 = .ok (.aload_n 0, 1) := by decide +kernel
theorem dX5_ruled_3 : decode cX5_ruled 3 = .ok (.getfield 26, 3) := by decide +kernel
theorem dX5_ruled_6 : decode cX5_ruled 6 = .ok (.iconst 3, 1) := by decide +kernel
theorem dX5_ruled_7 : decode cX5_ruled 7 = .ok (.aload_n 0, 1) := by decide +kernel
theorem dX5_ruled_8 : decode cX5_ruled 8 = .ok (.getfield 214, 3) := by decide +kernel
theorem dX5_ruled_11 : decode cX5_ruled 11 = .ok (.imul, 1) := by decide +kernel
theorem dX5_ruled_12 : decode cX5_ruled 12 = .ok (.iload_n 1, 1) := by decide +kernel
theorem dX5_ruled_13 : decode cX5_ruled 13 = .ok (.iadd, 1) := by decide +kernel
theorem dX5_ruled_14 : decode cX5_ruled 14 = .ok (.iaload, 1) := by decide +kernel
theorem dX5_ruled_15 : decode cX5_ruled 15 = .ok (.istore_n 3, 1) := by decide +kernel
theorem dX5_ruled_16 : decode cX5_ruled 16 = .ok (.iload_n 3, 1) := by decide +kernel
theorem dX5_ruled_17 : decode cX5_ruled 17 = .ok (.istore 4, 2) := by decide +kernel
theorem dX5_ruled_19 : decode cX5_ruled 19 = .ok (.iload 4, 2) := by decide +kernel
theorem dX5_ruled_21 : decode cX5_ruled 21 = .ok (.iload_n 3, 1) := by decide +kernel
theorem dX5_ruled_22 : decode cX5_ruled 22 = .ok (.aload_n 0, 1) := by decide +kernel
theorem dX5_ruled_23 : decode cX5_ruled 23 = .ok (.getfield 29, 3) := by decide +kernel
theorem dX5_ruled_26 : decode cX5_ruled 26 = .ok (.iconst 3, 1) := by decide +kernel
theorem dX5_ruled_27 : decode cX5_ruled 27 = .ok (.aload_n 0, 1) := by decide +kernel
theorem dX5_ruled_28 : decode cX5_ruled 28 = .ok (.getfield 214, 3) := by decide +kernel
theorem dX5_ruled_31 : decode cX5_ruled 31 = .ok (.imul, 1) := by decide +kernel
theorem dX5_ruled_32 : decode cX5_ruled 32 = .ok (.iload_n 1, 1) := by decide +kernel
theorem dX5_ruled_33 : decode cX5_ruled 33 = .ok (.iadd, 1) := by decide +kernel
theorem dX5_ruled_34 : decode cX5_ruled 34 = .ok (.iaload, 1) := by decide +kernel
theorem dX5_ruled_35 : decode cX5_ruled 35 = .ok (.iadd, 1) := by decide +kernel
theorem dX5_ruled_36 : decode cX5_ruled 36 = .ok (.if_icmp .ge 155, 3) := by decide +kernel
theorem dX5_ruled_39 : decode cX5_ruled 39 = .ok (.aload_n 0, 1) := by decide +kernel
theorem dX5_ruled_40 : decode cX5_ruled 40 = .ok (.getfield 32, 3) := by decide +kernel
theorem dX5_ruled_43 : decode cX5_ruled 43 = .ok (.iload 4, 2) := by decide +kernel
theorem dX5_ruled_45 : decode cX5_ruled 45 = .ok (.iaload, 1) := by decide +kernel
theorem dX5_ruled_46 : decode cX5_ruled 46 = .ok (.istore 5, 2) := by decide +kernel
theorem dX5_ruled_48 : decode cX5_ruled 48 = .ok (.iload 5, 2) := by decide +kernel
theorem dX5_ruled_50 : decode cX5_ruled 50 = .ok (.bipush 15, 2) := by decide +kernel
theorem dX5_ruled_52 : decode cX5_ruled 52 = .ok (.if_icmp .ge 9, 3) := by decide +kernel
theorem dX5_ruled_55 : decode cX5_ruled 55 = .ok (.iload 5, 2) := by decide +kernel
theorem dX5_ruled_57 : decode cX5_ruled 57 = .ok (.iconst 5, 1) := by decide +kernel
theorem dX5_ruled_58 : decode cX5_ruled 58 = .ok (.if_icmp .gt 37, 3) := by decide +kernel
theorem dX5_ruled_61 : decode cX5_ruled 61 = .ok (.aload_n 0, 1) := by decide +kernel
theorem dX5_ruled_62 : decode cX5_ruled 62 = .ok (.getfield 38, 3) := by decide +kernel
theorem dX5_ruled_65 : decode cX5_ruled 65 = .ok (.iload_n 2, 1) := by decide +kernel
theorem dX5_ruled_66 : decode cX5_ruled 66 = .ok (.iinc 2 1, 3) := by decide +kernel
theorem dX5_ruled_69 : decode cX5_ruled 69 = .ok (.iload 5, 2) := by decide +kernel
theorem dX5_ruled_71 : decode cX5_ruled 71 = .ok (.bipush 15, 2) := by decide +kernel
theorem dX5_ruled_73 : decode cX5_ruled 73 = .ok (.if_icmp .lt 11, 3) := by decide +kernel
theorem dX5_ruled_76 : decode cX5_ruled 76 = .ok (.iload 5, 2) := by decide +kernel
theorem dX5_ruled_78 : decode cX5_ruled 78 = .ok (.bipush 15, 2) := by decide +kernel
theorem dX5_ruled_80 : decode cX5_ruled 80 = .ok (.isub, 1) := by decide +kernel
theorem dX5_ruled_81 : decode cX5_ruled 81 = .ok (.goto 10, 3) := by decide +kernel
theorem dX5_ruled_84 : decode cX5_ruled 84 = .ok (.aload_n 0, 1) := by decide +kernel
theorem dX5_ruled_85 : decode cX5_ruled 85 = .ok (.getfield 41, 3) := by decide +kernel
theorem dX5_ruled_88 : decode cX5_ruled 88 = .ok (.iload 5, 2) := by decide +kernel
theorem dX5_ruled_90 : decode cX5_ruled 90 = .ok (.iaload, 1) := by decide +kernel
theorem dX5_ruled_91 : decode cX5_ruled 91 = .ok (.iastore, 1) := by decide +kernel
theorem dX5_ruled_92 : decode cX5_ruled 92 = .ok (.goto 93, 3) := by decide +kernel
theorem dX5_ruled_95 : decode cX5_ruled 95 = .ok (.iload 5, 2) := by decide +kernel
theorem dX5_ruled_97 : decode cX5_ruled 97 = .ok (.bipush 13, 2) := by decide +kernel
theorem dX5_ruled_99 : decode cX5_ruled 99 = .ok (.if_icmp .eq 10, 3) := by decide +kernel
theorem dX5_ruled_102 : decode cX5_ruled 102 = .ok (.iload 5, 2) := by decide +kernel
theorem dX5_ruled_104 : decode cX5_ruled 104 = .ok (.bipush 14, 2) := by decide +kernel
theorem dX5_ruled_106 : decode cX5_ruled 106 = .ok (.if_icmp .ne 49, 3) := by decide +kernel
theorem dX5_ruled_109 : decode cX5_ruled 109 = .ok (.aload_n 0, 1) := by decide +kernel
theorem dX5_ruled_110 : decode cX5_ruled 110 = .ok (.getfield 38, 3) := by decide +kernel
theorem dX5_ruled_113 : decode cX5_ruled 113 = .ok (.iload_n 2, 1) := by decide +kernel
theorem dX5_ruled_114 : decode cX5_ruled 114 = .ok (.iconst 1, 1) := by decide +kernel
theorem dX5_ruled_115 : decode cX5_ruled 115 = .ok (.isub, 1) := by decide +kernel
theorem dX5_ruled_116 : decode cX5_ruled 116 = .ok (.iload 5, 2) := by decide +kernel
theorem dX5_ruled_118 : decode cX5_ruled 118 = .ok (.bipush 14, 2) := by decide +kernel
theorem dX5_ruled_120 : decode cX5_ruled 120 = .ok (.if_icmp .ne 15, 3) := by decide +kernel
theorem dX5_ruled_123 : decode cX5_ruled 123 = .ok (.aload_n 0, 1) := by decide +kernel
theorem dX5_ruled_124 : decode cX5_ruled 124 = .ok (.getfield 38, 3) := by decide +kernel
theorem dX5_ruled_127 : decode cX5_ruled 127 = .ok (.iload_n 2, 1) := by decide +kernel
theorem dX5_ruled_128 : decode cX5_ruled 128 = .ok (.iconst 1, 1) := by decide +kernel
theorem dX5_ruled_129 : decode cX5_ruled 129 = .ok (.isub, 1) := by decide +kernel
theorem dX5_ruled_130 : decode cX5_ruled 130 = .ok (.iaload, 1) := by decide +kernel
theorem dX5_ruled_131 : decode cX5_ruled 131 = .ok (.ineg, 1) := by decide +kernel
theorem dX5_ruled_132 : decode cX5_ruled 132 = .ok (.goto 19, 3) := by decide +kernel
theorem dX5_ruled_135 : decode cX5_ruled 135 = .ok (.aload_n 0, 1) := by decide +kernel
theorem dX5_ruled_136 : decode cX5_ruled 136 = .ok (.getfield 38, 3) := by decide +kernel
theorem dX5_ruled_139 : decode cX5_ruled 139 = .ok (.iload_n 2, 1) := by decide +kernel
theorem dX5_ruled_140 : decode cX5_ruled 140 = .ok (.iconst 1, 1) := by decide +kernel
theorem dX5_ruled_141 : decode cX5_ruled 141 = .ok (.isub, 1) := by decide +kernel
theorem dX5_ruled_142 : decode cX5_ruled 142 = .ok (.iaload, 1) := by decide +kernel
theorem dX5_ruled_143 : decode cX5_ruled 143 = .ok (.ifCond .ne 7, 3) := by decide +kernel
theorem dX5_ruled_146 : decode cX5_ruled 146 = .ok (.iconst 1, 1) := by decide +kernel
theorem dX5_ruled_147 : decode cX5_ruled 147 = .ok (.goto 4, 3) := by decide +kernel
theorem dX5_ruled_150 : decode cX5_ruled 150 = .ok (.iconst 0, 1) := by decide +kernel
theorem dX5_ruled_151 : decode cX5_ruled 151 = .ok (.iastore, 1) := by decide +kernel
theorem dX5_ruled_152 : decode cX5_ruled 152 = .ok (.goto 33, 3) := by decide +kernel
theorem dX5_ruled_155 : decode cX5_ruled 155 = .ok (.iinc 2 (-1), 3) := by decide +kernel
theorem dX5_ruled_158 : decode cX5_ruled 158 = .ok (.aload_n 0, 1) := by decide +kernel
theorem dX5_ruled_159 : decode cX5_ruled 159 = .ok (.getfield 38, 3) := by decide +kernel
theorem dX5_ruled_162 : decode cX5_ruled 162 = .ok (.iload_n 2, 1) := by decide +kernel
theorem dX5_ruled_163 : decode cX5_ruled 163 = .ok (.iconst 1, 1) := by decide +kernel
theorem dX5_ruled_164 : decode cX5_ruled 164 = .ok (.isub, 1) := by decide +kernel
theorem dX5_ruled_165 : decode cX5_ruled 165 = .ok (.iload 5, 2) := by decide +kernel
theorem dX5_ruled_167 : decode cX5_ruled 167 = .ok (.aload_n 0, 1) := by decide +kernel
theorem dX5_ruled_168 : decode cX5_ruled 168 = .ok (.getfield 38, 3) := by decide +kernel
theorem dX5_ruled_171 : decode cX5_ruled 171 = .ok (.iload_n 2, 1) := by decide +kernel
theorem dX5_ruled_172 : decode cX5_ruled 172 = .ok (.iconst 1, 1) := by decide +kernel
theorem dX5_ruled_173 : decode cX5_ruled 173 = .ok (.isub, 1) := by decide +kernel
theorem dX5_ruled_174 : decode cX5_ruled 174 = .ok (.iaload, 1) := by decide +kernel
theorem dX5_ruled_175 : decode cX5_ruled 175 = .ok (.aload_n 0, 1) := by decide +kernel
theorem dX5_ruled_176 : decode cX5_ruled 176 = .ok (.getfield 38, 3) := by decide +kernel
theorem dX5_ruled_179 : decode cX5_ruled 179 = .ok (.iload_n 2, 1) := by decide +kernel
theorem dX5_ruled_180 : decode cX5_ruled 180 = .ok (.iaload, 1) := by decide +kernel
theorem dX5_ruled_181 : decode cX5_ruled 181 = .ok (.invokestatic 217, 3) := by decide +kernel
theorem dX5_ruled_184 : decode cX5_ruled 184 = .ok (.iastore, 1) := by decide +kernel
theorem dX5_ruled_185 : decode cX5_ruled 185 = .ok (.iinc 4 1, 3) := by decide +kernel
theorem dX5_ruled_188 : decode cX5_ruled 188 = .ok (.goto (-169), 3) := by decide +kernel
theorem dX5_ruled_191 : decode cX5_ruled 191 = .ok (.aload_n 0, 1) := by decide +kernel
theorem dX5_ruled_192 : decode cX5_ruled 192 = .ok (.getfield 38, 3) := by decide +kernel
theorem dX5_ruled_195 : decode cX5_ruled 195 = .ok (.iconst 0, 1) := by decide +kernel
theorem dX5_ruled_196 : decode cX5_ruled 196 = .ok (.iaload, 1) := by decide +kernel
theorem dX5_ruled_197 : decode cX5_ruled 197 = .ok (.ireturn, 1) := by decide +kernel
theorem dX5_both_0 : decode cX5_both 0 = .ok (.iload_n 0, 1) := by decide +kernel
theorem dX5_both_1 : decode cX5_both 1 = .ok (.tableswitch 87 6 11 #[39, 43, 47, 51, 62, 73], 39) := by decide +kernel
theorem dX5_both_40 : decode cX5_both 40 = .ok (.iload_n 1, 1) := by decide +kernel
theorem dX5_both_41 : decode cX5_both 41 = .ok (.iload_n 2, 1) := by decide +kernel
theorem dX5_both_42 : decode cX5_both 42 = .ok (.iadd, 1) := by decide +kernel
theorem dX5_both_43 : decode cX5_both 43 = .ok (.ireturn, 1) := by decide +kernel
theorem dX5_both_44 : decode cX5_both 44 = .ok (.iload_n 1, 1) := by decide +kernel
theorem dX5_both_45 : decode cX5_both 45 = .ok (.iload_n 2, 1) := by decide +kernel
theorem dX5_both_46 : decode cX5_both 46 = .ok (.isub, 1) := by decide +kernel
theorem dX5_both_47 : decode cX5_both 47 = .ok (.ireturn, 1) := by decide +kernel
theorem dX5_both_48 : decode cX5_both 48 = .ok (.iload_n 1, 1) := by decide +kernel
theorem dX5_both_49 : decode cX5_both 49 = .ok (.iload_n 2, 1) := by decide +kernel
theorem dX5_both_50 : decode cX5_both 50 = .ok (.imul, 1) := by decide +kernel
theorem dX5_both_51 : decode cX5_both 51 = .ok (.ireturn, 1) := by decide +kernel
theorem dX5_both_52 : decode cX5_both 52 = .ok (.iload_n 1, 1) := by decide +kernel
theorem dX5_both_53 : decode cX5_both 53 = .ok (.iload_n 2, 1) := by decide +kernel
theorem dX5_both_54 : decode cX5_both 54 = .ok (.if_icmp .ge 7, 3) := by decide +kernel
theorem dX5_both_57 : decode cX5_both 57 = .ok (.iconst 1, 1) := by decide +kernel
theorem dX5_both_58 : decode cX5_both 58 = .ok (.goto 4, 3) := by decide +kernel
theorem dX5_both_61 : decode cX5_both 61 = .ok (.iconst 0, 1) := by decide +kernel
theorem dX5_both_62 : decode cX5_both 62 = .ok (.ireturn, 1) := by decide +kernel
theorem dX5_both_63 : decode cX5_both 63 = .ok (.iload_n 1, 1) := by decide +kernel
theorem dX5_both_64 : decode cX5_both 64 = .ok (.iload_n 2, 1) := by decide +kernel
theorem dX5_both_65 : decode cX5_both 65 = .ok (.if_icmp .ne 7, 3) := by decide +kernel
theorem dX5_both_68 : decode cX5_both 68 = .ok (.iconst 1, 1) := by decide +kernel
theorem dX5_both_69 : decode cX5_both 69 = .ok (.goto 4, 3) := by decide +kernel
theorem dX5_both_72 : decode cX5_both 72 = .ok (.iconst 0, 1) := by decide +kernel
theorem dX5_both_73 : decode cX5_both 73 = .ok (.ireturn, 1) := by decide +kernel
theorem dX5_both_74 : decode cX5_both 74 = .ok (.iload_n 1, 1) := by decide +kernel
theorem dX5_both_75 : decode cX5_both 75 = .ok (.ifCond .eq 11, 3) := by decide +kernel
theorem dX5_both_78 : decode cX5_both 78 = .ok (.iload_n 2, 1) := by decide +kernel
theorem dX5_both_79 : decode cX5_both 79 = .ok (.ifCond .eq 7, 3) := by decide +kernel
theorem dX5_both_82 : decode cX5_both 82 = .ok (.iconst 1, 1) := by decide +kernel
theorem dX5_both_83 : decode cX5_both 83 = .ok (.goto 4, 3) := by decide +kernel
theorem dX5_both_86 : decode cX5_both 86 = .ok (.iconst 0, 1) := by decide +kernel
theorem dX5_both_87 : decode cX5_both 87 = .ok (.ireturn, 1) := by decide +kernel
theorem dX5_both_88 : decode cX5_both 88 = .ok (.iload_n 1, 1) := by decide +kernel
theorem dX5_both_89 : decode cX5_both 89 = .ok (.ifCond .ne 7, 3) := by decide +kernel
theorem dX5_both_92 : decode cX5_both 92 = .ok (.iload_n 2, 1) := by decide +kernel
theorem dX5_both_93 : decode cX5_both 93 = .ok (.ifCond .eq 7, 3) := by decide +kernel
theorem dX5_both_96 : decode cX5_both 96 = .ok (.iconst 1, 1) := by decide +kernel
theorem dX5_both_97 : decode cX5_both 97 = .ok (.goto 4, 3) := by decide +kernel
theorem dX5_both_100 : decode cX5_both 100 = .ok (.iconst 0, 1) := by decide +kernel
theorem dX5_both_101 : decode cX5_both 101 = .ok (.ireturn, 1) := by decide +kernel
theorem dX5_tellsOf_0 : decode cX5_tellsOf 0 = .ok (.aload_n 0, 1) := by decide +kernel
theorem dX5_tellsOf_1 : decode cX5_tellsOf 1 = .ok (.getfield 41, 3) := by decide +kernel
theorem dX5_tellsOf_4 : decode cX5_tellsOf 4 = .ok (.iconst 0, 1) := by decide +kernel
theorem dX5_tellsOf_5 : decode cX5_tellsOf 5 = .ok (.iload_n 1, 1) := by decide +kernel
theorem dX5_tellsOf_6 : decode cX5_tellsOf 6 = .ok (.iastore, 1) := by decide +kernel
theorem dX5_tellsOf_7 : decode cX5_tellsOf 7 = .ok (.aload_n 0, 1) := by decide +kernel
theorem dX5_tellsOf_8 : decode cX5_tellsOf 8 = .ok (.getfield 41, 3) := by decide +kernel
theorem dX5_tellsOf_11 : decode cX5_tellsOf 11 = .ok (.iconst 1, 1) := by decide +kernel
theorem dX5_tellsOf_12 : decode cX5_tellsOf 12 = .ok (.aload_n 0, 1) := by decide +kernel
theorem dX5_tellsOf_13 : decode cX5_tellsOf 13 = .ok (.getfield 20, 3) := by decide +kernel
theorem dX5_tellsOf_16 : decode cX5_tellsOf 16 = .ok (.iload_n 2, 1) := by decide +kernel
theorem dX5_tellsOf_17 : decode cX5_tellsOf 17 = .ok (.iaload, 1) := by decide +kernel
theorem dX5_tellsOf_18 : decode cX5_tellsOf 18 = .ok (.iastore, 1) := by decide +kernel
theorem dX5_tellsOf_19 : decode cX5_tellsOf 19 = .ok (.aload_n 0, 1) := by decide +kernel
theorem dX5_tellsOf_20 : decode cX5_tellsOf 20 = .ok (.getfield 41, 3) := by decide +kernel
theorem dX5_tellsOf_23 : decode cX5_tellsOf 23 = .ok (.iconst 2, 1) := by decide +kernel
theorem dX5_tellsOf_24 : decode cX5_tellsOf 24 = .ok (.aload_n 0, 1) := by decide +kernel
theorem dX5_tellsOf_25 : decode cX5_tellsOf 25 = .ok (.getfield 17, 3) := by decide +kernel
theorem dX5_tellsOf_28 : decode cX5_tellsOf 28 = .ok (.iload_n 2, 1) := by decide +kernel
theorem dX5_tellsOf_29 : decode cX5_tellsOf 29 = .ok (.iaload, 1) := by decide +kernel
theorem dX5_tellsOf_30 : decode cX5_tellsOf 30 = .ok (.iastore, 1) := by decide +kernel
theorem dX5_tellsOf_31 : decode cX5_tellsOf 31 = .ok (.aload_n 0, 1) := by decide +kernel
theorem dX5_tellsOf_32 : decode cX5_tellsOf 32 = .ok (.getfield 41, 3) := by decide +kernel
theorem dX5_tellsOf_35 : decode cX5_tellsOf 35 = .ok (.iconst 3, 1) := by decide +kernel
theorem dX5_tellsOf_36 : decode cX5_tellsOf 36 = .ok (.aload_n 0, 1) := by decide +kernel
theorem dX5_tellsOf_37 : decode cX5_tellsOf 37 = .ok (.getfield 20, 3) := by decide +kernel
theorem dX5_tellsOf_40 : decode cX5_tellsOf 40 = .ok (.iload_n 3, 1) := by decide +kernel
theorem dX5_tellsOf_41 : decode cX5_tellsOf 41 = .ok (.iaload, 1) := by decide +kernel
theorem dX5_tellsOf_42 : decode cX5_tellsOf 42 = .ok (.iastore, 1) := by decide +kernel
theorem dX5_tellsOf_43 : decode cX5_tellsOf 43 = .ok (.aload_n 0, 1) := by decide +kernel
theorem dX5_tellsOf_44 : decode cX5_tellsOf 44 = .ok (.getfield 41, 3) := by decide +kernel
theorem dX5_tellsOf_47 : decode cX5_tellsOf 47 = .ok (.iconst 4, 1) := by decide +kernel
theorem dX5_tellsOf_48 : decode cX5_tellsOf 48 = .ok (.iload 4, 2) := by decide +kernel
theorem dX5_tellsOf_50 : decode cX5_tellsOf 50 = .ok (.iastore, 1) := by decide +kernel
theorem dX5_tellsOf_51 : decode cX5_tellsOf 51 = .ok (.aload_n 0, 1) := by decide +kernel
theorem dX5_tellsOf_52 : decode cX5_tellsOf 52 = .ok (.getfield 41, 3) := by decide +kernel
theorem dX5_tellsOf_55 : decode cX5_tellsOf 55 = .ok (.iconst 5, 1) := by decide +kernel
theorem dX5_tellsOf_56 : decode cX5_tellsOf 56 = .ok (.iload 5, 2) := by decide +kernel
theorem dX5_tellsOf_58 : decode cX5_tellsOf 58 = .ok (.iastore, 1) := by decide +kernel
theorem dX5_tellsOf_59 : decode cX5_tellsOf 59 = .ok (.return_, 1) := by decide +kernel
theorem dX5_cuts_0 : decode cX5_cuts 0 = .ok (.aload_n 0, 1) := by decide +kernel
theorem dX5_cuts_1 : decode cX5_cuts 1 = .ok (.iload_n 3, 1) := by decide +kernel
theorem dX5_cuts_2 : decode cX5_cuts 2 = .ok (.iload_n 1, 1) := by decide +kernel
theorem dX5_cuts_3 : decode cX5_cuts 3 = .ok (.iload_n 2, 1) := by decide +kernel
theorem dX5_cuts_4 : decode cX5_cuts 4 = .ok (.iload_n 1, 1) := by decide +kernel
theorem dX5_cuts_5 : decode cX5_cuts 5 = .ok (.iload_n 2, 1) := by decide +kernel
theorem dX5_cuts_6 : decode cX5_cuts 6 = .ok (.invokevirtual 221, 3) := by decide +kernel
theorem dX5_cuts_9 : decode cX5_cuts 9 = .ok (.aload_n 0, 1) := by decide +kernel
theorem dX5_cuts_10 : decode cX5_cuts 10 = .ok (.iconst 0, 1) := by decide +kernel
theorem dX5_cuts_11 : decode cX5_cuts 11 = .ok (.invokevirtual 225, 3) := by decide +kernel
theorem dX5_cuts_14 : decode cX5_cuts 14 = .ok (.ifCond .eq 7, 3) := by decide +kernel
theorem dX5_cuts_17 : decode cX5_cuts 17 = .ok (.iconst 1, 1) := by decide +kernel
theorem dX5_cuts_18 : decode cX5_cuts 18 = .ok (.goto 4, 3) := by decide +kernel
theorem dX5_cuts_21 : decode cX5_cuts 21 = .ok (.iconst 0, 1) := by decide +kernel
theorem dX5_cuts_22 : decode cX5_cuts 22 = .ok (.istore 4, 2) := by decide +kernel
theorem dX5_cuts_24 : decode cX5_cuts 24 = .ok (.iload 4, 2) := by decide +kernel
theorem dX5_cuts_26 : decode cX5_cuts 26 = .ok (.ifCond .ne 16, 3) := by decide +kernel
theorem dX5_cuts_29 : decode cX5_cuts 29 = .ok (.iload_n 3, 1) := by decide +kernel
theorem dX5_cuts_30 : decode cX5_cuts 30 = .ok (.aload_n 0, 1) := by decide +kernel
theorem dX5_cuts_31 : decode cX5_cuts 31 = .ok (.getfield 17, 3) := by decide +kernel
theorem dX5_cuts_34 : decode cX5_cuts 34 = .ok (.iload_n 1, 1) := by decide +kernel
theorem dX5_cuts_35 : decode cX5_cuts 35 = .ok (.iaload, 1) := by decide +kernel
theorem dX5_cuts_36 : decode cX5_cuts 36 = .ok (.bipush 8, 2) := by decide +kernel
theorem dX5_cuts_38 : decode cX5_cuts 38 = .ok (.irem, 1) := by decide +kernel
theorem dX5_cuts_39 : decode cX5_cuts 39 = .ok (.if_icmp .ne 7, 3) := by decide +kernel
theorem dX5_cuts_42 : decode cX5_cuts 42 = .ok (.iconst 1, 1) := by decide +kernel
theorem dX5_cuts_43 : decode cX5_cuts 43 = .ok (.goto 4, 3) := by decide +kernel
theorem dX5_cuts_46 : decode cX5_cuts 46 = .ok (.iconst 0, 1) := by decide +kernel
theorem dX5_cuts_47 : decode cX5_cuts 47 = .ok (.istore 5, 2) := by decide +kernel
theorem dX5_cuts_49 : decode cX5_cuts 49 = .ok (.iload 4, 2) := by decide +kernel
theorem dX5_cuts_51 : decode cX5_cuts 51 = .ok (.ifCond .eq 13, 3) := by decide +kernel
theorem dX5_cuts_54 : decode cX5_cuts 54 = .ok (.iload_n 3, 1) := by decide +kernel
theorem dX5_cuts_55 : decode cX5_cuts 55 = .ok (.iconst 2, 1) := by decide +kernel
theorem dX5_cuts_56 : decode cX5_cuts 56 = .ok (.irem, 1) := by decide +kernel
theorem dX5_cuts_57 : decode cX5_cuts 57 = .ok (.ifCond .ne 7, 3) := by decide +kernel
theorem dX5_cuts_60 : decode cX5_cuts 60 = .ok (.iconst 1, 1) := by decide +kernel
theorem dX5_cuts_61 : decode cX5_cuts 61 = .ok (.goto 4, 3) := by decide +kernel
theorem dX5_cuts_64 : decode cX5_cuts 64 = .ok (.iconst 0, 1) := by decide +kernel
theorem dX5_cuts_65 : decode cX5_cuts 65 = .ok (.istore 6, 2) := by decide +kernel
theorem dX5_cuts_67 : decode cX5_cuts 67 = .ok (.aload_n 0, 1) := by decide +kernel
theorem dX5_cuts_68 : decode cX5_cuts 68 = .ok (.getfield 13, 3) := by decide +kernel
theorem dX5_cuts_71 : decode cX5_cuts 71 = .ok (.iload_n 1, 1) := by decide +kernel
theorem dX5_cuts_72 : decode cX5_cuts 72 = .ok (.iaload, 1) := by decide +kernel
theorem dX5_cuts_73 : decode cX5_cuts 73 = .ok (.tableswitch 105 1 5 #[35, 38, 41, 58, 83], 35) := by decide +kernel
theorem dX5_cuts_108 : decode cX5_cuts 108 = .ok (.iload 5, 2) := by decide +kernel
theorem dX5_cuts_110 : decode cX5_cuts 110 = .ok (.ireturn, 1) := by decide +kernel
theorem dX5_cuts_111 : decode cX5_cuts 111 = .ok (.iload 6, 2) := by decide +kernel
theorem dX5_cuts_113 : decode cX5_cuts 113 = .ok (.ireturn, 1) := by decide +kernel
theorem dX5_cuts_114 : decode cX5_cuts 114 = .ok (.iload 5, 2) := by decide +kernel
theorem dX5_cuts_116 : decode cX5_cuts 116 = .ok (.ifCond .eq 13, 3) := by decide +kernel
theorem dX5_cuts_119 : decode cX5_cuts 119 = .ok (.iload_n 3, 1) := by decide +kernel
theorem dX5_cuts_120 : decode cX5_cuts 120 = .ok (.bipush 7, 2) := by decide +kernel
theorem dX5_cuts_122 : decode cX5_cuts 122 = .ok (.if_icmp .eq 7, 3) := by decide +kernel
theorem dX5_cuts_125 : decode cX5_cuts 125 = .ok (.iconst 1, 1) := by decide +kernel
theorem dX5_cuts_126 : decode cX5_cuts 126 = .ok (.goto 4, 3) := by decide +kernel
theorem dX5_cuts_129 : decode cX5_cuts 129 = .ok (.iconst 0, 1) := by decide +kernel
theorem dX5_cuts_130 : decode cX5_cuts 130 = .ok (.ireturn, 1) := by decide +kernel
theorem dX5_cuts_131 : decode cX5_cuts 131 = .ok (.iload 6, 2) := by decide +kernel
theorem dX5_cuts_133 : decode cX5_cuts 133 = .ok (.ifCond .ne 17, 3) := by decide +kernel
theorem dX5_cuts_136 : decode cX5_cuts 136 = .ok (.iload_n 3, 1) := by decide +kernel
theorem dX5_cuts_137 : decode cX5_cuts 137 = .ok (.iconst 3, 1) := by decide +kernel
theorem dX5_cuts_138 : decode cX5_cuts 138 = .ok (.if_icmp .ne 16, 3) := by decide +kernel
theorem dX5_cuts_141 : decode cX5_cuts 141 = .ok (.aload_n 0, 1) := by decide +kernel
theorem dX5_cuts_142 : decode cX5_cuts 142 = .ok (.getfield 20, 3) := by decide +kernel
theorem dX5_cuts_145 : decode cX5_cuts 145 = .ok (.iload_n 1, 1) := by decide +kernel
theorem dX5_cuts_146 : decode cX5_cuts 146 = .ok (.iaload, 1) := by decide +kernel
theorem dX5_cuts_147 : decode cX5_cuts 147 = .ok (.ifCond .ge 7, 3) := by decide +kernel
theorem dX5_cuts_150 : decode cX5_cuts 150 = .ok (.iconst 1, 1) := by decide +kernel
theorem dX5_cuts_151 : decode cX5_cuts 151 = .ok (.goto 4, 3) := by decide +kernel
theorem dX5_cuts_154 : decode cX5_cuts 154 = .ok (.iconst 0, 1) := by decide +kernel
theorem dX5_cuts_155 : decode cX5_cuts 155 = .ok (.ireturn, 1) := by decide +kernel
theorem dX5_cuts_156 : decode cX5_cuts 156 = .ok (.iload_n 3, 1) := by decide +kernel
theorem dX5_cuts_157 : decode cX5_cuts 157 = .ok (.iconst 3, 1) := by decide +kernel
theorem dX5_cuts_158 : decode cX5_cuts 158 = .ok (.if_icmp .lt 14, 3) := by decide +kernel
theorem dX5_cuts_161 : decode cX5_cuts 161 = .ok (.aload_n 0, 1) := by decide +kernel
theorem dX5_cuts_162 : decode cX5_cuts 162 = .ok (.getfield 20, 3) := by decide +kernel
theorem dX5_cuts_165 : decode cX5_cuts 165 = .ok (.iload_n 1, 1) := by decide +kernel
theorem dX5_cuts_166 : decode cX5_cuts 166 = .ok (.iaload, 1) := by decide +kernel
theorem dX5_cuts_167 : decode cX5_cuts 167 = .ok (.bipush 10, 2) := by decide +kernel
theorem dX5_cuts_169 : decode cX5_cuts 169 = .ok (.if_icmp .lt 7, 3) := by decide +kernel
theorem dX5_cuts_172 : decode cX5_cuts 172 = .ok (.iconst 1, 1) := by decide +kernel
theorem dX5_cuts_173 : decode cX5_cuts 173 = .ok (.goto 4, 3) := by decide +kernel
theorem dX5_cuts_176 : decode cX5_cuts 176 = .ok (.iconst 0, 1) := by decide +kernel
theorem dX5_cuts_177 : decode cX5_cuts 177 = .ok (.ireturn, 1) := by decide +kernel
theorem dX5_cuts_178 : decode cX5_cuts 178 = .ok (.iload 4, 2) := by decide +kernel
theorem dX5_cuts_180 : decode cX5_cuts 180 = .ok (.ireturn, 1) := by decide +kernel
theorem dX5_sends_0 : decode cX5_sends 0 = .ok (.iload_n 1, 1) := by decide +kernel
theorem dX5_sends_1 : decode cX5_sends 1 = .ok (.aload_n 0, 1) := by decide +kernel
theorem dX5_sends_2 : decode cX5_sends 2 = .ok (.getfield 68, 3) := by decide +kernel
theorem dX5_sends_5 : decode cX5_sends 5 = .ok (.if_icmp .eq 11, 3) := by decide +kernel
theorem dX5_sends_8 : decode cX5_sends 8 = .ok (.iload_n 2, 1) := by decide +kernel
theorem dX5_sends_9 : decode cX5_sends 9 = .ok (.aload_n 0, 1) := by decide +kernel
theorem dX5_sends_10 : decode cX5_sends 10 = .ok (.getfield 68, 3) := by decide +kernel
theorem dX5_sends_13 : decode cX5_sends 13 = .ok (.if_icmp .ne 5, 3) := by decide +kernel
theorem dX5_sends_16 : decode cX5_sends 16 = .ok (.iconst 0, 1) := by decide +kernel
theorem dX5_sends_17 : decode cX5_sends 17 = .ok (.ireturn, 1) := by decide +kernel
theorem dX5_sends_18 : decode cX5_sends 18 = .ok (.aload_n 0, 1) := by decide +kernel
theorem dX5_sends_19 : decode cX5_sends 19 = .ok (.iconst 0, 1) := by decide +kernel
theorem dX5_sends_20 : decode cX5_sends 20 = .ok (.iload_n 1, 1) := by decide +kernel
theorem dX5_sends_21 : decode cX5_sends 21 = .ok (.iload_n 2, 1) := by decide +kernel
theorem dX5_sends_22 : decode cX5_sends 22 = .ok (.iload_n 1, 1) := by decide +kernel
theorem dX5_sends_23 : decode cX5_sends 23 = .ok (.iload_n 2, 1) := by decide +kernel
theorem dX5_sends_24 : decode cX5_sends 24 = .ok (.invokevirtual 221, 3) := by decide +kernel
theorem dX5_sends_27 : decode cX5_sends 27 = .ok (.aload_n 0, 1) := by decide +kernel
theorem dX5_sends_28 : decode cX5_sends 28 = .ok (.iconst 2, 1) := by decide +kernel
theorem dX5_sends_29 : decode cX5_sends 29 = .ok (.invokevirtual 225, 3) := by decide +kernel
theorem dX5_sends_32 : decode cX5_sends 32 = .ok (.ifCond .eq 7, 3) := by decide +kernel
theorem dX5_sends_35 : decode cX5_sends 35 = .ok (.iconst 1, 1) := by decide +kernel
theorem dX5_sends_36 : decode cX5_sends 36 = .ok (.goto 4, 3) := by decide +kernel
theorem dX5_sends_39 : decode cX5_sends 39 = .ok (.iconst 0, 1) := by decide +kernel
theorem dX5_sends_40 : decode cX5_sends 40 = .ok (.istore_n 3, 1) := by decide +kernel
theorem dX5_sends_41 : decode cX5_sends 41 = .ok (.aload_n 0, 1) := by decide +kernel
theorem dX5_sends_42 : decode cX5_sends 42 = .ok (.getfield 13, 3) := by decide +kernel
theorem dX5_sends_45 : decode cX5_sends 45 = .ok (.iload_n 1, 1) := by decide +kernel
theorem dX5_sends_46 : decode cX5_sends 46 = .ok (.iaload, 1) := by decide +kernel
theorem dX5_sends_47 : decode cX5_sends 47 = .ok (.tableswitch 83 1 4 #[29, 31, 29, 52], 29) := by decide +kernel
theorem dX5_sends_76 : decode cX5_sends 76 = .ok (.iconst 1, 1) := by decide +kernel
theorem dX5_sends_77 : decode cX5_sends 77 = .ok (.ireturn, 1) := by decide +kernel
theorem dX5_sends_78 : decode cX5_sends 78 = .ok (.iload_n 3, 1) := by decide +kernel
theorem dX5_sends_79 : decode cX5_sends 79 = .ok (.ifCond .eq 18, 3) := by decide +kernel
theorem dX5_sends_82 : decode cX5_sends 82 = .ok (.aload_n 0, 1) := by decide +kernel
theorem dX5_sends_83 : decode cX5_sends 83 = .ok (.getfield 20, 3) := by decide +kernel
theorem dX5_sends_86 : decode cX5_sends 86 = .ok (.iload_n 1, 1) := by decide +kernel
theorem dX5_sends_87 : decode cX5_sends 87 = .ok (.iaload, 1) := by decide +kernel
theorem dX5_sends_88 : decode cX5_sends 88 = .ok (.bipush (-5), 2) := by decide +kernel
theorem dX5_sends_90 : decode cX5_sends 90 = .ok (.if_icmp .lt 7, 3) := by decide +kernel
theorem dX5_sends_93 : decode cX5_sends 93 = .ok (.iconst 1, 1) := by decide +kernel
theorem dX5_sends_94 : decode cX5_sends 94 = .ok (.goto 4, 3) := by decide +kernel
theorem dX5_sends_97 : decode cX5_sends 97 = .ok (.iconst 0, 1) := by decide +kernel
theorem dX5_sends_98 : decode cX5_sends 98 = .ok (.ireturn, 1) := by decide +kernel
theorem dX5_sends_99 : decode cX5_sends 99 = .ok (.iload_n 3, 1) := by decide +kernel
theorem dX5_sends_100 : decode cX5_sends 100 = .ok (.ifCond .eq 14, 3) := by decide +kernel
theorem dX5_sends_103 : decode cX5_sends 103 = .ok (.aload_n 0, 1) := by decide +kernel
theorem dX5_sends_104 : decode cX5_sends 104 = .ok (.getfield 20, 3) := by decide +kernel
theorem dX5_sends_107 : decode cX5_sends 107 = .ok (.iload_n 1, 1) := by decide +kernel
theorem dX5_sends_108 : decode cX5_sends 108 = .ok (.iaload, 1) := by decide +kernel
theorem dX5_sends_109 : decode cX5_sends 109 = .ok (.bipush (-5), 2) := by decide +kernel
theorem dX5_sends_111 : decode cX5_sends 111 = .ok (.if_icmp .ge 13, 3) := by decide +kernel
theorem dX5_sends_114 : decode cX5_sends 114 = .ok (.iload_n 2, 1) := by decide +kernel
theorem dX5_sends_115 : decode cX5_sends 115 = .ok (.aload_n 0, 1) := by decide +kernel
theorem dX5_sends_116 : decode cX5_sends 116 = .ok (.getfield 17, 3) := by decide +kernel
theorem dX5_sends_119 : decode cX5_sends 119 = .ok (.iload_n 1, 1) := by decide +kernel
theorem dX5_sends_120 : decode cX5_sends 120 = .ok (.iaload, 1) := by decide +kernel
theorem dX5_sends_121 : decode cX5_sends 121 = .ok (.if_icmp .ne 7, 3) := by decide +kernel
theorem dX5_sends_124 : decode cX5_sends 124 = .ok (.iconst 1, 1) := by decide +kernel
theorem dX5_sends_125 : decode cX5_sends 125 = .ok (.goto 4, 3) := by decide +kernel
theorem dX5_sends_128 : decode cX5_sends 128 = .ok (.iconst 0, 1) := by decide +kernel
theorem dX5_sends_129 : decode cX5_sends 129 = .ok (.ireturn, 1) := by decide +kernel
theorem dX5_sends_130 : decode cX5_sends 130 = .ok (.iload_n 3, 1) := by decide +kernel
theorem dX5_sends_131 : decode cX5_sends 131 = .ok (.ireturn, 1) := by decide +kernel
theorem dX5_feels_0 : decode cX5_feels 0 = .ok (.aload_n 0, 1) := by decide +kernel
theorem dX5_feels_1 : decode cX5_feels 1 = .ok (.iload_n 3, 1) := by decide +kernel
theorem dX5_feels_2 : decode cX5_feels 2 = .ok (.iload_n 2, 1) := by decide +kernel
theorem dX5_feels_3 : decode cX5_feels 3 = .ok (.iload_n 1, 1) := by decide +kernel
theorem dX5_feels_4 : decode cX5_feels 4 = .ok (.iload_n 1, 1) := by decide +kernel
theorem dX5_feels_5 : decode cX5_feels 5 = .ok (.iload_n 2, 1) := by decide +kernel
theorem dX5_feels_6 : decode cX5_feels 6 = .ok (.invokevirtual 221, 3) := by decide +kernel
theorem dX5_feels_9 : decode cX5_feels 9 = .ok (.aload_n 0, 1) := by decide +kernel
theorem dX5_feels_10 : decode cX5_feels 10 = .ok (.iconst 1, 1) := by decide +kernel
theorem dX5_feels_11 : decode cX5_feels 11 = .ok (.invokevirtual 225, 3) := by decide +kernel
theorem dX5_feels_14 : decode cX5_feels 14 = .ok (.invokestatic 123, 3) := by decide +kernel
theorem dX5_feels_17 : decode cX5_feels 17 = .ok (.istore 4, 2) := by decide +kernel
theorem dX5_feels_19 : decode cX5_feels 19 = .ok (.iload 4, 2) := by decide +kernel
theorem dX5_feels_21 : decode cX5_feels 21 = .ok (.iconst (-1), 1) := by decide +kernel
theorem dX5_feels_22 : decode cX5_feels 22 = .ok (.if_icmp .ge 7, 3) := by decide +kernel
theorem dX5_feels_25 : decode cX5_feels 25 = .ok (.iconst (-1), 1) := by decide +kernel
theorem dX5_feels_26 : decode cX5_feels 26 = .ok (.goto 5, 3) := by decide +kernel
theorem dX5_feels_29 : decode cX5_feels 29 = .ok (.iload 4, 2) := by decide +kernel
theorem dX5_feels_31 : decode cX5_feels 31 = .ok (.istore 5, 2) := by decide +kernel
theorem dX5_feels_33 : decode cX5_feels 33 = .ok (.aload_n 0, 1) := by decide +kernel
theorem dX5_feels_34 : decode cX5_feels 34 = .ok (.getfield 13, 3) := by decide +kernel
theorem dX5_feels_37 : decode cX5_feels 37 = .ok (.iload_n 2, 1) := by decide +kernel
theorem dX5_feels_38 : decode cX5_feels 38 = .ok (.iaload, 1) := by decide +kernel
theorem dX5_feels_39 : decode cX5_feels 39 = .ok (.tableswitch 81 1 5 #[33, 36, 44, 52, 69], 33) := by decide +kernel
theorem dX5_feels_72 : decode cX5_feels 72 = .ok (.iload 5, 2) := by decide +kernel
theorem dX5_feels_74 : decode cX5_feels 74 = .ok (.ireturn, 1) := by decide +kernel
theorem dX5_feels_75 : decode cX5_feels 75 = .ok (.iconst 2, 1) := by decide +kernel
theorem dX5_feels_76 : decode cX5_feels 76 = .ok (.iload 4, 2) := by decide +kernel
theorem dX5_feels_78 : decode cX5_feels 78 = .ok (.imul, 1) := by decide +kernel
theorem dX5_feels_79 : decode cX5_feels 79 = .ok (.invokestatic 123, 3) := by decide +kernel
theorem dX5_feels_82 : decode cX5_feels 82 = .ok (.ireturn, 1) := by decide +kernel
theorem dX5_feels_83 : decode cX5_feels 83 = .ok (.iload 5, 2) := by decide +kernel
theorem dX5_feels_85 : decode cX5_feels 85 = .ok (.iconst 1, 1) := by decide +kernel
theorem dX5_feels_86 : decode cX5_feels 86 = .ok (.iadd, 1) := by decide +kernel
theorem dX5_feels_87 : decode cX5_feels 87 = .ok (.invokestatic 123, 3) := by decide +kernel
theorem dX5_feels_90 : decode cX5_feels 90 = .ok (.ireturn, 1) := by decide +kernel
theorem dX5_feels_91 : decode cX5_feels 91 = .ok (.iconst 2, 1) := by decide +kernel
theorem dX5_feels_92 : decode cX5_feels 92 = .ok (.iload 4, 2) := by decide +kernel
theorem dX5_feels_94 : decode cX5_feels 94 = .ok (.imul, 1) := by decide +kernel
theorem dX5_feels_95 : decode cX5_feels 95 = .ok (.iconst 2, 1) := by decide +kernel
theorem dX5_feels_96 : decode cX5_feels 96 = .ok (.idiv, 1) := by decide +kernel
theorem dX5_feels_97 : decode cX5_feels 97 = .ok (.aload_n 0, 1) := by decide +kernel
theorem dX5_feels_98 : decode cX5_feels 98 = .ok (.getfield 17, 3) := by decide +kernel
theorem dX5_feels_101 : decode cX5_feels 101 = .ok (.iload_n 2, 1) := by decide +kernel
theorem dX5_feels_102 : decode cX5_feels 102 = .ok (.iaload, 1) := by decide +kernel
theorem dX5_feels_103 : decode cX5_feels 103 = .ok (.isub, 1) := by decide +kernel
theorem dX5_feels_104 : decode cX5_feels 104 = .ok (.invokestatic 123, 3) := by decide +kernel
theorem dX5_feels_107 : decode cX5_feels 107 = .ok (.ireturn, 1) := by decide +kernel
theorem dX5_feels_108 : decode cX5_feels 108 = .ok (.iload_n 3, 1) := by decide +kernel
theorem dX5_feels_109 : decode cX5_feels 109 = .ok (.iconst 3, 1) := by decide +kernel
theorem dX5_feels_110 : decode cX5_feels 110 = .ok (.if_icmp .le 7, 3) := by decide +kernel
theorem dX5_feels_113 : decode cX5_feels 113 = .ok (.iconst 0, 1) := by decide +kernel
theorem dX5_feels_114 : decode cX5_feels 114 = .ok (.goto 5, 3) := by decide +kernel
theorem dX5_feels_117 : decode cX5_feels 117 = .ok (.iload 4, 2) := by decide +kernel
theorem dX5_feels_119 : decode cX5_feels 119 = .ok (.ireturn, 1) := by decide +kernel
theorem dX5_feels_120 : decode cX5_feels 120 = .ok (.iload 4, 2) := by decide +kernel
theorem dX5_feels_122 : decode cX5_feels 122 = .ok (.ireturn, 1) := by decide +kernel
theorem dX5_made_0 : decode cX5_made 0 = .ok (.aload_n 0, 1) := by decide +kernel
theorem dX5_made_1 : decode cX5_made 1 = .ok (.iload_n 1, 1) := by decide +kernel
theorem dX5_made_2 : decode cX5_made 2 = .ok (.iload_n 2, 1) := by decide +kernel
theorem dX5_made_3 : decode cX5_made 3 = .ok (.invokevirtual 228, 3) := by decide +kernel
theorem dX5_made_6 : decode cX5_made 6 = .ok (.ifCond .ne 5, 3) := by decide +kernel
theorem dX5_made_9 : decode cX5_made 9 = .ok (.iconst 0, 1) := by decide +kernel
theorem dX5_made_10 : decode cX5_made 10 = .ok (.ireturn, 1) := by decide +kernel
theorem dX5_made_11 : decode cX5_made 11 = .ok (.iconst 0, 1) := by decide +kernel
theorem dX5_made_12 : decode cX5_made 12 = .ok (.istore_n 3, 1) := by decide +kernel
theorem dX5_made_13 : decode cX5_made 13 = .ok (.iconst 0, 1) := by decide +kernel
theorem dX5_made_14 : decode cX5_made 14 = .ok (.istore 4, 2) := by decide +kernel
theorem dX5_made_16 : decode cX5_made 16 = .ok (.iload 4, 2) := by decide +kernel
theorem dX5_made_18 : decode cX5_made 18 = .ok (.bipush 8, 2) := by decide +kernel
theorem dX5_made_20 : decode cX5_made 20 = .ok (.if_icmp .ge 37, 3) := by decide +kernel
theorem dX5_made_23 : decode cX5_made 23 = .ok (.aload_n 0, 1) := by decide +kernel
theorem dX5_made_24 : decode cX5_made 24 = .ok (.getfield 7, 3) := by decide +kernel
theorem dX5_made_27 : decode cX5_made 27 = .ok (.iload 4, 2) := by decide +kernel
theorem dX5_made_29 : decode cX5_made 29 = .ok (.baload, 1) := by decide +kernel
theorem dX5_made_30 : decode cX5_made 30 = .ok (.ifCond .eq 21, 3) := by decide +kernel
theorem dX5_made_33 : decode cX5_made 33 = .ok (.aload_n 0, 1) := by decide +kernel
theorem dX5_made_34 : decode cX5_made 34 = .ok (.iload_n 1, 1) := by decide +kernel
theorem dX5_made_35 : decode cX5_made 35 = .ok (.iload_n 2, 1) := by decide +kernel
theorem dX5_made_36 : decode cX5_made 36 = .ok (.iload 4, 2) := by decide +kernel
theorem dX5_made_38 : decode cX5_made 38 = .ok (.invokevirtual 231, 3) := by decide +kernel
theorem dX5_made_41 : decode cX5_made 41 = .ok (.ifCond .eq 10, 3) := by decide +kernel
theorem dX5_made_44 : decode cX5_made 44 = .ok (.iload_n 3, 1) := by decide +kernel
theorem dX5_made_45 : decode cX5_made 45 = .ok (.iconst 1, 1) := by decide +kernel
theorem dX5_made_46 : decode cX5_made 46 = .ok (.iload 4, 2) := by decide +kernel
theorem dX5_made_48 : decode cX5_made 48 = .ok (.ishl, 1) := by decide +kernel
theorem dX5_made_49 : decode cX5_made 49 = .ok (.ior, 1) := by decide +kernel
theorem dX5_made_50 : decode cX5_made 50 = .ok (.istore_n 3, 1) := by decide +kernel
theorem dX5_made_51 : decode cX5_made 51 = .ok (.iinc 4 1, 3) := by decide +kernel
theorem dX5_made_54 : decode cX5_made 54 = .ok (.goto (-38), 3) := by decide +kernel
theorem dX5_made_57 : decode cX5_made 57 = .ok (.iload_n 3, 1) := by decide +kernel
theorem dX5_made_58 : decode cX5_made 58 = .ok (.ireturn, 1) := by decide +kernel
theorem dX5_feltBy_0 : decode cX5_feltBy 0 = .ok (.iconst 0, 1) := by decide +kernel
theorem dX5_feltBy_1 : decode cX5_feltBy 1 = .ok (.istore 4, 2) := by decide +kernel
theorem dX5_feltBy_3 : decode cX5_feltBy 3 = .ok (.iconst 0, 1) := by decide +kernel
theorem dX5_feltBy_4 : decode cX5_feltBy 4 = .ok (.istore 5, 2) := by decide +kernel
theorem dX5_feltBy_6 : decode cX5_feltBy 6 = .ok (.iload 5, 2) := by decide +kernel
theorem dX5_feltBy_8 : decode cX5_feltBy 8 = .ok (.bipush 8, 2) := by decide +kernel
theorem dX5_feltBy_10 : decode cX5_feltBy 10 = .ok (.if_icmp .ge 32, 3) := by decide +kernel
theorem dX5_feltBy_13 : decode cX5_feltBy 13 = .ok (.iload_n 3, 1) := by decide +kernel
theorem dX5_feltBy_14 : decode cX5_feltBy 14 = .ok (.iload 5, 2) := by decide +kernel
theorem dX5_feltBy_16 : decode cX5_feltBy 16 = .ok (.ishr, 1) := by decide +kernel
theorem dX5_feltBy_17 : decode cX5_feltBy 17 = .ok (.iconst 1, 1) := by decide +kernel
theorem dX5_feltBy_18 : decode cX5_feltBy 18 = .ok (.iand, 1) := by decide +kernel
theorem dX5_feltBy_19 : decode cX5_feltBy 19 = .ok (.iconst 1, 1) := by decide +kernel
theorem dX5_feltBy_20 : decode cX5_feltBy 20 = .ok (.if_icmp .ne 16, 3) := by decide +kernel
theorem dX5_feltBy_23 : decode cX5_feltBy 23 = .ok (.iload 4, 2) := by decide +kernel
theorem dX5_feltBy_25 : decode cX5_feltBy 25 = .ok (.aload_n 0, 1) := by decide +kernel
theorem dX5_feltBy_26 : decode cX5_feltBy 26 = .ok (.iload_n 1, 1) := by decide +kernel
theorem dX5_feltBy_27 : decode cX5_feltBy 27 = .ok (.iload_n 2, 1) := by decide +kernel
theorem dX5_feltBy_28 : decode cX5_feltBy 28 = .ok (.iload 5, 2) := by decide +kernel
theorem dX5_feltBy_30 : decode cX5_feltBy 30 = .ok (.invokevirtual 234, 3) := by decide +kernel
theorem dX5_feltBy_33 : decode cX5_feltBy 33 = .ok (.iadd, 1) := by decide +kernel
theorem dX5_feltBy_34 : decode cX5_feltBy 34 = .ok (.istore 4, 2) := by decide +kernel
theorem dX5_feltBy_36 : decode cX5_feltBy 36 = .ok (.iinc 5 1, 3) := by decide +kernel
theorem dX5_feltBy_39 : decode cX5_feltBy 39 = .ok (.goto (-33), 3) := by decide +kernel
theorem dX5_feltBy_42 : decode cX5_feltBy 42 = .ok (.iload 4, 2) := by decide +kernel
theorem dX5_feltBy_44 : decode cX5_feltBy 44 = .ok (.ireturn, 1) := by decide +kernel
theorem dX5_felt_0 : decode cX5_felt 0 = .ok (.iconst 0, 1) := by decide +kernel
theorem dX5_felt_1 : decode cX5_felt 1 = .ok (.istore_n 2, 1) := by decide +kernel
theorem dX5_felt_2 : decode cX5_felt 2 = .ok (.iconst 0, 1) := by decide +kernel
theorem dX5_felt_3 : decode cX5_felt 3 = .ok (.istore_n 3, 1) := by decide +kernel
theorem dX5_felt_4 : decode cX5_felt 4 = .ok (.iload_n 3, 1) := by decide +kernel
theorem dX5_felt_5 : decode cX5_felt 5 = .ok (.aload_n 0, 1) := by decide +kernel
theorem dX5_felt_6 : decode cX5_felt 6 = .ok (.getfield 79, 3) := by decide +kernel
theorem dX5_felt_9 : decode cX5_felt 9 = .ok (.if_icmp .ge 29, 3) := by decide +kernel
theorem dX5_felt_12 : decode cX5_felt 12 = .ok (.iload_n 3, 1) := by decide +kernel
theorem dX5_felt_13 : decode cX5_felt 13 = .ok (.iload_n 1, 1) := by decide +kernel
theorem dX5_felt_14 : decode cX5_felt 14 = .ok (.if_icmp .eq 18, 3) := by decide +kernel
theorem dX5_felt_17 : decode cX5_felt 17 = .ok (.iload_n 2, 1) := by decide +kernel
theorem dX5_felt_18 : decode cX5_felt 18 = .ok (.aload_n 0, 1) := by decide +kernel
theorem dX5_felt_19 : decode cX5_felt 19 = .ok (.iload_n 3, 1) := by decide +kernel
theorem dX5_felt_20 : decode cX5_felt 20 = .ok (.iload_n 1, 1) := by decide +kernel
theorem dX5_felt_21 : decode cX5_felt 21 = .ok (.aload_n 0, 1) := by decide +kernel
theorem dX5_felt_22 : decode cX5_felt 22 = .ok (.iload_n 3, 1) := by decide +kernel
theorem dX5_felt_23 : decode cX5_felt 23 = .ok (.iload_n 1, 1) := by decide +kernel
theorem dX5_felt_24 : decode cX5_felt 24 = .ok (.invokevirtual 107, 3) := by decide +kernel
theorem dX5_felt_27 : decode cX5_felt 27 = .ok (.invokevirtual 237, 3) := by decide +kernel
theorem dX5_felt_30 : decode cX5_felt 30 = .ok (.iadd, 1) := by decide +kernel
theorem dX5_felt_31 : decode cX5_felt 31 = .ok (.istore_n 2, 1) := by decide +kernel
theorem dX5_felt_32 : decode cX5_felt 32 = .ok (.iinc 3 1, 3) := by decide +kernel
theorem dX5_felt_35 : decode cX5_felt 35 = .ok (.goto (-31), 3) := by decide +kernel
theorem dX5_felt_38 : decode cX5_felt 38 = .ok (.iload_n 2, 1) := by decide +kernel
theorem dX5_felt_39 : decode cX5_felt 39 = .ok (.ireturn, 1) := by decide +kernel
theorem dX5_sandwich_0 : decode cX5_sandwich 0 = .ok (.aload_n 0, 1) := by decide +kernel
theorem dX5_sandwich_1 : decode cX5_sandwich 1 = .ok (.iload_n 1, 1) := by decide +kernel
theorem dX5_sandwich_2 : decode cX5_sandwich 2 = .ok (.iload_n 2, 1) := by decide +kernel
theorem dX5_sandwich_3 : decode cX5_sandwich 3 = .ok (.invokevirtual 240, 3) := by decide +kernel
theorem dX5_sandwich_6 : decode cX5_sandwich 6 = .ok (.ifCond .ne 7, 3) := by decide +kernel
theorem dX5_sandwich_9 : decode cX5_sandwich 9 = .ok (.sipush (-1000), 3) := by decide +kernel
theorem dX5_sandwich_12 : decode cX5_sandwich 12 = .ok (.ireturn, 1) := by decide +kernel
theorem dX5_sandwich_13 : decode cX5_sandwich 13 = .ok (.iload_n 3, 1) := by decide +kernel
theorem dX5_sandwich_14 : decode cX5_sandwich 14 = .ok (.bipush 10, 2) := by decide +kernel
theorem dX5_sandwich_16 : decode cX5_sandwich 16 = .ok (.bipush 17, 2) := by decide +kernel
theorem dX5_sandwich_18 : decode cX5_sandwich 18 = .ok (.invokestatic 82, 3) := by decide +kernel
theorem dX5_sandwich_21 : decode cX5_sandwich 21 = .ok (.ifCond .eq 14, 3) := by decide +kernel
theorem dX5_sandwich_24 : decode cX5_sandwich 24 = .ok (.aload_n 0, 1) := by decide +kernel
theorem dX5_sandwich_25 : decode cX5_sandwich 25 = .ok (.iload_n 1, 1) := by decide +kernel
theorem dX5_sandwich_26 : decode cX5_sandwich 26 = .ok (.iload_n 2, 1) := by decide +kernel
theorem dX5_sandwich_27 : decode cX5_sandwich 27 = .ok (.iload_n 3, 1) := by decide +kernel
theorem dX5_sandwich_28 : decode cX5_sandwich 28 = .ok (.bipush 10, 2) := by decide +kernel
theorem dX5_sandwich_30 : decode cX5_sandwich 30 = .ok (.isub, 1) := by decide +kernel
theorem dX5_sandwich_31 : decode cX5_sandwich 31 = .ok (.invokevirtual 234, 3) := by decide +kernel
theorem dX5_sandwich_34 : decode cX5_sandwich 34 = .ok (.ireturn, 1) := by decide +kernel
theorem dX5_sandwich_35 : decode cX5_sandwich 35 = .ok (.aload_n 0, 1) := by decide +kernel
theorem dX5_sandwich_36 : decode cX5_sandwich 36 = .ok (.iload_n 1, 1) := by decide +kernel
theorem dX5_sandwich_37 : decode cX5_sandwich 37 = .ok (.iload_n 2, 1) := by decide +kernel
theorem dX5_sandwich_38 : decode cX5_sandwich 38 = .ok (.invokevirtual 107, 3) := by decide +kernel
theorem dX5_sandwich_41 : decode cX5_sandwich 41 = .ok (.istore 4, 2) := by decide +kernel
theorem dX5_sandwich_43 : decode cX5_sandwich 43 = .ok (.iload_n 3, 1) := by decide +kernel
theorem dX5_sandwich_44 : decode cX5_sandwich 44 = .ok (.tableswitch 65 0 3 #[32, 35, 41, 56], 32) := by decide +kernel
theorem dX5_sandwich_76 : decode cX5_sandwich 76 = .ok (.iload 4, 2) := by decide +kernel
theorem dX5_sandwich_78 : decode cX5_sandwich 78 = .ok (.ireturn, 1) := by decide +kernel
theorem dX5_sandwich_79 : decode cX5_sandwich 79 = .ok (.iload 4, 2) := by decide +kernel
theorem dX5_sandwich_81 : decode cX5_sandwich 81 = .ok (.invokestatic 110, 3) := by decide +kernel
theorem dX5_sandwich_84 : decode cX5_sandwich 84 = .ok (.ireturn, 1) := by decide +kernel
theorem dX5_sandwich_85 : decode cX5_sandwich 85 = .ok (.aload_n 0, 1) := by decide +kernel
theorem dX5_sandwich_86 : decode cX5_sandwich 86 = .ok (.iload_n 1, 1) := by decide +kernel
theorem dX5_sandwich_87 : decode cX5_sandwich 87 = .ok (.iload_n 2, 1) := by decide +kernel
theorem dX5_sandwich_88 : decode cX5_sandwich 88 = .ok (.invokevirtual 228, 3) := by decide +kernel
theorem dX5_sandwich_91 : decode cX5_sandwich 91 = .ok (.ifCond .eq 7, 3) := by decide +kernel
theorem dX5_sandwich_94 : decode cX5_sandwich 94 = .ok (.iconst 1, 1) := by decide +kernel
theorem dX5_sandwich_95 : decode cX5_sandwich 95 = .ok (.goto 4, 3) := by decide +kernel
theorem dX5_sandwich_98 : decode cX5_sandwich 98 = .ok (.iconst 0, 1) := by decide +kernel
theorem dX5_sandwich_99 : decode cX5_sandwich 99 = .ok (.ireturn, 1) := by decide +kernel
theorem dX5_sandwich_100 : decode cX5_sandwich 100 = .ok (.aload_n 0, 1) := by decide +kernel
theorem dX5_sandwich_101 : decode cX5_sandwich 101 = .ok (.iload_n 1, 1) := by decide +kernel
theorem dX5_sandwich_102 : decode cX5_sandwich 102 = .ok (.iload_n 2, 1) := by decide +kernel
theorem dX5_sandwich_103 : decode cX5_sandwich 103 = .ok (.iload 4, 2) := by decide +kernel
theorem dX5_sandwich_105 : decode cX5_sandwich 105 = .ok (.invokevirtual 237, 3) := by decide +kernel
theorem dX5_sandwich_108 : decode cX5_sandwich 108 = .ok (.ireturn, 1) := by decide +kernel
theorem dX5_sandwich_109 : decode cX5_sandwich 109 = .ok (.sipush (-1000), 3) := by decide +kernel
theorem dX5_sandwich_112 : decode cX5_sandwich 112 = .ok (.ireturn, 1) := by decide +kernel
theorem dX5_glad_0 : decode cX5_glad 0 = .ok (.iconst 0, 1) := by decide +kernel
theorem dX5_glad_1 : decode cX5_glad 1 = .ok (.istore_n 1, 1) := by decide +kernel
theorem dX5_glad_2 : decode cX5_glad 2 = .ok (.iconst 0, 1) := by decide +kernel
theorem dX5_glad_3 : decode cX5_glad 3 = .ok (.istore_n 2, 1) := by decide +kernel
theorem dX5_glad_4 : decode cX5_glad 4 = .ok (.iload_n 2, 1) := by decide +kernel
theorem dX5_glad_5 : decode cX5_glad 5 = .ok (.aload_n 0, 1) := by decide +kernel
theorem dX5_glad_6 : decode cX5_glad 6 = .ok (.getfield 79, 3) := by decide +kernel
theorem dX5_glad_9 : decode cX5_glad 9 = .ok (.if_icmp .ge 18, 3) := by decide +kernel
theorem dX5_glad_12 : decode cX5_glad 12 = .ok (.iload_n 1, 1) := by decide +kernel
theorem dX5_glad_13 : decode cX5_glad 13 = .ok (.aload_n 0, 1) := by decide +kernel
theorem dX5_glad_14 : decode cX5_glad 14 = .ok (.getfield 20, 3) := by decide +kernel
theorem dX5_glad_17 : decode cX5_glad 17 = .ok (.iload_n 2, 1) := by decide +kernel
theorem dX5_glad_18 : decode cX5_glad 18 = .ok (.iaload, 1) := by decide +kernel
theorem dX5_glad_19 : decode cX5_glad 19 = .ok (.iadd, 1) := by decide +kernel
theorem dX5_glad_20 : decode cX5_glad 20 = .ok (.istore_n 1, 1) := by decide +kernel
theorem dX5_glad_21 : decode cX5_glad 21 = .ok (.iinc 2 1, 3) := by decide +kernel
theorem dX5_glad_24 : decode cX5_glad 24 = .ok (.goto (-20), 3) := by decide +kernel
theorem dX5_glad_27 : decode cX5_glad 27 = .ok (.iload_n 1, 1) := by decide +kernel
theorem dX5_glad_28 : decode cX5_glad 28 = .ok (.ireturn, 1) := by decide +kernel
theorem dX5_passes_0 : decode cX5_passes 0 = .ok (.iconst 0, 1) := by decide +kernel
theorem dX5_passes_1 : decode cX5_passes 1 = .ok (.istore_n 1, 1) := by decide +kernel
theorem dX5_passes_2 : decode cX5_passes 2 = .ok (.iload_n 1, 1) := by decide +kernel
theorem dX5_passes_3 : decode cX5_passes 3 = .ok (.aload_n 0, 1) := by decide +kernel
theorem dX5_passes_4 : decode cX5_passes 4 = .ok (.getfield 79, 3) := by decide +kernel
theorem dX5_passes_7 : decode cX5_passes 7 = .ok (.if_icmp .ge 70, 3) := by decide +kernel
theorem dX5_passes_10 : decode cX5_passes 10 = .ok (.aload_n 0, 1) := by decide +kernel
theorem dX5_passes_11 : decode cX5_passes 11 = .ok (.getfield 44, 3) := by decide +kernel
theorem dX5_passes_14 : decode cX5_passes 14 = .ok (.iload_n 1, 1) := by decide +kernel
theorem dX5_passes_15 : decode cX5_passes 15 = .ok (.aload_n 0, 1) := by decide +kernel
theorem dX5_passes_16 : decode cX5_passes 16 = .ok (.getfield 20, 3) := by decide +kernel
theorem dX5_passes_19 : decode cX5_passes 19 = .ok (.iload_n 1, 1) := by decide +kernel
theorem dX5_passes_20 : decode cX5_passes 20 = .ok (.iaload, 1) := by decide +kernel
theorem dX5_passes_21 : decode cX5_passes 21 = .ok (.aload_n 0, 1) := by decide +kernel
theorem dX5_passes_22 : decode cX5_passes 22 = .ok (.iload_n 1, 1) := by decide +kernel
theorem dX5_passes_23 : decode cX5_passes 23 = .ok (.invokevirtual 120, 3) := by decide +kernel
theorem dX5_passes_26 : decode cX5_passes 26 = .ok (.iadd, 1) := by decide +kernel
theorem dX5_passes_27 : decode cX5_passes 27 = .ok (.invokestatic 123, 3) := by decide +kernel
theorem dX5_passes_30 : decode cX5_passes 30 = .ok (.iastore, 1) := by decide +kernel
theorem dX5_passes_31 : decode cX5_passes 31 = .ok (.iconst 0, 1) := by decide +kernel
theorem dX5_passes_32 : decode cX5_passes 32 = .ok (.istore_n 2, 1) := by decide +kernel
theorem dX5_passes_33 : decode cX5_passes 33 = .ok (.iload_n 2, 1) := by decide +kernel
theorem dX5_passes_34 : decode cX5_passes 34 = .ok (.aload_n 0, 1) := by decide +kernel
theorem dX5_passes_35 : decode cX5_passes 35 = .ok (.getfield 79, 3) := by decide +kernel
theorem dX5_passes_38 : decode cX5_passes 38 = .ok (.if_icmp .ge 33, 3) := by decide +kernel
theorem dX5_passes_41 : decode cX5_passes 41 = .ok (.iload_n 1, 1) := by decide +kernel
theorem dX5_passes_42 : decode cX5_passes 42 = .ok (.iload_n 2, 1) := by decide +kernel
theorem dX5_passes_43 : decode cX5_passes 43 = .ok (.if_icmp .eq 22, 3) := by decide +kernel
theorem dX5_passes_46 : decode cX5_passes 46 = .ok (.aload_n 0, 1) := by decide +kernel
theorem dX5_passes_47 : decode cX5_passes 47 = .ok (.iload_n 1, 1) := by decide +kernel
theorem dX5_passes_48 : decode cX5_passes 48 = .ok (.iload_n 2, 1) := by decide +kernel
theorem dX5_passes_49 : decode cX5_passes 49 = .ok (.invokevirtual 107, 3) := by decide +kernel
theorem dX5_passes_52 : decode cX5_passes 52 = .ok (.ifCond .ne 13, 3) := by decide +kernel
theorem dX5_passes_55 : decode cX5_passes 55 = .ok (.aload_n 0, 1) := by decide +kernel
theorem dX5_passes_56 : decode cX5_passes 56 = .ok (.dup, 1) := by decide +kernel
theorem dX5_passes_57 : decode cX5_passes 57 = .ok (.getfield 243, 3) := by decide +kernel
theorem dX5_passes_60 : decode cX5_passes 60 = .ok (.iconst 1, 1) := by decide +kernel
theorem dX5_passes_61 : decode cX5_passes 61 = .ok (.iadd, 1) := by decide +kernel
theorem dX5_passes_62 : decode cX5_passes 62 = .ok (.putfield 243, 3) := by decide +kernel
theorem dX5_passes_65 : decode cX5_passes 65 = .ok (.iinc 2 1, 3) := by decide +kernel
theorem dX5_passes_68 : decode cX5_passes 68 = .ok (.goto (-35), 3) := by decide +kernel
theorem dX5_passes_71 : decode cX5_passes 71 = .ok (.iinc 1 1, 3) := by decide +kernel
theorem dX5_passes_74 : decode cX5_passes 74 = .ok (.goto (-72), 3) := by decide +kernel
theorem dX5_passes_77 : decode cX5_passes 77 = .ok (.iconst 0, 1) := by decide +kernel
theorem dX5_passes_78 : decode cX5_passes 78 = .ok (.istore_n 1, 1) := by decide +kernel
theorem dX5_passes_79 : decode cX5_passes 79 = .ok (.iload_n 1, 1) := by decide +kernel
theorem dX5_passes_80 : decode cX5_passes 80 = .ok (.aload_n 0, 1) := by decide +kernel
theorem dX5_passes_81 : decode cX5_passes 81 = .ok (.getfield 79, 3) := by decide +kernel
theorem dX5_passes_84 : decode cX5_passes 84 = .ok (.if_icmp .ge 21, 3) := by decide +kernel
theorem dX5_passes_87 : decode cX5_passes 87 = .ok (.aload_n 0, 1) := by decide +kernel
theorem dX5_passes_88 : decode cX5_passes 88 = .ok (.getfield 20, 3) := by decide +kernel
theorem dX5_passes_91 : decode cX5_passes 91 = .ok (.iload_n 1, 1) := by decide +kernel
theorem dX5_passes_92 : decode cX5_passes 92 = .ok (.aload_n 0, 1) := by decide +kernel
theorem dX5_passes_93 : decode cX5_passes 93 = .ok (.getfield 44, 3) := by decide +kernel
theorem dX5_passes_96 : decode cX5_passes 96 = .ok (.iload_n 1, 1) := by decide +kernel
theorem dX5_passes_97 : decode cX5_passes 97 = .ok (.iaload, 1) := by decide +kernel
theorem dX5_passes_98 : decode cX5_passes 98 = .ok (.iastore, 1) := by decide +kernel
theorem dX5_passes_99 : decode cX5_passes 99 = .ok (.iinc 1 1, 3) := by decide +kernel
theorem dX5_passes_102 : decode cX5_passes 102 = .ok (.goto (-23), 3) := by decide +kernel
theorem dX5_passes_105 : decode cX5_passes 105 = .ok (.return_, 1) := by decide +kernel
theorem dX5_sunday_0 : decode cX5_sunday 0 = .ok (.aload_n 0, 1) := by decide +kernel
theorem dX5_sunday_1 : decode cX5_sunday 1 = .ok (.getfield 93, 3) := by decide +kernel
theorem dX5_sunday_4 : decode cX5_sunday 4 = .ok (.sipush 999, 3) := by decide +kernel
theorem dX5_sunday_7 : decode cX5_sunday 7 = .ok (.if_icmp .ne 7, 3) := by decide +kernel
theorem dX5_sunday_10 : decode cX5_sunday 10 = .ok (.sipush (-1000), 3) := by decide +kernel
theorem dX5_sunday_13 : decode cX5_sunday 13 = .ok (.ireturn, 1) := by decide +kernel
theorem dX5_sunday_14 : decode cX5_sunday 14 = .ok (.aload_n 0, 1) := by decide +kernel
theorem dX5_sunday_15 : decode cX5_sunday 15 = .ok (.invokevirtual 246, 3) := by decide +kernel
theorem dX5_sunday_18 : decode cX5_sunday 18 = .ok (.aload_n 0, 1) := by decide +kernel
theorem dX5_sunday_19 : decode cX5_sunday 19 = .ok (.dup, 1) := by decide +kernel
theorem dX5_sunday_20 : decode cX5_sunday 20 = .ok (.getfield 93, 3) := by decide +kernel
theorem dX5_sunday_23 : decode cX5_sunday 23 = .ok (.iconst 1, 1) := by decide +kernel
theorem dX5_sunday_24 : decode cX5_sunday 24 = .ok (.iadd, 1) := by decide +kernel
theorem dX5_sunday_25 : decode cX5_sunday 25 = .ok (.putfield 93, 3) := by decide +kernel
theorem dX5_sunday_28 : decode cX5_sunday 28 = .ok (.aload_n 0, 1) := by decide +kernel
theorem dX5_sunday_29 : decode cX5_sunday 29 = .ok (.invokevirtual 249, 3) := by decide +kernel
theorem dX5_sunday_32 : decode cX5_sunday 32 = .ok (.ireturn, 1) := by decide +kernel
theorem dX5_keeps_0 : decode cX5_keeps 0 = .ok (.iconst 0, 1) := by decide +kernel
theorem dX5_keeps_1 : decode cX5_keeps 1 = .ok (.istore_n 1, 1) := by decide +kernel
theorem dX5_keeps_2 : decode cX5_keeps 2 = .ok (.iload_n 1, 1) := by decide +kernel
theorem dX5_keeps_3 : decode cX5_keeps 3 = .ok (.iconst 5, 1) := by decide +kernel
theorem dX5_keeps_4 : decode cX5_keeps 4 = .ok (.if_icmp .ge 21, 3) := by decide +kernel
theorem dX5_keeps_7 : decode cX5_keeps 7 = .ok (.aload_n 0, 1) := by decide +kernel
theorem dX5_keeps_8 : decode cX5_keeps 8 = .ok (.getfield 47, 3) := by decide +kernel
theorem dX5_keeps_11 : decode cX5_keeps 11 = .ok (.iload_n 1, 1) := by decide +kernel
theorem dX5_keeps_12 : decode cX5_keeps 12 = .ok (.aload_n 0, 1) := by decide +kernel
theorem dX5_keeps_13 : decode cX5_keeps 13 = .ok (.getfield 20, 3) := by decide +kernel
theorem dX5_keeps_16 : decode cX5_keeps 16 = .ok (.iload_n 1, 1) := by decide +kernel
theorem dX5_keeps_17 : decode cX5_keeps 17 = .ok (.iaload, 1) := by decide +kernel
theorem dX5_keeps_18 : decode cX5_keeps 18 = .ok (.iastore, 1) := by decide +kernel
theorem dX5_keeps_19 : decode cX5_keeps 19 = .ok (.iinc 1 1, 3) := by decide +kernel
theorem dX5_keeps_22 : decode cX5_keeps 22 = .ok (.goto (-20), 3) := by decide +kernel
theorem dX5_keeps_25 : decode cX5_keeps 25 = .ok (.return_, 1) := by decide +kernel
theorem dX5_restores_0 : decode cX5_restores 0 = .ok (.iconst 0, 1) := by decide +kernel
theorem dX5_restores_1 : decode cX5_restores 1 = .ok (.istore_n 1, 1) := by decide +kernel
theorem dX5_restores_2 : decode cX5_restores 2 = .ok (.iload_n 1, 1) := by decide +kernel
theorem dX5_restores_3 : decode cX5_restores 3 = .ok (.iconst 5, 1) := by decide +kernel
theorem dX5_restores_4 : decode cX5_restores 4 = .ok (.if_icmp .ge 21, 3) := by decide +kernel
theorem dX5_restores_7 : decode cX5_restores 7 = .ok (.aload_n 0, 1) := by decide +kernel
theorem dX5_restores_8 : decode cX5_restores 8 = .ok (.getfield 20, 3) := by decide +kernel
theorem dX5_restores_11 : decode cX5_restores 11 = .ok (.iload_n 1, 1) := by decide +kernel
theorem dX5_restores_12 : decode cX5_restores 12 = .ok (.aload_n 0, 1) := by decide +kernel
theorem dX5_restores_13 : decode cX5_restores 13 = .ok (.getfield 47, 3) := by decide +kernel
theorem dX5_restores_16 : decode cX5_restores 16 = .ok (.iload_n 1, 1) := by decide +kernel
theorem dX5_restores_17 : decode cX5_restores 17 = .ok (.iaload, 1) := by decide +kernel
theorem dX5_restores_18 : decode cX5_restores 18 = .ok (.iastore, 1) := by decide +kernel
theorem dX5_restores_19 : decode cX5_restores 19 = .ok (.iinc 1 1, 3) := by decide +kernel
theorem dX5_restores_22 : decode cX5_restores 22 = .ok (.goto (-20), 3) := by decide +kernel
theorem dX5_restores_25 : decode cX5_restores 25 = .ok (.return_, 1) := by decide +kernel
theorem dX5_runs_0 : decode cX5_runs 0 = .ok (.aload_n 0, 1) := by decide +kernel
theorem dX5_runs_1 : decode cX5_runs 1 = .ok (.invokevirtual 252, 3) := by decide +kernel
theorem dX5_runs_4 : decode cX5_runs 4 = .ok (.aload_n 0, 1) := by decide +kernel
theorem dX5_runs_5 : decode cX5_runs 5 = .ok (.iconst 0, 1) := by decide +kernel
theorem dX5_runs_6 : decode cX5_runs 6 = .ok (.putfield 243, 3) := by decide +kernel
theorem dX5_runs_9 : decode cX5_runs 9 = .ok (.iconst 0, 1) := by decide +kernel
theorem dX5_runs_10 : decode cX5_runs 10 = .ok (.istore_n 2, 1) := by decide +kernel
theorem dX5_runs_11 : decode cX5_runs 11 = .ok (.iload_n 2, 1) := by decide +kernel
theorem dX5_runs_12 : decode cX5_runs 12 = .ok (.iload_n 1, 1) := by decide +kernel
theorem dX5_runs_13 : decode cX5_runs 13 = .ok (.if_icmp .ge 13, 3) := by decide +kernel
theorem dX5_runs_16 : decode cX5_runs 16 = .ok (.aload_n 0, 1) := by decide +kernel
theorem dX5_runs_17 : decode cX5_runs 17 = .ok (.invokevirtual 246, 3) := by decide +kernel
theorem dX5_runs_20 : decode cX5_runs 20 = .ok (.iinc 2 1, 3) := by decide +kernel
theorem dX5_runs_23 : decode cX5_runs 23 = .ok (.goto (-12), 3) := by decide +kernel
theorem dX5_runs_26 : decode cX5_runs 26 = .ok (.return_, 1) := by decide +kernel
theorem dX5_gladBehind_0 : decode cX5_gladBehind 0 = .ok (.aload_n 0, 1) := by decide +kernel
theorem dX5_gladBehind_1 : decode cX5_gladBehind 1 = .ok (.iload_n 1, 1) := by decide +kernel
theorem dX5_gladBehind_2 : decode cX5_gladBehind 2 = .ok (.invokevirtual 255, 3) := by decide +kernel
theorem dX5_gladBehind_5 : decode cX5_gladBehind 5 = .ok (.aload_n 0, 1) := by decide +kernel
theorem dX5_gladBehind_6 : decode cX5_gladBehind 6 = .ok (.invokevirtual 249, 3) := by decide +kernel
theorem dX5_gladBehind_9 : decode cX5_gladBehind 9 = .ok (.istore_n 2, 1) := by decide +kernel
theorem dX5_gladBehind_10 : decode cX5_gladBehind 10 = .ok (.aload_n 0, 1) := by decide +kernel
theorem dX5_gladBehind_11 : decode cX5_gladBehind 11 = .ok (.invokevirtual 258, 3) := by decide +kernel
theorem dX5_gladBehind_14 : decode cX5_gladBehind 14 = .ok (.iload_n 2, 1) := by decide +kernel
theorem dX5_gladBehind_15 : decode cX5_gladBehind 15 = .ok (.ireturn, 1) := by decide +kernel
theorem dX5_run_0 : decode cX5_run 0 = .ok (.iload_n 1, 1) := by decide +kernel
theorem dX5_run_1 : decode cX5_run 1 = .ok (.iconst 0, 1) := by decide +kernel
theorem dX5_run_2 : decode cX5_run 2 = .ok (.bipush 40, 2) := by decide +kernel
theorem dX5_run_4 : decode cX5_run 4 = .ok (.invokestatic 82, 3) := by decide +kernel
theorem dX5_run_7 : decode cX5_run 7 = .ok (.ifCond .eq 23, 3) := by decide +kernel
theorem dX5_run_10 : decode cX5_run 10 = .ok (.iload_n 2, 1) := by decide +kernel
theorem dX5_run_11 : decode cX5_run 11 = .ok (.iconst 0, 1) := by decide +kernel
theorem dX5_run_12 : decode cX5_run 12 = .ok (.iconst 1, 1) := by decide +kernel
theorem dX5_run_13 : decode cX5_run 13 = .ok (.invokestatic 82, 3) := by decide +kernel
theorem dX5_run_16 : decode cX5_run 16 = .ok (.ifCond .ne 18, 3) := by decide +kernel
theorem dX5_run_19 : decode cX5_run 19 = .ok (.aload_n 0, 1) := by decide +kernel
theorem dX5_run_20 : decode cX5_run 20 = .ok (.iload_n 2, 1) := by decide +kernel
theorem dX5_run_21 : decode cX5_run 21 = .ok (.bipush 10, 2) := by decide +kernel
theorem dX5_run_23 : decode cX5_run 23 = .ok (.isub, 1) := by decide +kernel
theorem dX5_run_24 : decode cX5_run 24 = .ok (.invokevirtual 86, 3) := by decide +kernel
theorem dX5_run_27 : decode cX5_run 27 = .ok (.ifCond .ne 7, 3) := by decide +kernel
theorem dX5_run_30 : decode cX5_run 30 = .ok (.sipush (-1000), 3) := by decide +kernel
theorem dX5_run_33 : decode cX5_run 33 = .ok (.ireturn, 1) := by decide +kernel
theorem dX5_run_34 : decode cX5_run 34 = .ok (.aload_n 0, 1) := by decide +kernel
theorem dX5_run_35 : decode cX5_run 35 = .ok (.iload_n 1, 1) := by decide +kernel
theorem dX5_run_36 : decode cX5_run 36 = .ok (.invokevirtual 255, 3) := by decide +kernel
theorem dX5_run_39 : decode cX5_run 39 = .ok (.iload_n 2, 1) := by decide +kernel
theorem dX5_run_40 : decode cX5_run 40 = .ok (.ifCond .ne 10, 3) := by decide +kernel
theorem dX5_run_43 : decode cX5_run 43 = .ok (.aload_n 0, 1) := by decide +kernel
theorem dX5_run_44 : decode cX5_run 44 = .ok (.invokevirtual 249, 3) := by decide +kernel
theorem dX5_run_47 : decode cX5_run 47 = .ok (.goto 24, 3) := by decide +kernel
theorem dX5_run_50 : decode cX5_run 50 = .ok (.iload_n 2, 1) := by decide +kernel
theorem dX5_run_51 : decode cX5_run 51 = .ok (.iconst 1, 1) := by decide +kernel
theorem dX5_run_52 : decode cX5_run 52 = .ok (.if_icmp .ne 10, 3) := by decide +kernel
theorem dX5_run_55 : decode cX5_run 55 = .ok (.aload_n 0, 1) := by decide +kernel
theorem dX5_run_56 : decode cX5_run 56 = .ok (.getfield 243, 3) := by decide +kernel
theorem dX5_run_59 : decode cX5_run 59 = .ok (.goto 12, 3) := by decide +kernel
theorem dX5_run_62 : decode cX5_run 62 = .ok (.aload_n 0, 1) := by decide +kernel
theorem dX5_run_63 : decode cX5_run 63 = .ok (.getfield 20, 3) := by decide +kernel
theorem dX5_run_66 : decode cX5_run 66 = .ok (.iload_n 2, 1) := by decide +kernel
theorem dX5_run_67 : decode cX5_run 67 = .ok (.bipush 10, 2) := by decide +kernel
theorem dX5_run_69 : decode cX5_run 69 = .ok (.isub, 1) := by decide +kernel
theorem dX5_run_70 : decode cX5_run 70 = .ok (.iaload, 1) := by decide +kernel
theorem dX5_run_71 : decode cX5_run 71 = .ok (.istore_n 3, 1) := by decide +kernel
theorem dX5_run_72 : decode cX5_run 72 = .ok (.aload_n 0, 1) := by decide +kernel
theorem dX5_run_73 : decode cX5_run 73 = .ok (.invokevirtual 258, 3) := by decide +kernel
theorem dX5_run_76 : decode cX5_run 76 = .ok (.iload_n 3, 1) := by decide +kernel
theorem dX5_run_77 : decode cX5_run 77 = .ok (.ireturn, 1) := by decide +kernel
theorem dX5_isAlike_0 : decode cX5_isAlike 0 = .ok (.iconst 0, 1) := by decide +kernel
theorem dX5_isAlike_1 : decode cX5_isAlike 1 = .ok (.istore_n 3, 1) := by decide +kernel
theorem dX5_isAlike_2 : decode cX5_isAlike 2 = .ok (.iload_n 3, 1) := by decide +kernel
theorem dX5_isAlike_3 : decode cX5_isAlike 3 = .ok (.aload_n 0, 1) := by decide +kernel
theorem dX5_isAlike_4 : decode cX5_isAlike 4 = .ok (.getfield 79, 3) := by decide +kernel
theorem dX5_isAlike_7 : decode cX5_isAlike 7 = .ok (.if_icmp .ge 34, 3) := by decide +kernel
theorem dX5_isAlike_10 : decode cX5_isAlike 10 = .ok (.aload_n 0, 1) := by decide +kernel
theorem dX5_isAlike_11 : decode cX5_isAlike 11 = .ok (.getfield 50, 3) := by decide +kernel
theorem dX5_isAlike_14 : decode cX5_isAlike 14 = .ok (.iconst 5, 1) := by decide +kernel
theorem dX5_isAlike_15 : decode cX5_isAlike 15 = .ok (.iload_n 1, 1) := by decide +kernel
theorem dX5_isAlike_16 : decode cX5_isAlike 16 = .ok (.imul, 1) := by decide +kernel
theorem dX5_isAlike_17 : decode cX5_isAlike 17 = .ok (.iload_n 3, 1) := by decide +kernel
theorem dX5_isAlike_18 : decode cX5_isAlike 18 = .ok (.iadd, 1) := by decide +kernel
theorem dX5_isAlike_19 : decode cX5_isAlike 19 = .ok (.iaload, 1) := by decide +kernel
theorem dX5_isAlike_20 : decode cX5_isAlike 20 = .ok (.aload_n 0, 1) := by decide +kernel
theorem dX5_isAlike_21 : decode cX5_isAlike 21 = .ok (.getfield 50, 3) := by decide +kernel
theorem dX5_isAlike_24 : decode cX5_isAlike 24 = .ok (.iconst 5, 1) := by decide +kernel
theorem dX5_isAlike_25 : decode cX5_isAlike 25 = .ok (.iload_n 2, 1) := by decide +kernel
theorem dX5_isAlike_26 : decode cX5_isAlike 26 = .ok (.imul, 1) := by decide +kernel
theorem dX5_isAlike_27 : decode cX5_isAlike 27 = .ok (.iload_n 3, 1) := by decide +kernel
theorem dX5_isAlike_28 : decode cX5_isAlike 28 = .ok (.iadd, 1) := by decide +kernel
theorem dX5_isAlike_29 : decode cX5_isAlike 29 = .ok (.iaload, 1) := by decide +kernel
theorem dX5_isAlike_30 : decode cX5_isAlike 30 = .ok (.if_icmp .eq 5, 3) := by decide +kernel
theorem dX5_isAlike_33 : decode cX5_isAlike 33 = .ok (.iconst 0, 1) := by decide +kernel
theorem dX5_isAlike_34 : decode cX5_isAlike 34 = .ok (.ireturn, 1) := by decide +kernel
theorem dX5_isAlike_35 : decode cX5_isAlike 35 = .ok (.iinc 3 1, 3) := by decide +kernel
theorem dX5_isAlike_38 : decode cX5_isAlike 38 = .ok (.goto (-36), 3) := by decide +kernel
theorem dX5_isAlike_41 : decode cX5_isAlike 41 = .ok (.iconst 1, 1) := by decide +kernel
theorem dX5_isAlike_42 : decode cX5_isAlike 42 = .ok (.ireturn, 1) := by decide +kernel
theorem dX5_remembers_0 : decode cX5_remembers 0 = .ok (.aload_n 0, 1) := by decide +kernel
theorem dX5_remembers_1 : decode cX5_remembers 1 = .ok (.invokevirtual 252, 3) := by decide +kernel
theorem dX5_remembers_4 : decode cX5_remembers 4 = .ok (.iconst 0, 1) := by decide +kernel
theorem dX5_remembers_5 : decode cX5_remembers 5 = .ok (.istore_n 1, 1) := by decide +kernel
theorem dX5_remembers_6 : decode cX5_remembers 6 = .ok (.iload_n 1, 1) := by decide +kernel
theorem dX5_remembers_7 : decode cX5_remembers 7 = .ok (.bipush 41, 2) := by decide +kernel
theorem dX5_remembers_9 : decode cX5_remembers 9 = .ok (.if_icmp .ge 46, 3) := by decide +kernel
theorem dX5_remembers_12 : decode cX5_remembers 12 = .ok (.iload_n 1, 1) := by decide +kernel
theorem dX5_remembers_13 : decode cX5_remembers 13 = .ok (.ifCond .le 7, 3) := by decide +kernel
theorem dX5_remembers_16 : decode cX5_remembers 16 = .ok (.aload_n 0, 1) := by decide +kernel
theorem dX5_remembers_17 : decode cX5_remembers 17 = .ok (.invokevirtual 246, 3) := by decide +kernel
theorem dX5_remembers_20 : decode cX5_remembers 20 = .ok (.iconst 0, 1) := by decide +kernel
theorem dX5_remembers_21 : decode cX5_remembers 21 = .ok (.istore_n 2, 1) := by decide +kernel
theorem dX5_remembers_22 : decode cX5_remembers 22 = .ok (.iload_n 2, 1) := by decide +kernel
theorem dX5_remembers_23 : decode cX5_remembers 23 = .ok (.iconst 5, 1) := by decide +kernel
theorem dX5_remembers_24 : decode cX5_remembers 24 = .ok (.if_icmp .ge 25, 3) := by decide +kernel
theorem dX5_remembers_27 : decode cX5_remembers 27 = .ok (.aload_n 0, 1) := by decide +kernel
theorem dX5_remembers_28 : decode cX5_remembers 28 = .ok (.getfield 50, 3) := by decide +kernel
theorem dX5_remembers_31 : decode cX5_remembers 31 = .ok (.iconst 5, 1) := by decide +kernel
theorem dX5_remembers_32 : decode cX5_remembers 32 = .ok (.iload_n 1, 1) := by decide +kernel
theorem dX5_remembers_33 : decode cX5_remembers 33 = .ok (.imul, 1) := by decide +kernel
theorem dX5_remembers_34 : decode cX5_remembers 34 = .ok (.iload_n 2, 1) := by decide +kernel
theorem dX5_remembers_35 : decode cX5_remembers 35 = .ok (.iadd, 1) := by decide +kernel
theorem dX5_remembers_36 : decode cX5_remembers 36 = .ok (.aload_n 0, 1) := by decide +kernel
theorem dX5_remembers_37 : decode cX5_remembers 37 = .ok (.getfield 20, 3) := by decide +kernel
theorem dX5_remembers_40 : decode cX5_remembers 40 = .ok (.iload_n 2, 1) := by decide +kernel
theorem dX5_remembers_41 : decode cX5_remembers 41 = .ok (.iaload, 1) := by decide +kernel
theorem dX5_remembers_42 : decode cX5_remembers 42 = .ok (.iastore, 1) := by decide +kernel
theorem dX5_remembers_43 : decode cX5_remembers 43 = .ok (.iinc 2 1, 3) := by decide +kernel
theorem dX5_remembers_46 : decode cX5_remembers 46 = .ok (.goto (-24), 3) := by decide +kernel
theorem dX5_remembers_49 : decode cX5_remembers 49 = .ok (.iinc 1 1, 3) := by decide +kernel
theorem dX5_remembers_52 : decode cX5_remembers 52 = .ok (.goto (-46), 3) := by decide +kernel
theorem dX5_remembers_55 : decode cX5_remembers 55 = .ok (.aload_n 0, 1) := by decide +kernel
theorem dX5_remembers_56 : decode cX5_remembers 56 = .ok (.invokevirtual 258, 3) := by decide +kernel
theorem dX5_remembers_59 : decode cX5_remembers 59 = .ok (.return_, 1) := by decide +kernel
theorem dX5_again_0 : decode cX5_again 0 = .ok (.iload_n 1, 1) := by decide +kernel
theorem dX5_again_1 : decode cX5_again 1 = .ok (.iconst 0, 1) := by decide +kernel
theorem dX5_again_2 : decode cX5_again 2 = .ok (.iconst 2, 1) := by decide +kernel
theorem dX5_again_3 : decode cX5_again 3 = .ok (.invokestatic 82, 3) := by decide +kernel
theorem dX5_again_6 : decode cX5_again 6 = .ok (.ifCond .ne 6, 3) := by decide +kernel
theorem dX5_again_9 : decode cX5_again 9 = .ok (.bipush (-2), 2) := by decide +kernel
theorem dX5_again_11 : decode cX5_again 11 = .ok (.ireturn, 1) := by decide +kernel
theorem dX5_again_12 : decode cX5_again 12 = .ok (.aload_n 0, 1) := by decide +kernel
theorem dX5_again_13 : decode cX5_again 13 = .ok (.invokevirtual 261, 3) := by decide +kernel
theorem dX5_again_16 : decode cX5_again 16 = .ok (.iload_n 1, 1) := by decide +kernel
theorem dX5_again_17 : decode cX5_again 17 = .ok (.iconst 2, 1) := by decide +kernel
theorem dX5_again_18 : decode cX5_again 18 = .ok (.if_icmp .ne 32, 3) := by decide +kernel
theorem dX5_again_21 : decode cX5_again 21 = .ok (.iconst 0, 1) := by decide +kernel
theorem dX5_again_22 : decode cX5_again 22 = .ok (.istore_n 2, 1) := by decide +kernel
theorem dX5_again_23 : decode cX5_again 23 = .ok (.iload_n 2, 1) := by decide +kernel
theorem dX5_again_24 : decode cX5_again 24 = .ok (.bipush 40, 2) := by decide +kernel
theorem dX5_again_26 : decode cX5_again 26 = .ok (.if_icmp .ge 22, 3) := by decide +kernel
theorem dX5_again_29 : decode cX5_again 29 = .ok (.aload_n 0, 1) := by decide +kernel
theorem dX5_again_30 : decode cX5_again 30 = .ok (.iload_n 2, 1) := by decide +kernel
theorem dX5_again_31 : decode cX5_again 31 = .ok (.iload_n 2, 1) := by decide +kernel
theorem dX5_again_32 : decode cX5_again 32 = .ok (.iconst 1, 1) := by decide +kernel
theorem dX5_again_33 : decode cX5_again 33 = .ok (.iadd, 1) := by decide +kernel
theorem dX5_again_34 : decode cX5_again 34 = .ok (.invokevirtual 264, 3) := by decide +kernel
theorem dX5_again_37 : decode cX5_again 37 = .ok (.ifCond .eq 5, 3) := by decide +kernel
theorem dX5_again_40 : decode cX5_again 40 = .ok (.iload_n 2, 1) := by decide +kernel
theorem dX5_again_41 : decode cX5_again 41 = .ok (.ireturn, 1) := by decide +kernel
theorem dX5_again_42 : decode cX5_again 42 = .ok (.iinc 2 1, 3) := by decide +kernel
theorem dX5_again_45 : decode cX5_again 45 = .ok (.goto (-22), 3) := by decide +kernel
theorem dX5_again_48 : decode cX5_again 48 = .ok (.iconst (-1), 1) := by decide +kernel
theorem dX5_again_49 : decode cX5_again 49 = .ok (.ireturn, 1) := by decide +kernel
theorem dX5_again_50 : decode cX5_again 50 = .ok (.iconst 1, 1) := by decide +kernel
theorem dX5_again_51 : decode cX5_again 51 = .ok (.istore_n 2, 1) := by decide +kernel
theorem dX5_again_52 : decode cX5_again 52 = .ok (.iload_n 2, 1) := by decide +kernel
theorem dX5_again_53 : decode cX5_again 53 = .ok (.bipush 41, 2) := by decide +kernel
theorem dX5_again_55 : decode cX5_again 55 = .ok (.if_icmp .ge 44, 3) := by decide +kernel
theorem dX5_again_58 : decode cX5_again 58 = .ok (.iload_n 2, 1) := by decide +kernel
theorem dX5_again_59 : decode cX5_again 59 = .ok (.iconst 1, 1) := by decide +kernel
theorem dX5_again_60 : decode cX5_again 60 = .ok (.isub, 1) := by decide +kernel
theorem dX5_again_61 : decode cX5_again 61 = .ok (.istore_n 3, 1) := by decide +kernel
theorem dX5_again_62 : decode cX5_again 62 = .ok (.iload_n 3, 1) := by decide +kernel
theorem dX5_again_63 : decode cX5_again 63 = .ok (.ifCond .lt 30, 3) := by decide +kernel
theorem dX5_again_66 : decode cX5_again 66 = .ok (.aload_n 0, 1) := by decide +kernel
theorem dX5_again_67 : decode cX5_again 67 = .ok (.iload_n 2, 1) := by decide +kernel
theorem dX5_again_68 : decode cX5_again 68 = .ok (.iload_n 3, 1) := by decide +kernel
theorem dX5_again_69 : decode cX5_again 69 = .ok (.invokevirtual 264, 3) := by decide +kernel
theorem dX5_again_72 : decode cX5_again 72 = .ok (.ifCond .eq 15, 3) := by decide +kernel
theorem dX5_again_75 : decode cX5_again 75 = .ok (.iload_n 1, 1) := by decide +kernel
theorem dX5_again_76 : decode cX5_again 76 = .ok (.ifCond .ne 7, 3) := by decide +kernel
theorem dX5_again_79 : decode cX5_again 79 = .ok (.iload_n 2, 1) := by decide +kernel
theorem dX5_again_80 : decode cX5_again 80 = .ok (.goto 6, 3) := by decide +kernel
theorem dX5_again_83 : decode cX5_again 83 = .ok (.iload_n 2, 1) := by decide +kernel
theorem dX5_again_84 : decode cX5_again 84 = .ok (.iload_n 3, 1) := by decide +kernel
theorem dX5_again_85 : decode cX5_again 85 = .ok (.isub, 1) := by decide +kernel
theorem dX5_again_86 : decode cX5_again 86 = .ok (.ireturn, 1) := by decide +kernel
theorem dX5_again_87 : decode cX5_again 87 = .ok (.iinc 3 (-1), 3) := by decide +kernel
theorem dX5_again_90 : decode cX5_again 90 = .ok (.goto (-28), 3) := by decide +kernel
theorem dX5_again_93 : decode cX5_again 93 = .ok (.iinc 2 1, 3) := by decide +kernel
theorem dX5_again_96 : decode cX5_again 96 = .ok (.goto (-44), 3) := by decide +kernel
theorem dX5_again_99 : decode cX5_again 99 = .ok (.iconst (-1), 1) := by decide +kernel
theorem dX5_again_100 : decode cX5_again 100 = .ok (.ireturn, 1) := by decide +kernel
theorem dX5_lettuce_0 : decode cX5_lettuce 0 = .ok (.iconst 0, 1) := by decide +kernel
theorem dX5_lettuce_1 : decode cX5_lettuce 1 = .ok (.istore_n 2, 1) := by decide +kernel
theorem dX5_lettuce_2 : decode cX5_lettuce 2 = .ok (.iconst (-1), 1) := by decide +kernel
theorem dX5_lettuce_3 : decode cX5_lettuce 3 = .ok (.istore_n 3, 1) := by decide +kernel
theorem dX5_lettuce_4 : decode cX5_lettuce 4 = .ok (.iconst 0, 1) := by decide +kernel
theorem dX5_lettuce_5 : decode cX5_lettuce 5 = .ok (.istore 4, 2) := by decide +kernel
theorem dX5_lettuce_7 : decode cX5_lettuce 7 = .ok (.iload 4, 2) := by decide +kernel
theorem dX5_lettuce_9 : decode cX5_lettuce 9 = .ok (.aload_n 0, 1) := by decide +kernel
theorem dX5_lettuce_10 : decode cX5_lettuce 10 = .ok (.getfield 79, 3) := by decide +kernel
theorem dX5_lettuce_13 : decode cX5_lettuce 13 = .ok (.if_icmp .ge 66, 3) := by decide +kernel
theorem dX5_lettuce_16 : decode cX5_lettuce 16 = .ok (.iconst 0, 1) := by decide +kernel
theorem dX5_lettuce_17 : decode cX5_lettuce 17 = .ok (.istore 5, 2) := by decide +kernel
theorem dX5_lettuce_19 : decode cX5_lettuce 19 = .ok (.iload 5, 2) := by decide +kernel
theorem dX5_lettuce_21 : decode cX5_lettuce 21 = .ok (.aload_n 0, 1) := by decide +kernel
theorem dX5_lettuce_22 : decode cX5_lettuce 22 = .ok (.getfield 79, 3) := by decide +kernel
theorem dX5_lettuce_25 : decode cX5_lettuce 25 = .ok (.if_icmp .ge 48, 3) := by decide +kernel
theorem dX5_lettuce_28 : decode cX5_lettuce 28 = .ok (.iload 4, 2) := by decide +kernel
theorem dX5_lettuce_30 : decode cX5_lettuce 30 = .ok (.iload 5, 2) := by decide +kernel
theorem dX5_lettuce_32 : decode cX5_lettuce 32 = .ok (.if_icmp .eq 35, 3) := by decide +kernel
theorem dX5_lettuce_35 : decode cX5_lettuce 35 = .ok (.aload_n 0, 1) := by decide +kernel
theorem dX5_lettuce_36 : decode cX5_lettuce 36 = .ok (.iload 4, 2) := by decide +kernel
theorem dX5_lettuce_38 : decode cX5_lettuce 38 = .ok (.iload 5, 2) := by decide +kernel
theorem dX5_lettuce_40 : decode cX5_lettuce 40 = .ok (.invokevirtual 107, 3) := by decide +kernel
theorem dX5_lettuce_43 : decode cX5_lettuce 43 = .ok (.iconst 1, 1) := by decide +kernel
theorem dX5_lettuce_44 : decode cX5_lettuce 44 = .ok (.if_icmp .eq 6, 3) := by decide +kernel
theorem dX5_lettuce_47 : decode cX5_lettuce 47 = .ok (.goto 20, 3) := by decide +kernel
theorem dX5_lettuce_50 : decode cX5_lettuce 50 = .ok (.iinc 2 1, 3) := by decide +kernel
theorem dX5_lettuce_53 : decode cX5_lettuce 53 = .ok (.iload_n 3, 1) := by decide +kernel
theorem dX5_lettuce_54 : decode cX5_lettuce 54 = .ok (.iconst (-1), 1) := by decide +kernel
theorem dX5_lettuce_55 : decode cX5_lettuce 55 = .ok (.if_icmp .ne 12, 3) := by decide +kernel
theorem dX5_lettuce_58 : decode cX5_lettuce 58 = .ok (.bipush 10, 2) := by decide +kernel
theorem dX5_lettuce_60 : decode cX5_lettuce 60 = .ok (.iload 4, 2) := by decide +kernel
theorem dX5_lettuce_62 : decode cX5_lettuce 62 = .ok (.imul, 1) := by decide +kernel
theorem dX5_lettuce_63 : decode cX5_lettuce 63 = .ok (.iload 5, 2) := by decide +kernel
theorem dX5_lettuce_65 : decode cX5_lettuce 65 = .ok (.iadd, 1) := by decide +kernel
theorem dX5_lettuce_66 : decode cX5_lettuce 66 = .ok (.istore_n 3, 1) := by decide +kernel
theorem dX5_lettuce_67 : decode cX5_lettuce 67 = .ok (.iinc 5 1, 3) := by decide +kernel
theorem dX5_lettuce_70 : decode cX5_lettuce 70 = .ok (.goto (-51), 3) := by decide +kernel
theorem dX5_lettuce_73 : decode cX5_lettuce 73 = .ok (.iinc 4 1, 3) := by decide +kernel
theorem dX5_lettuce_76 : decode cX5_lettuce 76 = .ok (.goto (-69), 3) := by decide +kernel
theorem dX5_lettuce_79 : decode cX5_lettuce 79 = .ok (.iload_n 1, 1) := by decide +kernel
theorem dX5_lettuce_80 : decode cX5_lettuce 80 = .ok (.ifCond .ne 7, 3) := by decide +kernel
theorem dX5_lettuce_83 : decode cX5_lettuce 83 = .ok (.iload_n 2, 1) := by decide +kernel
theorem dX5_lettuce_84 : decode cX5_lettuce 84 = .ok (.goto 4, 3) := by decide +kernel
theorem dX5_lettuce_87 : decode cX5_lettuce 87 = .ok (.iload_n 3, 1) := by decide +kernel
theorem dX5_lettuce_88 : decode cX5_lettuce 88 = .ok (.ireturn, 1) := by decide +kernel
theorem dX5_left_0 : decode cX5_left 0 = .ok (.iconst 0, 1) := by decide +kernel
theorem dX5_left_1 : decode cX5_left 1 = .ok (.istore_n 1, 1) := by decide +kernel
theorem dX5_left_2 : decode cX5_left 2 = .ok (.iconst 0, 1) := by decide +kernel
theorem dX5_left_3 : decode cX5_left 3 = .ok (.istore_n 2, 1) := by decide +kernel
theorem dX5_left_4 : decode cX5_left 4 = .ok (.iload_n 2, 1) := by decide +kernel
theorem dX5_left_5 : decode cX5_left 5 = .ok (.aload_n 0, 1) := by decide +kernel
theorem dX5_left_6 : decode cX5_left 6 = .ok (.getfield 79, 3) := by decide +kernel
theorem dX5_left_9 : decode cX5_left 9 = .ok (.if_icmp .ge 23, 3) := by decide +kernel
theorem dX5_left_12 : decode cX5_left 12 = .ok (.aload_n 0, 1) := by decide +kernel
theorem dX5_left_13 : decode cX5_left 13 = .ok (.iload_n 2, 1) := by decide +kernel
theorem dX5_left_14 : decode cX5_left 14 = .ok (.invokevirtual 117, 3) := by decide +kernel
theorem dX5_left_17 : decode cX5_left 17 = .ok (.ifCond .ne 9, 3) := by decide +kernel
theorem dX5_left_20 : decode cX5_left 20 = .ok (.iload_n 1, 1) := by decide +kernel
theorem dX5_left_21 : decode cX5_left 21 = .ok (.iconst 1, 1) := by decide +kernel
theorem dX5_left_22 : decode cX5_left 22 = .ok (.iload_n 2, 1) := by decide +kernel
theorem dX5_left_23 : decode cX5_left 23 = .ok (.ishl, 1) := by decide +kernel
theorem dX5_left_24 : decode cX5_left 24 = .ok (.ior, 1) := by decide +kernel
theorem dX5_left_25 : decode cX5_left 25 = .ok (.istore_n 1, 1) := by decide +kernel
theorem dX5_left_26 : decode cX5_left 26 = .ok (.iinc 2 1, 3) := by decide +kernel
theorem dX5_left_29 : decode cX5_left 29 = .ok (.goto (-25), 3) := by decide +kernel
theorem dX5_left_32 : decode cX5_left 32 = .ok (.iload_n 1, 1) := by decide +kernel
theorem dX5_left_33 : decode cX5_left 33 = .ok (.ireturn, 1) := by decide +kernel
theorem dX5_all_0 : decode cX5_all 0 = .ok (.iload_n 1, 1) := by decide +kernel
theorem dX5_all_1 : decode cX5_all 1 = .ok (.tableswitch 53 0 3 #[31, 36, 42, 48], 31) := by decide +kernel
theorem dX5_all_32 : decode cX5_all 32 = .ok (.aload_n 0, 1) := by decide +kernel
theorem dX5_all_33 : decode cX5_all 33 = .ok (.invokevirtual 249, 3) := by decide +kernel
theorem dX5_all_36 : decode cX5_all 36 = .ok (.ireturn, 1) := by decide +kernel
theorem dX5_all_37 : decode cX5_all 37 = .ok (.aload_n 0, 1) := by decide +kernel
theorem dX5_all_38 : decode cX5_all 38 = .ok (.iconst 0, 1) := by decide +kernel
theorem dX5_all_39 : decode cX5_all 39 = .ok (.invokevirtual 267, 3) := by decide +kernel
theorem dX5_all_42 : decode cX5_all 42 = .ok (.ireturn, 1) := by decide +kernel
theorem dX5_all_43 : decode cX5_all 43 = .ok (.aload_n 0, 1) := by decide +kernel
theorem dX5_all_44 : decode cX5_all 44 = .ok (.iconst 1, 1) := by decide +kernel
theorem dX5_all_45 : decode cX5_all 45 = .ok (.invokevirtual 267, 3) := by decide +kernel
theorem dX5_all_48 : decode cX5_all 48 = .ok (.ireturn, 1) := by decide +kernel
theorem dX5_all_49 : decode cX5_all 49 = .ok (.aload_n 0, 1) := by decide +kernel
theorem dX5_all_50 : decode cX5_all 50 = .ok (.invokevirtual 270, 3) := by decide +kernel
theorem dX5_all_53 : decode cX5_all 53 = .ok (.ireturn, 1) := by decide +kernel
theorem dX5_all_54 : decode cX5_all 54 = .ok (.sipush (-1000), 3) := by decide +kernel
theorem dX5_all_57 : decode cX5_all 57 = .ok (.ireturn, 1) := by decide +kernel
theorem dX5_best_0 : decode cX5_best 0 = .ok (.aload_n 0, 1) := by decide +kernel
theorem dX5_best_1 : decode cX5_best 1 = .ok (.iload_n 1, 1) := by decide +kernel
theorem dX5_best_2 : decode cX5_best 2 = .ok (.invokevirtual 86, 3) := by decide +kernel
theorem dX5_best_5 : decode cX5_best 5 = .ok (.ifCond .eq 22, 3) := by decide +kernel
theorem dX5_best_8 : decode cX5_best 8 = .ok (.iload_n 2, 1) := by decide +kernel
theorem dX5_best_9 : decode cX5_best 9 = .ok (.iconst 0, 1) := by decide +kernel
theorem dX5_best_10 : decode cX5_best 10 = .ok (.bipush 10, 2) := by decide +kernel
theorem dX5_best_12 : decode cX5_best 12 = .ok (.invokestatic 82, 3) := by decide +kernel
theorem dX5_best_15 : decode cX5_best 15 = .ok (.ifCond .eq 12, 3) := by decide +kernel
theorem dX5_best_18 : decode cX5_best 18 = .ok (.iload_n 3, 1) := by decide +kernel
theorem dX5_best_19 : decode cX5_best 19 = .ok (.iconst 0, 1) := by decide +kernel
theorem dX5_best_20 : decode cX5_best 20 = .ok (.iconst 1, 1) := by decide +kernel
theorem dX5_best_21 : decode cX5_best 21 = .ok (.invokestatic 82, 3) := by decide +kernel
theorem dX5_best_24 : decode cX5_best 24 = .ok (.ifCond .ne 7, 3) := by decide +kernel
theorem dX5_best_27 : decode cX5_best 27 = .ok (.sipush (-1000), 3) := by decide +kernel
theorem dX5_best_30 : decode cX5_best 30 = .ok (.ireturn, 1) := by decide +kernel
theorem dX5_best_31 : decode cX5_best 31 = .ok (.aload_n 0, 1) := by decide +kernel
theorem dX5_best_32 : decode cX5_best 32 = .ok (.getfield 20, 3) := by decide +kernel
theorem dX5_best_35 : decode cX5_best 35 = .ok (.iload_n 1, 1) := by decide +kernel
theorem dX5_best_36 : decode cX5_best 36 = .ok (.iaload, 1) := by decide +kernel
theorem dX5_best_37 : decode cX5_best 37 = .ok (.istore 4, 2) := by decide +kernel
theorem dX5_best_39 : decode cX5_best 39 = .ok (.iconst 0, 1) := by decide +kernel
theorem dX5_best_40 : decode cX5_best 40 = .ok (.istore 5, 2) := by decide +kernel
theorem dX5_best_42 : decode cX5_best 42 = .ok (.sipush (-1000), 3) := by decide +kernel
theorem dX5_best_45 : decode cX5_best 45 = .ok (.istore 6, 2) := by decide +kernel
theorem dX5_best_47 : decode cX5_best 47 = .ok (.bipush (-20), 2) := by decide +kernel
theorem dX5_best_49 : decode cX5_best 49 = .ok (.istore 7, 2) := by decide +kernel
theorem dX5_best_51 : decode cX5_best 51 = .ok (.iload 7, 2) := by decide +kernel
theorem dX5_best_53 : decode cX5_best 53 = .ok (.bipush 21, 2) := by decide +kernel
theorem dX5_best_55 : decode cX5_best 55 = .ok (.if_icmp .ge 42, 3) := by decide +kernel
theorem dX5_best_58 : decode cX5_best 58 = .ok (.aload_n 0, 1) := by decide +kernel
theorem dX5_best_59 : decode cX5_best 59 = .ok (.getfield 20, 3) := by decide +kernel
theorem dX5_best_62 : decode cX5_best 62 = .ok (.iload_n 1, 1) := by decide +kernel
theorem dX5_best_63 : decode cX5_best 63 = .ok (.iload 7, 2) := by decide +kernel
theorem dX5_best_65 : decode cX5_best 65 = .ok (.iastore, 1) := by decide +kernel
theorem dX5_best_66 : decode cX5_best 66 = .ok (.aload_n 0, 1) := by decide +kernel
theorem dX5_best_67 : decode cX5_best 67 = .ok (.iload_n 2, 1) := by decide +kernel
theorem dX5_best_68 : decode cX5_best 68 = .ok (.invokevirtual 273, 3) := by decide +kernel
theorem dX5_best_71 : decode cX5_best 71 = .ok (.istore 8, 2) := by decide +kernel
theorem dX5_best_73 : decode cX5_best 73 = .ok (.iload 8, 2) := by decide +kernel
theorem dX5_best_75 : decode cX5_best 75 = .ok (.iload 6, 2) := by decide +kernel
theorem dX5_best_77 : decode cX5_best 77 = .ok (.if_icmp .gt 6, 3) := by decide +kernel
theorem dX5_best_80 : decode cX5_best 80 = .ok (.goto 11, 3) := by decide +kernel
theorem dX5_best_83 : decode cX5_best 83 = .ok (.iload 8, 2) := by decide +kernel
theorem dX5_best_85 : decode cX5_best 85 = .ok (.istore 6, 2) := by decide +kernel
theorem dX5_best_87 : decode cX5_best 87 = .ok (.iload 7, 2) := by decide +kernel
theorem dX5_best_89 : decode cX5_best 89 = .ok (.istore 5, 2) := by decide +kernel
theorem dX5_best_91 : decode cX5_best 91 = .ok (.iinc 7 1, 3) := by decide +kernel
theorem dX5_best_94 : decode cX5_best 94 = .ok (.goto (-43), 3) := by decide +kernel
theorem dX5_best_97 : decode cX5_best 97 = .ok (.aload_n 0, 1) := by decide +kernel
theorem dX5_best_98 : decode cX5_best 98 = .ok (.getfield 20, 3) := by decide +kernel
theorem dX5_best_101 : decode cX5_best 101 = .ok (.iload_n 1, 1) := by decide +kernel
theorem dX5_best_102 : decode cX5_best 102 = .ok (.iload 4, 2) := by decide +kernel
theorem dX5_best_104 : decode cX5_best 104 = .ok (.iastore, 1) := by decide +kernel
theorem dX5_best_105 : decode cX5_best 105 = .ok (.iload_n 3, 1) := by decide +kernel
theorem dX5_best_106 : decode cX5_best 106 = .ok (.ifCond .ne 8, 3) := by decide +kernel
theorem dX5_best_109 : decode cX5_best 109 = .ok (.iload 5, 2) := by decide +kernel
theorem dX5_best_111 : decode cX5_best 111 = .ok (.goto 5, 3) := by decide +kernel
theorem dX5_best_114 : decode cX5_best 114 = .ok (.iload 6, 2) := by decide +kernel
theorem dX5_best_116 : decode cX5_best 116 = .ok (.ireturn, 1) := by decide +kernel
theorem dX5_leaveOut_0 : decode cX5_leaveOut 0 = .ok (.iload_n 1, 1) := by decide +kernel
theorem dX5_leaveOut_1 : decode cX5_leaveOut 1 = .ok (.iconst 0, 1) := by decide +kernel
theorem dX5_leaveOut_2 : decode cX5_leaveOut 2 = .ok (.bipush 40, 2) := by decide +kernel
theorem dX5_leaveOut_4 : decode cX5_leaveOut 4 = .ok (.invokestatic 82, 3) := by decide +kernel
theorem dX5_leaveOut_7 : decode cX5_leaveOut 7 = .ok (.ifCond .eq 12, 3) := by decide +kernel
theorem dX5_leaveOut_10 : decode cX5_leaveOut 10 = .ok (.iload_n 2, 1) := by decide +kernel
theorem dX5_leaveOut_11 : decode cX5_leaveOut 11 = .ok (.iconst 0, 1) := by decide +kernel
theorem dX5_leaveOut_12 : decode cX5_leaveOut 12 = .ok (.iconst 1, 1) := by decide +kernel
theorem dX5_leaveOut_13 : decode cX5_leaveOut 13 = .ok (.invokestatic 82, 3) := by decide +kernel
theorem dX5_leaveOut_16 : decode cX5_leaveOut 16 = .ok (.ifCond .ne 7, 3) := by decide +kernel
theorem dX5_leaveOut_19 : decode cX5_leaveOut 19 = .ok (.sipush (-1000), 3) := by decide +kernel
theorem dX5_leaveOut_22 : decode cX5_leaveOut 22 = .ok (.ireturn, 1) := by decide +kernel
theorem dX5_leaveOut_23 : decode cX5_leaveOut 23 = .ok (.iconst (-1), 1) := by decide +kernel
theorem dX5_leaveOut_24 : decode cX5_leaveOut 24 = .ok (.istore_n 3, 1) := by decide +kernel
theorem dX5_leaveOut_25 : decode cX5_leaveOut 25 = .ok (.aload_n 0, 1) := by decide +kernel
theorem dX5_leaveOut_26 : decode cX5_leaveOut 26 = .ok (.iload_n 1, 1) := by decide +kernel
theorem dX5_leaveOut_27 : decode cX5_leaveOut 27 = .ok (.invokevirtual 273, 3) := by decide +kernel
theorem dX5_leaveOut_30 : decode cX5_leaveOut 30 = .ok (.istore 4, 2) := by decide +kernel
theorem dX5_leaveOut_32 : decode cX5_leaveOut 32 = .ok (.iconst 0, 1) := by decide +kernel
theorem dX5_leaveOut_33 : decode cX5_leaveOut 33 = .ok (.istore 5, 2) := by decide +kernel
theorem dX5_leaveOut_35 : decode cX5_leaveOut 35 = .ok (.iload 5, 2) := by decide +kernel
theorem dX5_leaveOut_37 : decode cX5_leaveOut 37 = .ok (.aload_n 0, 1) := by decide +kernel
theorem dX5_leaveOut_38 : decode cX5_leaveOut 38 = .ok (.getfield 79, 3) := by decide +kernel
theorem dX5_leaveOut_41 : decode cX5_leaveOut 41 = .ok (.if_icmp .ge 44, 3) := by decide +kernel
theorem dX5_leaveOut_44 : decode cX5_leaveOut 44 = .ok (.aload_n 0, 1) := by decide +kernel
theorem dX5_leaveOut_45 : decode cX5_leaveOut 45 = .ok (.iload 5, 2) := by decide +kernel
theorem dX5_leaveOut_47 : decode cX5_leaveOut 47 = .ok (.putfield 68, 3) := by decide +kernel
theorem dX5_leaveOut_50 : decode cX5_leaveOut 50 = .ok (.aload_n 0, 1) := by decide +kernel
theorem dX5_leaveOut_51 : decode cX5_leaveOut 51 = .ok (.iload_n 1, 1) := by decide +kernel
theorem dX5_leaveOut_52 : decode cX5_leaveOut 52 = .ok (.invokevirtual 273, 3) := by decide +kernel
theorem dX5_leaveOut_55 : decode cX5_leaveOut 55 = .ok (.istore 6, 2) := by decide +kernel
theorem dX5_leaveOut_57 : decode cX5_leaveOut 57 = .ok (.aload_n 0, 1) := by decide +kernel
theorem dX5_leaveOut_58 : decode cX5_leaveOut 58 = .ok (.iconst (-1), 1) := by decide +kernel
theorem dX5_leaveOut_59 : decode cX5_leaveOut 59 = .ok (.putfield 68, 3) := by decide +kernel
theorem dX5_leaveOut_62 : decode cX5_leaveOut 62 = .ok (.iload 6, 2) := by decide +kernel
theorem dX5_leaveOut_64 : decode cX5_leaveOut 64 = .ok (.iload 4, 2) := by decide +kernel
theorem dX5_leaveOut_66 : decode cX5_leaveOut 66 = .ok (.if_icmp .gt 6, 3) := by decide +kernel
theorem dX5_leaveOut_69 : decode cX5_leaveOut 69 = .ok (.goto 10, 3) := by decide +kernel
theorem dX5_leaveOut_72 : decode cX5_leaveOut 72 = .ok (.iload 6, 2) := by decide +kernel
theorem dX5_leaveOut_74 : decode cX5_leaveOut 74 = .ok (.istore 4, 2) := by decide +kernel
theorem dX5_leaveOut_76 : decode cX5_leaveOut 76 = .ok (.iload 5, 2) := by decide +kernel
theorem dX5_leaveOut_78 : decode cX5_leaveOut 78 = .ok (.istore_n 3, 1) := by decide +kernel
theorem dX5_leaveOut_79 : decode cX5_leaveOut 79 = .ok (.iinc 5 1, 3) := by decide +kernel
theorem dX5_leaveOut_82 : decode cX5_leaveOut 82 = .ok (.goto (-47), 3) := by decide +kernel
theorem dX5_leaveOut_85 : decode cX5_leaveOut 85 = .ok (.iload_n 2, 1) := by decide +kernel
theorem dX5_leaveOut_86 : decode cX5_leaveOut 86 = .ok (.ifCond .ne 7, 3) := by decide +kernel
theorem dX5_leaveOut_89 : decode cX5_leaveOut 89 = .ok (.iload_n 3, 1) := by decide +kernel
theorem dX5_leaveOut_90 : decode cX5_leaveOut 90 = .ok (.goto 5, 3) := by decide +kernel
theorem dX5_leaveOut_93 : decode cX5_leaveOut 93 = .ok (.iload 4, 2) := by decide +kernel
theorem dX5_leaveOut_95 : decode cX5_leaveOut 95 = .ok (.ireturn, 1) := by decide +kernel
theorem dX5_spare_0 : decode cX5_spare 0 = .ok (.iload_n 1, 1) := by decide +kernel
theorem dX5_spare_1 : decode cX5_spare 1 = .ok (.iconst 0, 1) := by decide +kernel
theorem dX5_spare_2 : decode cX5_spare 2 = .ok (.bipush 40, 2) := by decide +kernel
theorem dX5_spare_4 : decode cX5_spare 4 = .ok (.invokestatic 82, 3) := by decide +kernel
theorem dX5_spare_7 : decode cX5_spare 7 = .ok (.ifCond .eq 12, 3) := by decide +kernel
theorem dX5_spare_10 : decode cX5_spare 10 = .ok (.iload_n 2, 1) := by decide +kernel
theorem dX5_spare_11 : decode cX5_spare 11 = .ok (.iconst 0, 1) := by decide +kernel
theorem dX5_spare_12 : decode cX5_spare 12 = .ok (.iconst 1, 1) := by decide +kernel
theorem dX5_spare_13 : decode cX5_spare 13 = .ok (.invokestatic 82, 3) := by decide +kernel
theorem dX5_spare_16 : decode cX5_spare 16 = .ok (.ifCond .ne 7, 3) := by decide +kernel
theorem dX5_spare_19 : decode cX5_spare 19 = .ok (.sipush (-1000), 3) := by decide +kernel
theorem dX5_spare_22 : decode cX5_spare 22 = .ok (.ireturn, 1) := by decide +kernel
theorem dX5_spare_23 : decode cX5_spare 23 = .ok (.iconst (-1), 1) := by decide +kernel
theorem dX5_spare_24 : decode cX5_spare 24 = .ok (.istore_n 3, 1) := by decide +kernel
theorem dX5_spare_25 : decode cX5_spare 25 = .ok (.aload_n 0, 1) := by decide +kernel
theorem dX5_spare_26 : decode cX5_spare 26 = .ok (.iload_n 1, 1) := by decide +kernel
theorem dX5_spare_27 : decode cX5_spare 27 = .ok (.invokevirtual 273, 3) := by decide +kernel
theorem dX5_spare_30 : decode cX5_spare 30 = .ok (.istore 4, 2) := by decide +kernel
theorem dX5_spare_32 : decode cX5_spare 32 = .ok (.iconst 0, 1) := by decide +kernel
theorem dX5_spare_33 : decode cX5_spare 33 = .ok (.istore 5, 2) := by decide +kernel
theorem dX5_spare_35 : decode cX5_spare 35 = .ok (.iload 5, 2) := by decide +kernel
theorem dX5_spare_37 : decode cX5_spare 37 = .ok (.bipush 8, 2) := by decide +kernel
theorem dX5_spare_39 : decode cX5_spare 39 = .ok (.if_icmp .ge 62, 3) := by decide +kernel
theorem dX5_spare_42 : decode cX5_spare 42 = .ok (.aload_n 0, 1) := by decide +kernel
theorem dX5_spare_43 : decode cX5_spare 43 = .ok (.getfield 7, 3) := by decide +kernel
theorem dX5_spare_46 : decode cX5_spare 46 = .ok (.iload 5, 2) := by decide +kernel
theorem dX5_spare_48 : decode cX5_spare 48 = .ok (.baload, 1) := by decide +kernel
theorem dX5_spare_49 : decode cX5_spare 49 = .ok (.ifCond .ne 6, 3) := by decide +kernel
theorem dX5_spare_52 : decode cX5_spare 52 = .ok (.goto 43, 3) := by decide +kernel
theorem dX5_spare_55 : decode cX5_spare 55 = .ok (.aload_n 0, 1) := by decide +kernel
theorem dX5_spare_56 : decode cX5_spare 56 = .ok (.getfield 7, 3) := by decide +kernel
theorem dX5_spare_59 : decode cX5_spare 59 = .ok (.iload 5, 2) := by decide +kernel
theorem dX5_spare_61 : decode cX5_spare 61 = .ok (.iconst 0, 1) := by decide +kernel
theorem dX5_spare_62 : decode cX5_spare 62 = .ok (.bastore, 1) := by decide +kernel
theorem dX5_spare_63 : decode cX5_spare 63 = .ok (.aload_n 0, 1) := by decide +kernel
theorem dX5_spare_64 : decode cX5_spare 64 = .ok (.iload_n 1, 1) := by decide +kernel
theorem dX5_spare_65 : decode cX5_spare 65 = .ok (.invokevirtual 273, 3) := by decide +kernel
theorem dX5_spare_68 : decode cX5_spare 68 = .ok (.istore 6, 2) := by decide +kernel
theorem dX5_spare_70 : decode cX5_spare 70 = .ok (.aload_n 0, 1) := by decide +kernel
theorem dX5_spare_71 : decode cX5_spare 71 = .ok (.getfield 7, 3) := by decide +kernel
theorem dX5_spare_74 : decode cX5_spare 74 = .ok (.iload 5, 2) := by decide +kernel
theorem dX5_spare_76 : decode cX5_spare 76 = .ok (.iconst 1, 1) := by decide +kernel
theorem dX5_spare_77 : decode cX5_spare 77 = .ok (.bastore, 1) := by decide +kernel
theorem dX5_spare_78 : decode cX5_spare 78 = .ok (.iload 6, 2) := by decide +kernel
theorem dX5_spare_80 : decode cX5_spare 80 = .ok (.iload 4, 2) := by decide +kernel
theorem dX5_spare_82 : decode cX5_spare 82 = .ok (.if_icmp .gt 6, 3) := by decide +kernel
theorem dX5_spare_85 : decode cX5_spare 85 = .ok (.goto 10, 3) := by decide +kernel
theorem dX5_spare_88 : decode cX5_spare 88 = .ok (.iload 6, 2) := by decide +kernel
theorem dX5_spare_90 : decode cX5_spare 90 = .ok (.istore 4, 2) := by decide +kernel
theorem dX5_spare_92 : decode cX5_spare 92 = .ok (.iload 5, 2) := by decide +kernel
theorem dX5_spare_94 : decode cX5_spare 94 = .ok (.istore_n 3, 1) := by decide +kernel
theorem dX5_spare_95 : decode cX5_spare 95 = .ok (.iinc 5 1, 3) := by decide +kernel
theorem dX5_spare_98 : decode cX5_spare 98 = .ok (.goto (-63), 3) := by decide +kernel
theorem dX5_spare_101 : decode cX5_spare 101 = .ok (.iload_n 2, 1) := by decide +kernel
theorem dX5_spare_102 : decode cX5_spare 102 = .ok (.ifCond .ne 7, 3) := by decide +kernel
theorem dX5_spare_105 : decode cX5_spare 105 = .ok (.iload_n 3, 1) := by decide +kernel
theorem dX5_spare_106 : decode cX5_spare 106 = .ok (.goto 5, 3) := by decide +kernel
theorem dX5_spare_109 : decode cX5_spare 109 = .ok (.iload 4, 2) := by decide +kernel
theorem dX5_spare_111 : decode cX5_spare 111 = .ok (.ireturn, 1) := by decide +kernel
theorem dX5_add_0 : decode cX5_add 0 = .ok (.aload_n 0, 1) := by decide +kernel
theorem dX5_add_1 : decode cX5_add 1 = .ok (.iload_n 1, 1) := by decide +kernel
theorem dX5_add_2 : decode cX5_add 2 = .ok (.iload_n 2, 1) := by decide +kernel
theorem dX5_add_3 : decode cX5_add 3 = .ok (.invokevirtual 240, 3) := by decide +kernel
theorem dX5_add_6 : decode cX5_add 6 = .ok (.ifCond .eq 12, 3) := by decide +kernel
theorem dX5_add_9 : decode cX5_add 9 = .ok (.iload_n 3, 1) := by decide +kernel
theorem dX5_add_10 : decode cX5_add 10 = .ok (.iconst 0, 1) := by decide +kernel
theorem dX5_add_11 : decode cX5_add 11 = .ok (.iconst 1, 1) := by decide +kernel
theorem dX5_add_12 : decode cX5_add 12 = .ok (.invokestatic 82, 3) := by decide +kernel
theorem dX5_add_15 : decode cX5_add 15 = .ok (.ifCond .ne 7, 3) := by decide +kernel
theorem dX5_add_18 : decode cX5_add 18 = .ok (.sipush (-1000), 3) := by decide +kernel
theorem dX5_add_21 : decode cX5_add 21 = .ok (.ireturn, 1) := by decide +kernel
theorem dX5_add_22 : decode cX5_add 22 = .ok (.aload_n 0, 1) := by decide +kernel
theorem dX5_add_23 : decode cX5_add 23 = .ok (.getfield 20, 3) := by decide +kernel
theorem dX5_add_26 : decode cX5_add 26 = .ok (.iload_n 2, 1) := by decide +kernel
theorem dX5_add_27 : decode cX5_add 27 = .ok (.iaload, 1) := by decide +kernel
theorem dX5_add_28 : decode cX5_add 28 = .ok (.aload_n 0, 1) := by decide +kernel
theorem dX5_add_29 : decode cX5_add 29 = .ok (.iload_n 2, 1) := by decide +kernel
theorem dX5_add_30 : decode cX5_add 30 = .ok (.invokevirtual 120, 3) := by decide +kernel
theorem dX5_add_33 : decode cX5_add 33 = .ok (.iadd, 1) := by decide +kernel
theorem dX5_add_34 : decode cX5_add 34 = .ok (.istore 4, 2) := by decide +kernel
theorem dX5_add_36 : decode cX5_add 36 = .ok (.aload_n 0, 1) := by decide +kernel
theorem dX5_add_37 : decode cX5_add 37 = .ok (.iload_n 1, 1) := by decide +kernel
theorem dX5_add_38 : decode cX5_add 38 = .ok (.iload_n 2, 1) := by decide +kernel
theorem dX5_add_39 : decode cX5_add 39 = .ok (.invokevirtual 107, 3) := by decide +kernel
theorem dX5_add_42 : decode cX5_add 42 = .ok (.istore 5, 2) := by decide +kernel
theorem dX5_add_44 : decode cX5_add 44 = .ok (.iconst (-1), 1) := by decide +kernel
theorem dX5_add_45 : decode cX5_add 45 = .ok (.istore 6, 2) := by decide +kernel
theorem dX5_add_47 : decode cX5_add 47 = .ok (.iload 4, 2) := by decide +kernel
theorem dX5_add_49 : decode cX5_add 49 = .ok (.invokestatic 123, 3) := by decide +kernel
theorem dX5_add_52 : decode cX5_add 52 = .ok (.istore 7, 2) := by decide +kernel
theorem dX5_add_54 : decode cX5_add 54 = .ok (.iconst 0, 1) := by decide +kernel
theorem dX5_add_55 : decode cX5_add 55 = .ok (.istore 8, 2) := by decide +kernel
theorem dX5_add_57 : decode cX5_add 57 = .ok (.iload 8, 2) := by decide +kernel
theorem dX5_add_59 : decode cX5_add 59 = .ok (.bipush 8, 2) := by decide +kernel
theorem dX5_add_61 : decode cX5_add 61 = .ok (.if_icmp .ge 67, 3) := by decide +kernel
theorem dX5_add_64 : decode cX5_add 64 = .ok (.aload_n 0, 1) := by decide +kernel
theorem dX5_add_65 : decode cX5_add 65 = .ok (.getfield 7, 3) := by decide +kernel
theorem dX5_add_68 : decode cX5_add 68 = .ok (.iload 8, 2) := by decide +kernel
theorem dX5_add_70 : decode cX5_add 70 = .ok (.baload, 1) := by decide +kernel
theorem dX5_add_71 : decode cX5_add 71 = .ok (.ifCond .eq 51, 3) := by decide +kernel
theorem dX5_add_74 : decode cX5_add 74 = .ok (.iload 5, 2) := by decide +kernel
theorem dX5_add_76 : decode cX5_add 76 = .ok (.iload 8, 2) := by decide +kernel
theorem dX5_add_78 : decode cX5_add 78 = .ok (.ishr, 1) := by decide +kernel
theorem dX5_add_79 : decode cX5_add 79 = .ok (.iconst 1, 1) := by decide +kernel
theorem dX5_add_80 : decode cX5_add 80 = .ok (.iand, 1) := by decide +kernel
theorem dX5_add_81 : decode cX5_add 81 = .ok (.iconst 1, 1) := by decide +kernel
theorem dX5_add_82 : decode cX5_add 82 = .ok (.if_icmp .ne 6, 3) := by decide +kernel
theorem dX5_add_85 : decode cX5_add 85 = .ok (.goto 37, 3) := by decide +kernel
theorem dX5_add_88 : decode cX5_add 88 = .ok (.iload 4, 2) := by decide +kernel
theorem dX5_add_90 : decode cX5_add 90 = .ok (.aload_n 0, 1) := by decide +kernel
theorem dX5_add_91 : decode cX5_add 91 = .ok (.iload_n 1, 1) := by decide +kernel
theorem dX5_add_92 : decode cX5_add 92 = .ok (.iload_n 2, 1) := by decide +kernel
theorem dX5_add_93 : decode cX5_add 93 = .ok (.iload 8, 2) := by decide +kernel
theorem dX5_add_95 : decode cX5_add 95 = .ok (.invokevirtual 234, 3) := by decide +kernel
theorem dX5_add_98 : decode cX5_add 98 = .ok (.iadd, 1) := by decide +kernel
theorem dX5_add_99 : decode cX5_add 99 = .ok (.invokestatic 123, 3) := by decide +kernel
theorem dX5_add_102 : decode cX5_add 102 = .ok (.istore 9, 2) := by decide +kernel
theorem dX5_add_104 : decode cX5_add 104 = .ok (.iload 9, 2) := by decide +kernel
theorem dX5_add_106 : decode cX5_add 106 = .ok (.iload 7, 2) := by decide +kernel
theorem dX5_add_108 : decode cX5_add 108 = .ok (.if_icmp .gt 6, 3) := by decide +kernel
theorem dX5_add_111 : decode cX5_add 111 = .ok (.goto 11, 3) := by decide +kernel
theorem dX5_add_114 : decode cX5_add 114 = .ok (.iload 9, 2) := by decide +kernel
theorem dX5_add_116 : decode cX5_add 116 = .ok (.istore 7, 2) := by decide +kernel
theorem dX5_add_118 : decode cX5_add 118 = .ok (.iload 8, 2) := by decide +kernel
theorem dX5_add_120 : decode cX5_add 120 = .ok (.istore 6, 2) := by decide +kernel
theorem dX5_add_122 : decode cX5_add 122 = .ok (.iinc 8 1, 3) := by decide +kernel
theorem dX5_add_125 : decode cX5_add 125 = .ok (.goto (-68), 3) := by decide +kernel
theorem dX5_add_128 : decode cX5_add 128 = .ok (.iload_n 3, 1) := by decide +kernel
theorem dX5_add_129 : decode cX5_add 129 = .ok (.ifCond .ne 8, 3) := by decide +kernel
theorem dX5_add_132 : decode cX5_add 132 = .ok (.iload 6, 2) := by decide +kernel
theorem dX5_add_134 : decode cX5_add 134 = .ok (.goto 5, 3) := by decide +kernel
theorem dX5_add_137 : decode cX5_add 137 = .ok (.iload 7, 2) := by decide +kernel
theorem dX5_add_139 : decode cX5_add 139 = .ok (.ireturn, 1) := by decide +kernel
theorem dX5_wrong_0 : decode cX5_wrong 0 = .ok (.aload_n 0, 1) := by decide +kernel
theorem dX5_wrong_1 : decode cX5_wrong 1 = .ok (.invokevirtual 252, 3) := by decide +kernel
theorem dX5_wrong_4 : decode cX5_wrong 4 = .ok (.iconst (-1), 1) := by decide +kernel
theorem dX5_wrong_5 : decode cX5_wrong 5 = .ok (.istore_n 3, 1) := by decide +kernel
theorem dX5_wrong_6 : decode cX5_wrong 6 = .ok (.iconst 0, 1) := by decide +kernel
theorem dX5_wrong_7 : decode cX5_wrong 7 = .ok (.istore 4, 2) := by decide +kernel
theorem dX5_wrong_9 : decode cX5_wrong 9 = .ok (.iload 4, 2) := by decide +kernel
theorem dX5_wrong_11 : decode cX5_wrong 11 = .ok (.aload_n 0, 1) := by decide +kernel
theorem dX5_wrong_12 : decode cX5_wrong 12 = .ok (.getfield 62, 3) := by decide +kernel
theorem dX5_wrong_15 : decode cX5_wrong 15 = .ok (.iload_n 1, 1) := by decide +kernel
theorem dX5_wrong_16 : decode cX5_wrong 16 = .ok (.iaload, 1) := by decide +kernel
theorem dX5_wrong_17 : decode cX5_wrong 17 = .ok (.if_icmp .ge 42, 3) := by decide +kernel
theorem dX5_wrong_20 : decode cX5_wrong 20 = .ok (.iload_n 3, 1) := by decide +kernel
theorem dX5_wrong_21 : decode cX5_wrong 21 = .ok (.iconst (-1), 1) := by decide +kernel
theorem dX5_wrong_22 : decode cX5_wrong 22 = .ok (.if_icmp .ne 37, 3) := by decide +kernel
theorem dX5_wrong_25 : decode cX5_wrong 25 = .ok (.aload_n 0, 1) := by decide +kernel
theorem dX5_wrong_26 : decode cX5_wrong 26 = .ok (.invokevirtual 246, 3) := by decide +kernel
theorem dX5_wrong_29 : decode cX5_wrong 29 = .ok (.aload_n 0, 1) := by decide +kernel
theorem dX5_wrong_30 : decode cX5_wrong 30 = .ok (.getfield 20, 3) := by decide +kernel
theorem dX5_wrong_33 : decode cX5_wrong 33 = .ok (.iload_n 2, 1) := by decide +kernel
theorem dX5_wrong_34 : decode cX5_wrong 34 = .ok (.iaload, 1) := by decide +kernel
theorem dX5_wrong_35 : decode cX5_wrong 35 = .ok (.aload_n 0, 1) := by decide +kernel
theorem dX5_wrong_36 : decode cX5_wrong 36 = .ok (.getfield 65, 3) := by decide +kernel
theorem dX5_wrong_39 : decode cX5_wrong 39 = .ok (.bipush 40, 2) := by decide +kernel
theorem dX5_wrong_41 : decode cX5_wrong 41 = .ok (.iload_n 1, 1) := by decide +kernel
theorem dX5_wrong_42 : decode cX5_wrong 42 = .ok (.imul, 1) := by decide +kernel
theorem dX5_wrong_43 : decode cX5_wrong 43 = .ok (.iload 4, 2) := by decide +kernel
theorem dX5_wrong_45 : decode cX5_wrong 45 = .ok (.iadd, 1) := by decide +kernel
theorem dX5_wrong_46 : decode cX5_wrong 46 = .ok (.iaload, 1) := by decide +kernel
theorem dX5_wrong_47 : decode cX5_wrong 47 = .ok (.if_icmp .eq 6, 3) := by decide +kernel
theorem dX5_wrong_50 : decode cX5_wrong 50 = .ok (.iload 4, 2) := by decide +kernel
theorem dX5_wrong_52 : decode cX5_wrong 52 = .ok (.istore_n 3, 1) := by decide +kernel
theorem dX5_wrong_53 : decode cX5_wrong 53 = .ok (.iinc 4 1, 3) := by decide +kernel
theorem dX5_wrong_56 : decode cX5_wrong 56 = .ok (.goto (-47), 3) := by decide +kernel
theorem dX5_wrong_59 : decode cX5_wrong 59 = .ok (.aload_n 0, 1) := by decide +kernel
theorem dX5_wrong_60 : decode cX5_wrong 60 = .ok (.invokevirtual 258, 3) := by decide +kernel
theorem dX5_wrong_63 : decode cX5_wrong 63 = .ok (.iload_n 3, 1) := by decide +kernel
theorem dX5_wrong_64 : decode cX5_wrong 64 = .ok (.ireturn, 1) := by decide +kernel
theorem dX5_kindsSo_0 : decode cX5_kindsSo 0 = .ok (.aload_n 0, 1) := by decide +kernel
theorem dX5_kindsSo_1 : decode cX5_kindsSo 1 = .ok (.getfield 13, 3) := by decide +kernel
theorem dX5_kindsSo_4 : decode cX5_kindsSo 4 = .ok (.iload_n 2, 1) := by decide +kernel
theorem dX5_kindsSo_5 : decode cX5_kindsSo 5 = .ok (.iaload, 1) := by decide +kernel
theorem dX5_kindsSo_6 : decode cX5_kindsSo 6 = .ok (.istore_n 3, 1) := by decide +kernel
theorem dX5_kindsSo_7 : decode cX5_kindsSo 7 = .ok (.iconst 0, 1) := by decide +kernel
theorem dX5_kindsSo_8 : decode cX5_kindsSo 8 = .ok (.istore 4, 2) := by decide +kernel
theorem dX5_kindsSo_10 : decode cX5_kindsSo 10 = .ok (.iconst 0, 1) := by decide +kernel
theorem dX5_kindsSo_11 : decode cX5_kindsSo 11 = .ok (.istore 5, 2) := by decide +kernel
theorem dX5_kindsSo_13 : decode cX5_kindsSo 13 = .ok (.iload 5, 2) := by decide +kernel
theorem dX5_kindsSo_15 : decode cX5_kindsSo 15 = .ok (.bipush 6, 2) := by decide +kernel
theorem dX5_kindsSo_17 : decode cX5_kindsSo 17 = .ok (.if_icmp .ge 36, 3) := by decide +kernel
theorem dX5_kindsSo_20 : decode cX5_kindsSo 20 = .ok (.aload_n 0, 1) := by decide +kernel
theorem dX5_kindsSo_21 : decode cX5_kindsSo 21 = .ok (.getfield 13, 3) := by decide +kernel
theorem dX5_kindsSo_24 : decode cX5_kindsSo 24 = .ok (.iload_n 2, 1) := by decide +kernel
theorem dX5_kindsSo_25 : decode cX5_kindsSo 25 = .ok (.iload 5, 2) := by decide +kernel
theorem dX5_kindsSo_27 : decode cX5_kindsSo 27 = .ok (.iastore, 1) := by decide +kernel
theorem dX5_kindsSo_28 : decode cX5_kindsSo 28 = .ok (.aload_n 0, 1) := by decide +kernel
theorem dX5_kindsSo_29 : decode cX5_kindsSo 29 = .ok (.iload_n 1, 1) := by decide +kernel
theorem dX5_kindsSo_30 : decode cX5_kindsSo 30 = .ok (.iload_n 2, 1) := by decide +kernel
theorem dX5_kindsSo_31 : decode cX5_kindsSo 31 = .ok (.invokevirtual 276, 3) := by decide +kernel
theorem dX5_kindsSo_34 : decode cX5_kindsSo 34 = .ok (.iconst (-1), 1) := by decide +kernel
theorem dX5_kindsSo_35 : decode cX5_kindsSo 35 = .ok (.if_icmp .ne 12, 3) := by decide +kernel
theorem dX5_kindsSo_38 : decode cX5_kindsSo 38 = .ok (.iload 4, 2) := by decide +kernel
theorem dX5_kindsSo_40 : decode cX5_kindsSo 40 = .ok (.iconst 1, 1) := by decide +kernel
theorem dX5_kindsSo_41 : decode cX5_kindsSo 41 = .ok (.iload 5, 2) := by decide +kernel
theorem dX5_kindsSo_43 : decode cX5_kindsSo 43 = .ok (.ishl, 1) := by decide +kernel
theorem dX5_kindsSo_44 : decode cX5_kindsSo 44 = .ok (.ior, 1) := by decide +kernel
theorem dX5_kindsSo_45 : decode cX5_kindsSo 45 = .ok (.istore 4, 2) := by decide +kernel
theorem dX5_kindsSo_47 : decode cX5_kindsSo 47 = .ok (.iinc 5 1, 3) := by decide +kernel
theorem dX5_kindsSo_50 : decode cX5_kindsSo 50 = .ok (.goto (-37), 3) := by decide +kernel
theorem dX5_kindsSo_53 : decode cX5_kindsSo 53 = .ok (.aload_n 0, 1) := by decide +kernel
theorem dX5_kindsSo_54 : decode cX5_kindsSo 54 = .ok (.getfield 13, 3) := by decide +kernel
theorem dX5_kindsSo_57 : decode cX5_kindsSo 57 = .ok (.iload_n 2, 1) := by decide +kernel
theorem dX5_kindsSo_58 : decode cX5_kindsSo 58 = .ok (.iload_n 3, 1) := by decide +kernel
theorem dX5_kindsSo_59 : decode cX5_kindsSo 59 = .ok (.iastore, 1) := by decide +kernel
theorem dX5_kindsSo_60 : decode cX5_kindsSo 60 = .ok (.iload 4, 2) := by decide +kernel
theorem dX5_kindsSo_62 : decode cX5_kindsSo 62 = .ok (.ireturn, 1) := by decide +kernel
theorem dX5_numbersSo_0 : decode cX5_numbersSo 0 = .ok (.aload_n 0, 1) := by decide +kernel
theorem dX5_numbersSo_1 : decode cX5_numbersSo 1 = .ok (.getfield 17, 3) := by decide +kernel
theorem dX5_numbersSo_4 : decode cX5_numbersSo 4 = .ok (.iload_n 2, 1) := by decide +kernel
theorem dX5_numbersSo_5 : decode cX5_numbersSo 5 = .ok (.iaload, 1) := by decide +kernel
theorem dX5_numbersSo_6 : decode cX5_numbersSo 6 = .ok (.istore_n 3, 1) := by decide +kernel
theorem dX5_numbersSo_7 : decode cX5_numbersSo 7 = .ok (.iconst 0, 1) := by decide +kernel
theorem dX5_numbersSo_8 : decode cX5_numbersSo 8 = .ok (.istore 4, 2) := by decide +kernel
theorem dX5_numbersSo_10 : decode cX5_numbersSo 10 = .ok (.iconst 0, 1) := by decide +kernel
theorem dX5_numbersSo_11 : decode cX5_numbersSo 11 = .ok (.istore 5, 2) := by decide +kernel
theorem dX5_numbersSo_13 : decode cX5_numbersSo 13 = .ok (.iload 5, 2) := by decide +kernel
theorem dX5_numbersSo_15 : decode cX5_numbersSo 15 = .ok (.bipush 10, 2) := by decide +kernel
theorem dX5_numbersSo_17 : decode cX5_numbersSo 17 = .ok (.if_icmp .ge 36, 3) := by decide +kernel
theorem dX5_numbersSo_20 : decode cX5_numbersSo 20 = .ok (.aload_n 0, 1) := by decide +kernel
theorem dX5_numbersSo_21 : decode cX5_numbersSo 21 = .ok (.getfield 17, 3) := by decide +kernel
theorem dX5_numbersSo_24 : decode cX5_numbersSo 24 = .ok (.iload_n 2, 1) := by decide +kernel
theorem dX5_numbersSo_25 : decode cX5_numbersSo 25 = .ok (.iload 5, 2) := by decide +kernel
theorem dX5_numbersSo_27 : decode cX5_numbersSo 27 = .ok (.iastore, 1) := by decide +kernel
theorem dX5_numbersSo_28 : decode cX5_numbersSo 28 = .ok (.aload_n 0, 1) := by decide +kernel
theorem dX5_numbersSo_29 : decode cX5_numbersSo 29 = .ok (.iload_n 1, 1) := by decide +kernel
theorem dX5_numbersSo_30 : decode cX5_numbersSo 30 = .ok (.iload_n 2, 1) := by decide +kernel
theorem dX5_numbersSo_31 : decode cX5_numbersSo 31 = .ok (.invokevirtual 276, 3) := by decide +kernel
theorem dX5_numbersSo_34 : decode cX5_numbersSo 34 = .ok (.iconst (-1), 1) := by decide +kernel
theorem dX5_numbersSo_35 : decode cX5_numbersSo 35 = .ok (.if_icmp .ne 12, 3) := by decide +kernel
theorem dX5_numbersSo_38 : decode cX5_numbersSo 38 = .ok (.iload 4, 2) := by decide +kernel
theorem dX5_numbersSo_40 : decode cX5_numbersSo 40 = .ok (.iconst 1, 1) := by decide +kernel
theorem dX5_numbersSo_41 : decode cX5_numbersSo 41 = .ok (.iload 5, 2) := by decide +kernel
theorem dX5_numbersSo_43 : decode cX5_numbersSo 43 = .ok (.ishl, 1) := by decide +kernel
theorem dX5_numbersSo_44 : decode cX5_numbersSo 44 = .ok (.ior, 1) := by decide +kernel
theorem dX5_numbersSo_45 : decode cX5_numbersSo 45 = .ok (.istore 4, 2) := by decide +kernel
theorem dX5_numbersSo_47 : decode cX5_numbersSo 47 = .ok (.iinc 5 1, 3) := by decide +kernel
theorem dX5_numbersSo_50 : decode cX5_numbersSo 50 = .ok (.goto (-37), 3) := by decide +kernel
theorem dX5_numbersSo_53 : decode cX5_numbersSo 53 = .ok (.aload_n 0, 1) := by decide +kernel
theorem dX5_numbersSo_54 : decode cX5_numbersSo 54 = .ok (.getfield 17, 3) := by decide +kernel
theorem dX5_numbersSo_57 : decode cX5_numbersSo 57 = .ok (.iload_n 2, 1) := by decide +kernel
theorem dX5_numbersSo_58 : decode cX5_numbersSo 58 = .ok (.iload_n 3, 1) := by decide +kernel
theorem dX5_numbersSo_59 : decode cX5_numbersSo 59 = .ok (.iastore, 1) := by decide +kernel
theorem dX5_numbersSo_60 : decode cX5_numbersSo 60 = .ok (.iload 4, 2) := by decide +kernel
theorem dX5_numbersSo_62 : decode cX5_numbersSo 62 = .ok (.ireturn, 1) := by decide +kernel
theorem dX5_moodsSo_0 : decode cX5_moodsSo 0 = .ok (.aload_n 0, 1) := by decide +kernel
theorem dX5_moodsSo_1 : decode cX5_moodsSo 1 = .ok (.getfield 20, 3) := by decide +kernel
theorem dX5_moodsSo_4 : decode cX5_moodsSo 4 = .ok (.iload_n 2, 1) := by decide +kernel
theorem dX5_moodsSo_5 : decode cX5_moodsSo 5 = .ok (.iaload, 1) := by decide +kernel
theorem dX5_moodsSo_6 : decode cX5_moodsSo 6 = .ok (.istore 4, 2) := by decide +kernel
theorem dX5_moodsSo_8 : decode cX5_moodsSo 8 = .ok (.iconst 0, 1) := by decide +kernel
theorem dX5_moodsSo_9 : decode cX5_moodsSo 9 = .ok (.istore 5, 2) := by decide +kernel
theorem dX5_moodsSo_11 : decode cX5_moodsSo 11 = .ok (.bipush (-100), 2) := by decide +kernel
theorem dX5_moodsSo_13 : decode cX5_moodsSo 13 = .ok (.istore 6, 2) := by decide +kernel
theorem dX5_moodsSo_15 : decode cX5_moodsSo 15 = .ok (.bipush 20, 2) := by decide +kernel
theorem dX5_moodsSo_17 : decode cX5_moodsSo 17 = .ok (.istore 7, 2) := by decide +kernel
theorem dX5_moodsSo_19 : decode cX5_moodsSo 19 = .ok (.iload 7, 2) := by decide +kernel
theorem dX5_moodsSo_21 : decode cX5_moodsSo 21 = .ok (.bipush (-20), 2) := by decide +kernel
theorem dX5_moodsSo_23 : decode cX5_moodsSo 23 = .ok (.if_icmp .lt 37, 3) := by decide +kernel
theorem dX5_moodsSo_26 : decode cX5_moodsSo 26 = .ok (.aload_n 0, 1) := by decide +kernel
theorem dX5_moodsSo_27 : decode cX5_moodsSo 27 = .ok (.getfield 20, 3) := by decide +kernel
theorem dX5_moodsSo_30 : decode cX5_moodsSo 30 = .ok (.iload_n 2, 1) := by decide +kernel
theorem dX5_moodsSo_31 : decode cX5_moodsSo 31 = .ok (.iload 7, 2) := by decide +kernel
theorem dX5_moodsSo_33 : decode cX5_moodsSo 33 = .ok (.iastore, 1) := by decide +kernel
theorem dX5_moodsSo_34 : decode cX5_moodsSo 34 = .ok (.aload_n 0, 1) := by decide +kernel
theorem dX5_moodsSo_35 : decode cX5_moodsSo 35 = .ok (.iload_n 1, 1) := by decide +kernel
theorem dX5_moodsSo_36 : decode cX5_moodsSo 36 = .ok (.iload_n 2, 1) := by decide +kernel
theorem dX5_moodsSo_37 : decode cX5_moodsSo 37 = .ok (.invokevirtual 276, 3) := by decide +kernel
theorem dX5_moodsSo_40 : decode cX5_moodsSo 40 = .ok (.iconst (-1), 1) := by decide +kernel
theorem dX5_moodsSo_41 : decode cX5_moodsSo 41 = .ok (.if_icmp .eq 6, 3) := by decide +kernel
theorem dX5_moodsSo_44 : decode cX5_moodsSo 44 = .ok (.goto 10, 3) := by decide +kernel
theorem dX5_moodsSo_47 : decode cX5_moodsSo 47 = .ok (.iinc 5 1, 3) := by decide +kernel
theorem dX5_moodsSo_50 : decode cX5_moodsSo 50 = .ok (.iload 7, 2) := by decide +kernel
theorem dX5_moodsSo_52 : decode cX5_moodsSo 52 = .ok (.istore 6, 2) := by decide +kernel
theorem dX5_moodsSo_54 : decode cX5_moodsSo 54 = .ok (.iinc 7 (-1), 3) := by decide +kernel
theorem dX5_moodsSo_57 : decode cX5_moodsSo 57 = .ok (.goto (-38), 3) := by decide +kernel
theorem dX5_moodsSo_60 : decode cX5_moodsSo 60 = .ok (.aload_n 0, 1) := by decide +kernel
theorem dX5_moodsSo_61 : decode cX5_moodsSo 61 = .ok (.getfield 20, 3) := by decide +kernel
theorem dX5_moodsSo_64 : decode cX5_moodsSo 64 = .ok (.iload_n 2, 1) := by decide +kernel
theorem dX5_moodsSo_65 : decode cX5_moodsSo 65 = .ok (.iload 4, 2) := by decide +kernel
theorem dX5_moodsSo_67 : decode cX5_moodsSo 67 = .ok (.iastore, 1) := by decide +kernel
theorem dX5_moodsSo_68 : decode cX5_moodsSo 68 = .ok (.iload_n 3, 1) := by decide +kernel
theorem dX5_moodsSo_69 : decode cX5_moodsSo 69 = .ok (.ifCond .ne 8, 3) := by decide +kernel
theorem dX5_moodsSo_72 : decode cX5_moodsSo 72 = .ok (.iload 5, 2) := by decide +kernel
theorem dX5_moodsSo_74 : decode cX5_moodsSo 74 = .ok (.goto 5, 3) := by decide +kernel
theorem dX5_moodsSo_77 : decode cX5_moodsSo 77 = .ok (.iload 6, 2) := by decide +kernel
theorem dX5_moodsSo_79 : decode cX5_moodsSo 79 = .ok (.ireturn, 1) := by decide +kernel
theorem dX5_textsSo_0 : decode cX5_textsSo 0 = .ok (.aload_n 0, 1) := by decide +kernel
theorem dX5_textsSo_1 : decode cX5_textsSo 1 = .ok (.getfield 214, 3) := by decide +kernel
theorem dX5_textsSo_4 : decode cX5_textsSo 4 = .ok (.istore_n 3, 1) := by decide +kernel
theorem dX5_textsSo_5 : decode cX5_textsSo 5 = .ok (.iconst 0, 1) := by decide +kernel
theorem dX5_textsSo_6 : decode cX5_textsSo 6 = .ok (.istore 4, 2) := by decide +kernel
theorem dX5_textsSo_8 : decode cX5_textsSo 8 = .ok (.iconst 0, 1) := by decide +kernel
theorem dX5_textsSo_9 : decode cX5_textsSo 9 = .ok (.istore 5, 2) := by decide +kernel
theorem dX5_textsSo_11 : decode cX5_textsSo 11 = .ok (.iload 5, 2) := by decide +kernel
theorem dX5_textsSo_13 : decode cX5_textsSo 13 = .ok (.aload_n 0, 1) := by decide +kernel
theorem dX5_textsSo_14 : decode cX5_textsSo 14 = .ok (.getfield 76, 3) := by decide +kernel
theorem dX5_textsSo_17 : decode cX5_textsSo 17 = .ok (.if_icmp .ge 34, 3) := by decide +kernel
theorem dX5_textsSo_20 : decode cX5_textsSo 20 = .ok (.aload_n 0, 1) := by decide +kernel
theorem dX5_textsSo_21 : decode cX5_textsSo 21 = .ok (.iload 5, 2) := by decide +kernel
theorem dX5_textsSo_23 : decode cX5_textsSo 23 = .ok (.putfield 214, 3) := by decide +kernel
theorem dX5_textsSo_26 : decode cX5_textsSo 26 = .ok (.aload_n 0, 1) := by decide +kernel
theorem dX5_textsSo_27 : decode cX5_textsSo 27 = .ok (.iload_n 1, 1) := by decide +kernel
theorem dX5_textsSo_28 : decode cX5_textsSo 28 = .ok (.iload_n 2, 1) := by decide +kernel
theorem dX5_textsSo_29 : decode cX5_textsSo 29 = .ok (.invokevirtual 276, 3) := by decide +kernel
theorem dX5_textsSo_32 : decode cX5_textsSo 32 = .ok (.iconst (-1), 1) := by decide +kernel
theorem dX5_textsSo_33 : decode cX5_textsSo 33 = .ok (.if_icmp .ne 12, 3) := by decide +kernel
theorem dX5_textsSo_36 : decode cX5_textsSo 36 = .ok (.iload 4, 2) := by decide +kernel
theorem dX5_textsSo_38 : decode cX5_textsSo 38 = .ok (.iconst 1, 1) := by decide +kernel
theorem dX5_textsSo_39 : decode cX5_textsSo 39 = .ok (.iload 5, 2) := by decide +kernel
theorem dX5_textsSo_41 : decode cX5_textsSo 41 = .ok (.ishl, 1) := by decide +kernel
theorem dX5_textsSo_42 : decode cX5_textsSo 42 = .ok (.ior, 1) := by decide +kernel
theorem dX5_textsSo_43 : decode cX5_textsSo 43 = .ok (.istore 4, 2) := by decide +kernel
theorem dX5_textsSo_45 : decode cX5_textsSo 45 = .ok (.iinc 5 1, 3) := by decide +kernel
theorem dX5_textsSo_48 : decode cX5_textsSo 48 = .ok (.goto (-37), 3) := by decide +kernel
theorem dX5_textsSo_51 : decode cX5_textsSo 51 = .ok (.aload_n 0, 1) := by decide +kernel
theorem dX5_textsSo_52 : decode cX5_textsSo 52 = .ok (.iload_n 3, 1) := by decide +kernel
theorem dX5_textsSo_53 : decode cX5_textsSo 53 = .ok (.putfield 214, 3) := by decide +kernel
theorem dX5_textsSo_56 : decode cX5_textsSo 56 = .ok (.iload 4, 2) := by decide +kernel
theorem dX5_textsSo_58 : decode cX5_textsSo 58 = .ok (.ireturn, 1) := by decide +kernel
theorem dX5_tells_0 : decode cX5_tells 0 = .ok (.iload_n 1, 1) := by decide +kernel
theorem dX5_tells_1 : decode cX5_tells 1 = .ok (.invokestatic 279, 3) := by decide +kernel
theorem dX5_tells_4 : decode cX5_tells 4 = .ok (.ifCond .eq 20, 3) := by decide +kernel
theorem dX5_tells_7 : decode cX5_tells 7 = .ok (.aload_n 0, 1) := by decide +kernel
theorem dX5_tells_8 : decode cX5_tells 8 = .ok (.iload_n 2, 1) := by decide +kernel
theorem dX5_tells_9 : decode cX5_tells 9 = .ok (.invokevirtual 86, 3) := by decide +kernel
theorem dX5_tells_12 : decode cX5_tells 12 = .ok (.ifCond .eq 12, 3) := by decide +kernel
theorem dX5_tells_15 : decode cX5_tells 15 = .ok (.iload_n 3, 1) := by decide +kernel
theorem dX5_tells_16 : decode cX5_tells 16 = .ok (.iconst 0, 1) := by decide +kernel
theorem dX5_tells_17 : decode cX5_tells 17 = .ok (.iconst 5, 1) := by decide +kernel
theorem dX5_tells_18 : decode cX5_tells 18 = .ok (.invokestatic 82, 3) := by decide +kernel
theorem dX5_tells_21 : decode cX5_tells 21 = .ok (.ifCond .ne 7, 3) := by decide +kernel
theorem dX5_tells_24 : decode cX5_tells 24 = .ok (.sipush (-1000), 3) := by decide +kernel
theorem dX5_tells_27 : decode cX5_tells 27 = .ok (.ireturn, 1) := by decide +kernel
theorem dX5_tells_28 : decode cX5_tells 28 = .ok (.aload_n 0, 1) := by decide +kernel
theorem dX5_tells_29 : decode cX5_tells 29 = .ok (.getfield 59, 3) := by decide +kernel
theorem dX5_tells_32 : decode cX5_tells 32 = .ok (.iload_n 1, 1) := by decide +kernel
theorem dX5_tells_33 : decode cX5_tells 33 = .ok (.iaload, 1) := by decide +kernel
theorem dX5_tells_34 : decode cX5_tells 34 = .ok (.ifCond .ge 6, 3) := by decide +kernel
theorem dX5_tells_37 : decode cX5_tells 37 = .ok (.bipush (-11), 2) := by decide +kernel
theorem dX5_tells_39 : decode cX5_tells 39 = .ok (.ireturn, 1) := by decide +kernel
theorem dX5_tells_40 : decode cX5_tells 40 = .ok (.aload_n 0, 1) := by decide +kernel
theorem dX5_tells_41 : decode cX5_tells 41 = .ok (.getfield 62, 3) := by decide +kernel
theorem dX5_tells_44 : decode cX5_tells 44 = .ok (.iload_n 1, 1) := by decide +kernel
theorem dX5_tells_45 : decode cX5_tells 45 = .ok (.iaload, 1) := by decide +kernel
theorem dX5_tells_46 : decode cX5_tells 46 = .ok (.bipush 10, 2) := by decide +kernel
theorem dX5_tells_48 : decode cX5_tells 48 = .ok (.if_icmp .le 7, 3) := by decide +kernel
theorem dX5_tells_51 : decode cX5_tells 51 = .ok (.sipush (-1000), 3) := by decide +kernel
theorem dX5_tells_54 : decode cX5_tells 54 = .ok (.ireturn, 1) := by decide +kernel
theorem dX5_tells_55 : decode cX5_tells 55 = .ok (.iload_n 3, 1) := by decide +kernel
theorem dX5_tells_56 : decode cX5_tells 56 = .ok (.tableswitch 73 0 4 #[36, 43, 50, 57, 65], 36) := by decide +kernel
theorem dX5_tells_92 : decode cX5_tells 92 = .ok (.aload_n 0, 1) := by decide +kernel
theorem dX5_tells_93 : decode cX5_tells 93 = .ok (.iload_n 1, 1) := by decide +kernel
theorem dX5_tells_94 : decode cX5_tells 94 = .ok (.iload_n 2, 1) := by decide +kernel
theorem dX5_tells_95 : decode cX5_tells 95 = .ok (.invokevirtual 276, 3) := by decide +kernel
theorem dX5_tells_98 : decode cX5_tells 98 = .ok (.ireturn, 1) := by decide +kernel
theorem dX5_tells_99 : decode cX5_tells 99 = .ok (.aload_n 0, 1) := by decide +kernel
theorem dX5_tells_100 : decode cX5_tells 100 = .ok (.iload_n 1, 1) := by decide +kernel
theorem dX5_tells_101 : decode cX5_tells 101 = .ok (.iload_n 2, 1) := by decide +kernel
theorem dX5_tells_102 : decode cX5_tells 102 = .ok (.invokevirtual 282, 3) := by decide +kernel
theorem dX5_tells_105 : decode cX5_tells 105 = .ok (.ireturn, 1) := by decide +kernel
theorem dX5_tells_106 : decode cX5_tells 106 = .ok (.aload_n 0, 1) := by decide +kernel
theorem dX5_tells_107 : decode cX5_tells 107 = .ok (.iload_n 1, 1) := by decide +kernel
theorem dX5_tells_108 : decode cX5_tells 108 = .ok (.iload_n 2, 1) := by decide +kernel
theorem dX5_tells_109 : decode cX5_tells 109 = .ok (.invokevirtual 285, 3) := by decide +kernel
theorem dX5_tells_112 : decode cX5_tells 112 = .ok (.ireturn, 1) := by decide +kernel
theorem dX5_tells_113 : decode cX5_tells 113 = .ok (.aload_n 0, 1) := by decide +kernel
theorem dX5_tells_114 : decode cX5_tells 114 = .ok (.iload_n 1, 1) := by decide +kernel
theorem dX5_tells_115 : decode cX5_tells 115 = .ok (.iload_n 2, 1) := by decide +kernel
theorem dX5_tells_116 : decode cX5_tells 116 = .ok (.iconst 0, 1) := by decide +kernel
theorem dX5_tells_117 : decode cX5_tells 117 = .ok (.invokevirtual 288, 3) := by decide +kernel
theorem dX5_tells_120 : decode cX5_tells 120 = .ok (.ireturn, 1) := by decide +kernel
theorem dX5_tells_121 : decode cX5_tells 121 = .ok (.aload_n 0, 1) := by decide +kernel
theorem dX5_tells_122 : decode cX5_tells 122 = .ok (.iload_n 1, 1) := by decide +kernel
theorem dX5_tells_123 : decode cX5_tells 123 = .ok (.iload_n 2, 1) := by decide +kernel
theorem dX5_tells_124 : decode cX5_tells 124 = .ok (.iconst 1, 1) := by decide +kernel
theorem dX5_tells_125 : decode cX5_tells 125 = .ok (.invokevirtual 288, 3) := by decide +kernel
theorem dX5_tells_128 : decode cX5_tells 128 = .ok (.ireturn, 1) := by decide +kernel
theorem dX5_tells_129 : decode cX5_tells 129 = .ok (.aload_n 0, 1) := by decide +kernel
theorem dX5_tells_130 : decode cX5_tells 130 = .ok (.iload_n 1, 1) := by decide +kernel
theorem dX5_tells_131 : decode cX5_tells 131 = .ok (.iload_n 2, 1) := by decide +kernel
theorem dX5_tells_132 : decode cX5_tells 132 = .ok (.invokevirtual 291, 3) := by decide +kernel
theorem dX5_tells_135 : decode cX5_tells 135 = .ok (.ireturn, 1) := by decide +kernel
theorem dX5_film_0 : decode cX5_film 0 = .ok (.iload_n 1, 1) := by decide +kernel
theorem dX5_film_1 : decode cX5_film 1 = .ok (.invokestatic 279, 3) := by decide +kernel
theorem dX5_film_4 : decode cX5_film 4 = .ok (.ifCond .eq 21, 3) := by decide +kernel
theorem dX5_film_7 : decode cX5_film 7 = .ok (.aload_n 0, 1) := by decide +kernel
theorem dX5_film_8 : decode cX5_film 8 = .ok (.iload_n 2, 1) := by decide +kernel
theorem dX5_film_9 : decode cX5_film 9 = .ok (.invokevirtual 86, 3) := by decide +kernel
theorem dX5_film_12 : decode cX5_film 12 = .ok (.ifCond .eq 13, 3) := by decide +kernel
theorem dX5_film_15 : decode cX5_film 15 = .ok (.iload_n 3, 1) := by decide +kernel
theorem dX5_film_16 : decode cX5_film 16 = .ok (.iconst 0, 1) := by decide +kernel
theorem dX5_film_17 : decode cX5_film 17 = .ok (.bipush 10, 2) := by decide +kernel
theorem dX5_film_19 : decode cX5_film 19 = .ok (.invokestatic 82, 3) := by decide +kernel
theorem dX5_film_22 : decode cX5_film 22 = .ok (.ifCond .ne 6, 3) := by decide +kernel
theorem dX5_film_25 : decode cX5_film 25 = .ok (.bipush (-2), 2) := by decide +kernel
theorem dX5_film_27 : decode cX5_film 27 = .ok (.ireturn, 1) := by decide +kernel
theorem dX5_film_28 : decode cX5_film 28 = .ok (.aload_n 0, 1) := by decide +kernel
theorem dX5_film_29 : decode cX5_film 29 = .ok (.iload_n 1, 1) := by decide +kernel
theorem dX5_film_30 : decode cX5_film 30 = .ok (.iconst 0, 1) := by decide +kernel
theorem dX5_film_31 : decode cX5_film 31 = .ok (.iload_n 3, 1) := by decide +kernel
theorem dX5_film_32 : decode cX5_film 32 = .ok (.invokevirtual 294, 3) := by decide +kernel
theorem dX5_film_35 : decode cX5_film 35 = .ok (.pop, 1) := by decide +kernel
theorem dX5_film_36 : decode cX5_film 36 = .ok (.aload_n 0, 1) := by decide +kernel
theorem dX5_film_37 : decode cX5_film 37 = .ok (.invokevirtual 252, 3) := by decide +kernel
theorem dX5_film_40 : decode cX5_film 40 = .ok (.iconst 0, 1) := by decide +kernel
theorem dX5_film_41 : decode cX5_film 41 = .ok (.istore 4, 2) := by decide +kernel
theorem dX5_film_43 : decode cX5_film 43 = .ok (.iload 4, 2) := by decide +kernel
theorem dX5_film_45 : decode cX5_film 45 = .ok (.iload_n 3, 1) := by decide +kernel
theorem dX5_film_46 : decode cX5_film 46 = .ok (.if_icmp .ge 31, 3) := by decide +kernel
theorem dX5_film_49 : decode cX5_film 49 = .ok (.aload_n 0, 1) := by decide +kernel
theorem dX5_film_50 : decode cX5_film 50 = .ok (.invokevirtual 246, 3) := by decide +kernel
theorem dX5_film_53 : decode cX5_film 53 = .ok (.aload_n 0, 1) := by decide +kernel
theorem dX5_film_54 : decode cX5_film 54 = .ok (.getfield 65, 3) := by decide +kernel
theorem dX5_film_57 : decode cX5_film 57 = .ok (.bipush 40, 2) := by decide +kernel
theorem dX5_film_59 : decode cX5_film 59 = .ok (.iload_n 1, 1) := by decide +kernel
theorem dX5_film_60 : decode cX5_film 60 = .ok (.imul, 1) := by decide +kernel
theorem dX5_film_61 : decode cX5_film 61 = .ok (.iload 4, 2) := by decide +kernel
theorem dX5_film_63 : decode cX5_film 63 = .ok (.iadd, 1) := by decide +kernel
theorem dX5_film_64 : decode cX5_film 64 = .ok (.aload_n 0, 1) := by decide +kernel
theorem dX5_film_65 : decode cX5_film 65 = .ok (.getfield 20, 3) := by decide +kernel
theorem dX5_film_68 : decode cX5_film 68 = .ok (.iload_n 2, 1) := by decide +kernel
theorem dX5_film_69 : decode cX5_film 69 = .ok (.iaload, 1) := by decide +kernel
theorem dX5_film_70 : decode cX5_film 70 = .ok (.iastore, 1) := by decide +kernel
theorem dX5_film_71 : decode cX5_film 71 = .ok (.iinc 4 1, 3) := by decide +kernel
theorem dX5_film_74 : decode cX5_film 74 = .ok (.goto (-31), 3) := by decide +kernel
theorem dX5_film_77 : decode cX5_film 77 = .ok (.aload_n 0, 1) := by decide +kernel
theorem dX5_film_78 : decode cX5_film 78 = .ok (.invokevirtual 258, 3) := by decide +kernel
theorem dX5_film_81 : decode cX5_film 81 = .ok (.iload_n 3, 1) := by decide +kernel
theorem dX5_film_82 : decode cX5_film 82 = .ok (.ireturn, 1) := by decide +kernel
theorem dX5_drawn_0 : decode cX5_drawn 0 = .ok (.aload_n 0, 1) := by decide +kernel
theorem dX5_drawn_1 : decode cX5_drawn 1 = .ok (.iload_n 1, 1) := by decide +kernel
theorem dX5_drawn_2 : decode cX5_drawn 2 = .ok (.invokevirtual 297, 3) := by decide +kernel
theorem dX5_drawn_5 : decode cX5_drawn 5 = .ok (.ireturn, 1) := by decide +kernel
theorem dX5_byLot_0 : decode cX5_byLot 0 = .ok (.iconst 0, 1) := by decide +kernel
theorem dX5_byLot_1 : decode cX5_byLot 1 = .ok (.istore_n 2, 1) := by decide +kernel
theorem dX5_byLot_2 : decode cX5_byLot 2 = .ok (.iload_n 2, 1) := by decide +kernel
theorem dX5_byLot_3 : decode cX5_byLot 3 = .ok (.iconst 5, 1) := by decide +kernel
theorem dX5_byLot_4 : decode cX5_byLot 4 = .ok (.if_icmp .ge 21, 3) := by decide +kernel
theorem dX5_byLot_7 : decode cX5_byLot 7 = .ok (.aload_n 0, 1) := by decide +kernel
theorem dX5_byLot_8 : decode cX5_byLot 8 = .ok (.getfield 50, 3) := by decide +kernel
theorem dX5_byLot_11 : decode cX5_byLot 11 = .ok (.iload_n 2, 1) := by decide +kernel
theorem dX5_byLot_12 : decode cX5_byLot 12 = .ok (.aload_n 0, 1) := by decide +kernel
theorem dX5_byLot_13 : decode cX5_byLot 13 = .ok (.getfield 20, 3) := by decide +kernel
theorem dX5_byLot_16 : decode cX5_byLot 16 = .ok (.iload_n 2, 1) := by decide +kernel
theorem dX5_byLot_17 : decode cX5_byLot 17 = .ok (.iaload, 1) := by decide +kernel
theorem dX5_byLot_18 : decode cX5_byLot 18 = .ok (.iastore, 1) := by decide +kernel
theorem dX5_byLot_19 : decode cX5_byLot 19 = .ok (.iinc 2 1, 3) := by decide +kernel
theorem dX5_byLot_22 : decode cX5_byLot 22 = .ok (.goto (-20), 3) := by decide +kernel
theorem dX5_byLot_25 : decode cX5_byLot 25 = .ok (.iload_n 1, 1) := by decide +kernel
theorem dX5_byLot_26 : decode cX5_byLot 26 = .ok (.istore_n 2, 1) := by decide +kernel
theorem dX5_byLot_27 : decode cX5_byLot 27 = .ok (.iconst 0, 1) := by decide +kernel
theorem dX5_byLot_28 : decode cX5_byLot 28 = .ok (.istore_n 3, 1) := by decide +kernel
theorem dX5_byLot_29 : decode cX5_byLot 29 = .ok (.iload_n 3, 1) := by decide +kernel
theorem dX5_byLot_30 : decode cX5_byLot 30 = .ok (.aload_n 0, 1) := by decide +kernel
theorem dX5_byLot_31 : decode cX5_byLot 31 = .ok (.getfield 79, 3) := by decide +kernel
theorem dX5_byLot_34 : decode cX5_byLot 34 = .ok (.if_icmp .ge 35, 3) := by decide +kernel
theorem dX5_byLot_37 : decode cX5_byLot 37 = .ok (.iload_n 2, 1) := by decide +kernel
theorem dX5_byLot_38 : decode cX5_byLot 38 = .ok (.ldc_w 300, 3) := by decide +kernel
theorem dX5_byLot_41 : decode cX5_byLot 41 = .ok (.imul, 1) := by decide +kernel
theorem dX5_byLot_42 : decode cX5_byLot 42 = .ok (.sipush 12345, 3) := by decide +kernel
theorem dX5_byLot_45 : decode cX5_byLot 45 = .ok (.iadd, 1) := by decide +kernel
theorem dX5_byLot_46 : decode cX5_byLot 46 = .ok (.istore_n 2, 1) := by decide +kernel
theorem dX5_byLot_47 : decode cX5_byLot 47 = .ok (.aload_n 0, 1) := by decide +kernel
theorem dX5_byLot_48 : decode cX5_byLot 48 = .ok (.getfield 20, 3) := by decide +kernel
theorem dX5_byLot_51 : decode cX5_byLot 51 = .ok (.iload_n 3, 1) := by decide +kernel
theorem dX5_byLot_52 : decode cX5_byLot 52 = .ok (.iload_n 2, 1) := by decide +kernel
theorem dX5_byLot_53 : decode cX5_byLot 53 = .ok (.bipush 9, 2) := by decide +kernel
theorem dX5_byLot_55 : decode cX5_byLot 55 = .ok (.iushr, 1) := by decide +kernel
theorem dX5_byLot_56 : decode cX5_byLot 56 = .ok (.bipush 41, 2) := by decide +kernel
theorem dX5_byLot_58 : decode cX5_byLot 58 = .ok (.irem, 1) := by decide +kernel
theorem dX5_byLot_59 : decode cX5_byLot 59 = .ok (.bipush 20, 2) := by decide +kernel
theorem dX5_byLot_61 : decode cX5_byLot 61 = .ok (.isub, 1) := by decide +kernel
theorem dX5_byLot_62 : decode cX5_byLot 62 = .ok (.iastore, 1) := by decide +kernel
theorem dX5_byLot_63 : decode cX5_byLot 63 = .ok (.iinc 3 1, 3) := by decide +kernel
theorem dX5_byLot_66 : decode cX5_byLot 66 = .ok (.goto (-37), 3) := by decide +kernel
theorem dX5_byLot_69 : decode cX5_byLot 69 = .ok (.aload_n 0, 1) := by decide +kernel
theorem dX5_byLot_70 : decode cX5_byLot 70 = .ok (.iconst 5, 1) := by decide +kernel
theorem dX5_byLot_71 : decode cX5_byLot 71 = .ok (.invokevirtual 273, 3) := by decide +kernel
theorem dX5_byLot_74 : decode cX5_byLot 74 = .ok (.istore_n 3, 1) := by decide +kernel
theorem dX5_byLot_75 : decode cX5_byLot 75 = .ok (.iconst 0, 1) := by decide +kernel
theorem dX5_byLot_76 : decode cX5_byLot 76 = .ok (.istore 4, 2) := by decide +kernel
theorem dX5_byLot_78 : decode cX5_byLot 78 = .ok (.iload 4, 2) := by decide +kernel
theorem dX5_byLot_80 : decode cX5_byLot 80 = .ok (.iconst 5, 1) := by decide +kernel
theorem dX5_byLot_81 : decode cX5_byLot 81 = .ok (.if_icmp .ge 23, 3) := by decide +kernel
theorem dX5_byLot_84 : decode cX5_byLot 84 = .ok (.aload_n 0, 1) := by decide +kernel
theorem dX5_byLot_85 : decode cX5_byLot 85 = .ok (.getfield 20, 3) := by decide +kernel
theorem dX5_byLot_88 : decode cX5_byLot 88 = .ok (.iload 4, 2) := by decide +kernel
theorem dX5_byLot_90 : decode cX5_byLot 90 = .ok (.aload_n 0, 1) := by decide +kernel
theorem dX5_byLot_91 : decode cX5_byLot 91 = .ok (.getfield 50, 3) := by decide +kernel
theorem dX5_byLot_94 : decode cX5_byLot 94 = .ok (.iload 4, 2) := by decide +kernel
theorem dX5_byLot_96 : decode cX5_byLot 96 = .ok (.iaload, 1) := by decide +kernel
theorem dX5_byLot_97 : decode cX5_byLot 97 = .ok (.iastore, 1) := by decide +kernel
theorem dX5_byLot_98 : decode cX5_byLot 98 = .ok (.iinc 4 1, 3) := by decide +kernel
theorem dX5_byLot_101 : decode cX5_byLot 101 = .ok (.goto (-23), 3) := by decide +kernel
theorem dX5_byLot_104 : decode cX5_byLot 104 = .ok (.iload_n 3, 1) := by decide +kernel
theorem dX5_byLot_105 : decode cX5_byLot 105 = .ok (.ireturn, 1) := by decide +kernel
theorem dX5_chance_0 : decode cX5_chance 0 = .ok (.iload_n 2, 1) := by decide +kernel
theorem dX5_chance_1 : decode cX5_chance 1 = .ok (.iconst 1, 1) := by decide +kernel
theorem dX5_chance_2 : decode cX5_chance 2 = .ok (.bipush 20, 2) := by decide +kernel
theorem dX5_chance_4 : decode cX5_chance 4 = .ok (.invokestatic 82, 3) := by decide +kernel
theorem dX5_chance_7 : decode cX5_chance 7 = .ok (.ifCond .eq 24, 3) := by decide +kernel
theorem dX5_chance_10 : decode cX5_chance 10 = .ok (.iload_n 3, 1) := by decide +kernel
theorem dX5_chance_11 : decode cX5_chance 11 = .ok (.bipush (-100), 2) := by decide +kernel
theorem dX5_chance_13 : decode cX5_chance 13 = .ok (.bipush 100, 2) := by decide +kernel
theorem dX5_chance_15 : decode cX5_chance 15 = .ok (.invokestatic 82, 3) := by decide +kernel
theorem dX5_chance_18 : decode cX5_chance 18 = .ok (.ifCond .eq 13, 3) := by decide +kernel
theorem dX5_chance_21 : decode cX5_chance 21 = .ok (.iload 4, 2) := by decide +kernel
theorem dX5_chance_23 : decode cX5_chance 23 = .ok (.iconst 0, 1) := by decide +kernel
theorem dX5_chance_24 : decode cX5_chance 24 = .ok (.iconst 1, 1) := by decide +kernel
theorem dX5_chance_25 : decode cX5_chance 25 = .ok (.invokestatic 82, 3) := by decide +kernel
theorem dX5_chance_28 : decode cX5_chance 28 = .ok (.ifCond .ne 7, 3) := by decide +kernel
theorem dX5_chance_31 : decode cX5_chance 31 = .ok (.ldc2_w 301, 3) := by decide +kernel
theorem dX5_chance_34 : decode cX5_chance 34 = .ok (.lreturn, 1) := by decide +kernel
theorem dX5_chance_35 : decode cX5_chance 35 = .ok (.iconst 0, 1) := by decide +kernel
theorem dX5_chance_36 : decode cX5_chance 36 = .ok (.istore 5, 2) := by decide +kernel
theorem dX5_chance_38 : decode cX5_chance 38 = .ok (.iconst 0, 1) := by decide +kernel
theorem dX5_chance_39 : decode cX5_chance 39 = .ok (.istore 6, 2) := by decide +kernel
theorem dX5_chance_41 : decode cX5_chance 41 = .ok (.iload 6, 2) := by decide +kernel
theorem dX5_chance_43 : decode cX5_chance 43 = .ok (.iload_n 2, 1) := by decide +kernel
theorem dX5_chance_44 : decode cX5_chance 44 = .ok (.if_icmp .ge 24, 3) := by decide +kernel
theorem dX5_chance_47 : decode cX5_chance 47 = .ok (.aload_n 0, 1) := by decide +kernel
theorem dX5_chance_48 : decode cX5_chance 48 = .ok (.iload_n 1, 1) := by decide +kernel
theorem dX5_chance_49 : decode cX5_chance 49 = .ok (.iload 6, 2) := by decide +kernel
theorem dX5_chance_51 : decode cX5_chance 51 = .ok (.iadd, 1) := by decide +kernel
theorem dX5_chance_52 : decode cX5_chance 52 = .ok (.invokevirtual 297, 3) := by decide +kernel
theorem dX5_chance_55 : decode cX5_chance 55 = .ok (.iload_n 3, 1) := by decide +kernel
theorem dX5_chance_56 : decode cX5_chance 56 = .ok (.if_icmp .lt 6, 3) := by decide +kernel
theorem dX5_chance_59 : decode cX5_chance 59 = .ok (.iinc 5 1, 3) := by decide +kernel
theorem dX5_chance_62 : decode cX5_chance 62 = .ok (.iinc 6 1, 3) := by decide +kernel
theorem dX5_chance_65 : decode cX5_chance 65 = .ok (.goto (-24), 3) := by decide +kernel
theorem dX5_chance_68 : decode cX5_chance 68 = .ok (.iload 5, 2) := by decide +kernel
theorem dX5_chance_70 : decode cX5_chance 70 = .ok (.istore 6, 2) := by decide +kernel
theorem dX5_chance_72 : decode cX5_chance 72 = .ok (.iload_n 2, 1) := by decide +kernel
theorem dX5_chance_73 : decode cX5_chance 73 = .ok (.istore 7, 2) := by decide +kernel
theorem dX5_chance_75 : decode cX5_chance 75 = .ok (.iload 7, 2) := by decide +kernel
theorem dX5_chance_77 : decode cX5_chance 77 = .ok (.ifCond .eq 21, 3) := by decide +kernel
theorem dX5_chance_80 : decode cX5_chance 80 = .ok (.iload 6, 2) := by decide +kernel
theorem dX5_chance_82 : decode cX5_chance 82 = .ok (.iload 7, 2) := by decide +kernel
theorem dX5_chance_84 : decode cX5_chance 84 = .ok (.irem, 1) := by decide +kernel
theorem dX5_chance_85 : decode cX5_chance 85 = .ok (.istore 8, 2) := by decide +kernel
theorem dX5_chance_87 : decode cX5_chance 87 = .ok (.iload 7, 2) := by decide +kernel
theorem dX5_chance_89 : decode cX5_chance 89 = .ok (.istore 6, 2) := by decide +kernel
theorem dX5_chance_91 : decode cX5_chance 91 = .ok (.iload 8, 2) := by decide +kernel
theorem dX5_chance_93 : decode cX5_chance 93 = .ok (.istore 7, 2) := by decide +kernel
theorem dX5_chance_95 : decode cX5_chance 95 = .ok (.goto (-20), 3) := by decide +kernel
theorem dX5_chance_98 : decode cX5_chance 98 = .ok (.iload 4, 2) := by decide +kernel
theorem dX5_chance_100 : decode cX5_chance 100 = .ok (.ifCond .ne 12, 3) := by decide +kernel
theorem dX5_chance_103 : decode cX5_chance 103 = .ok (.iload 5, 2) := by decide +kernel
theorem dX5_chance_105 : decode cX5_chance 105 = .ok (.iload 6, 2) := by decide +kernel
theorem dX5_chance_107 : decode cX5_chance 107 = .ok (.idiv, 1) := by decide +kernel
theorem dX5_chance_108 : decode cX5_chance 108 = .ok (.i2l, 1) := by decide +kernel
theorem dX5_chance_109 : decode cX5_chance 109 = .ok (.goto 8, 3) := by decide +kernel
theorem dX5_chance_112 : decode cX5_chance 112 = .ok (.iload_n 2, 1) := by decide +kernel
theorem dX5_chance_113 : decode cX5_chance 113 = .ok (.iload 6, 2) := by decide +kernel
theorem dX5_chance_115 : decode cX5_chance 115 = .ok (.idiv, 1) := by decide +kernel
theorem dX5_chance_116 : decode cX5_chance 116 = .ok (.i2l, 1) := by decide +kernel
theorem dX5_chance_117 : decode cX5_chance 117 = .ok (.lreturn, 1) := by decide +kernel
theorem dX5_image_0 : decode cX5_image 0 = .ok (.aload_n 0, 1) := by decide +kernel
theorem dX5_image_1 : decode cX5_image 1 = .ok (.iconst 1, 1) := by decide +kernel
theorem dX5_image_2 : decode cX5_image 2 = .ok (.putfield 303, 3) := by decide +kernel
theorem dX5_image_5 : decode cX5_image 5 = .ok (.aload_n 0, 1) := by decide +kernel
theorem dX5_image_6 : decode cX5_image 6 = .ok (.aload_n 0, 1) := by decide +kernel
theorem dX5_image_7 : decode cX5_image 7 = .ok (.getfield 79, 3) := by decide +kernel
theorem dX5_image_10 : decode cX5_image 10 = .ok (.putfield 306, 3) := by decide +kernel
theorem dX5_image_13 : decode cX5_image 13 = .ok (.aload_n 0, 1) := by decide +kernel
theorem dX5_image_14 : decode cX5_image 14 = .ok (.aload_n 0, 1) := by decide +kernel
theorem dX5_image_15 : decode cX5_image 15 = .ok (.getfield 93, 3) := by decide +kernel
theorem dX5_image_18 : decode cX5_image 18 = .ok (.putfield 309, 3) := by decide +kernel
theorem dX5_image_21 : decode cX5_image 21 = .ok (.aload_n 0, 1) := by decide +kernel
theorem dX5_image_22 : decode cX5_image 22 = .ok (.aload_n 0, 1) := by decide +kernel
theorem dX5_image_23 : decode cX5_image 23 = .ok (.getfield 214, 3) := by decide +kernel
theorem dX5_image_26 : decode cX5_image 26 = .ok (.putfield 312, 3) := by decide +kernel
theorem dX5_image_29 : decode cX5_image 29 = .ok (.iconst 0, 1) := by decide +kernel
theorem dX5_image_30 : decode cX5_image 30 = .ok (.istore_n 1, 1) := by decide +kernel
theorem dX5_image_31 : decode cX5_image 31 = .ok (.iload_n 1, 1) := by decide +kernel
theorem dX5_image_32 : decode cX5_image 32 = .ok (.bipush 8, 2) := by decide +kernel
theorem dX5_image_34 : decode cX5_image 34 = .ok (.if_icmp .ge 21, 3) := by decide +kernel
theorem dX5_image_37 : decode cX5_image 37 = .ok (.aload_n 0, 1) := by decide +kernel
theorem dX5_image_38 : decode cX5_image 38 = .ok (.getfield 53, 3) := by decide +kernel
theorem dX5_image_41 : decode cX5_image 41 = .ok (.iload_n 1, 1) := by decide +kernel
theorem dX5_image_42 : decode cX5_image 42 = .ok (.aload_n 0, 1) := by decide +kernel
theorem dX5_image_43 : decode cX5_image 43 = .ok (.getfield 7, 3) := by decide +kernel
theorem dX5_image_46 : decode cX5_image 46 = .ok (.iload_n 1, 1) := by decide +kernel
theorem dX5_image_47 : decode cX5_image 47 = .ok (.baload, 1) := by decide +kernel
theorem dX5_image_48 : decode cX5_image 48 = .ok (.bastore, 1) := by decide +kernel
theorem dX5_image_49 : decode cX5_image 49 = .ok (.iinc 1 1, 3) := by decide +kernel
theorem dX5_image_52 : decode cX5_image 52 = .ok (.goto (-21), 3) := by decide +kernel
theorem dX5_image_55 : decode cX5_image 55 = .ok (.iconst 0, 1) := by decide +kernel
theorem dX5_image_56 : decode cX5_image 56 = .ok (.istore_n 1, 1) := by decide +kernel
theorem dX5_image_57 : decode cX5_image 57 = .ok (.iload_n 1, 1) := by decide +kernel
theorem dX5_image_58 : decode cX5_image 58 = .ok (.iconst 5, 1) := by decide +kernel
theorem dX5_image_59 : decode cX5_image 59 = .ok (.if_icmp .ge 35, 3) := by decide +kernel
theorem dX5_image_62 : decode cX5_image 62 = .ok (.aload_n 0, 1) := by decide +kernel
theorem dX5_image_63 : decode cX5_image 63 = .ok (.getfield 56, 3) := by decide +kernel
theorem dX5_image_66 : decode cX5_image 66 = .ok (.iload_n 1, 1) := by decide +kernel
theorem dX5_image_67 : decode cX5_image 67 = .ok (.aload_n 0, 1) := by decide +kernel
theorem dX5_image_68 : decode cX5_image 68 = .ok (.getfield 17, 3) := by decide +kernel
theorem dX5_image_71 : decode cX5_image 71 = .ok (.iload_n 1, 1) := by decide +kernel
theorem dX5_image_72 : decode cX5_image 72 = .ok (.iaload, 1) := by decide +kernel
theorem dX5_image_73 : decode cX5_image 73 = .ok (.iastore, 1) := by decide +kernel
theorem dX5_image_74 : decode cX5_image 74 = .ok (.aload_n 0, 1) := by decide +kernel
theorem dX5_image_75 : decode cX5_image 75 = .ok (.getfield 56, 3) := by decide +kernel
theorem dX5_image_78 : decode cX5_image 78 = .ok (.iconst 5, 1) := by decide +kernel
theorem dX5_image_79 : decode cX5_image 79 = .ok (.iload_n 1, 1) := by decide +kernel
theorem dX5_image_80 : decode cX5_image 80 = .ok (.iadd, 1) := by decide +kernel
theorem dX5_image_81 : decode cX5_image 81 = .ok (.aload_n 0, 1) := by decide +kernel
theorem dX5_image_82 : decode cX5_image 82 = .ok (.getfield 20, 3) := by decide +kernel
theorem dX5_image_85 : decode cX5_image 85 = .ok (.iload_n 1, 1) := by decide +kernel
theorem dX5_image_86 : decode cX5_image 86 = .ok (.iaload, 1) := by decide +kernel
theorem dX5_image_87 : decode cX5_image 87 = .ok (.iastore, 1) := by decide +kernel
theorem dX5_image_88 : decode cX5_image 88 = .ok (.iinc 1 1, 3) := by decide +kernel
theorem dX5_image_91 : decode cX5_image 91 = .ok (.goto (-34), 3) := by decide +kernel
theorem dX5_image_94 : decode cX5_image 94 = .ok (.aload_n 0, 1) := by decide +kernel
theorem dX5_image_95 : decode cX5_image 95 = .ok (.getfield 79, 3) := by decide +kernel
theorem dX5_image_98 : decode cX5_image 98 = .ok (.ireturn, 1) := by decide +kernel
theorem dX5_back_0 : decode cX5_back 0 = .ok (.aload_n 0, 1) := by decide +kernel
theorem dX5_back_1 : decode cX5_back 1 = .ok (.getfield 303, 3) := by decide +kernel
theorem dX5_back_4 : decode cX5_back 4 = .ok (.ifCond .ne 6, 3) := by decide +kernel
theorem dX5_back_7 : decode cX5_back 7 = .ok (.bipush (-3), 2) := by decide +kernel
theorem dX5_back_9 : decode cX5_back 9 = .ok (.ireturn, 1) := by decide +kernel
theorem dX5_back_10 : decode cX5_back 10 = .ok (.aload_n 0, 1) := by decide +kernel
theorem dX5_back_11 : decode cX5_back 11 = .ok (.aload_n 0, 1) := by decide +kernel
theorem dX5_back_12 : decode cX5_back 12 = .ok (.getfield 306, 3) := by decide +kernel
theorem dX5_back_15 : decode cX5_back 15 = .ok (.putfield 79, 3) := by decide +kernel
theorem dX5_back_18 : decode cX5_back 18 = .ok (.aload_n 0, 1) := by decide +kernel
theorem dX5_back_19 : decode cX5_back 19 = .ok (.aload_n 0, 1) := by decide +kernel
theorem dX5_back_20 : decode cX5_back 20 = .ok (.getfield 309, 3) := by decide +kernel
theorem dX5_back_23 : decode cX5_back 23 = .ok (.putfield 93, 3) := by decide +kernel
theorem dX5_back_26 : decode cX5_back 26 = .ok (.aload_n 0, 1) := by decide +kernel
theorem dX5_back_27 : decode cX5_back 27 = .ok (.aload_n 0, 1) := by decide +kernel
theorem dX5_back_28 : decode cX5_back 28 = .ok (.getfield 312, 3) := by decide +kernel
theorem dX5_back_31 : decode cX5_back 31 = .ok (.putfield 214, 3) := by decide +kernel
theorem dX5_back_34 : decode cX5_back 34 = .ok (.iconst 0, 1) := by decide +kernel
theorem dX5_back_35 : decode cX5_back 35 = .ok (.istore_n 1, 1) := by decide +kernel
theorem dX5_back_36 : decode cX5_back 36 = .ok (.iload_n 1, 1) := by decide +kernel
theorem dX5_back_37 : decode cX5_back 37 = .ok (.bipush 8, 2) := by decide +kernel
theorem dX5_back_39 : decode cX5_back 39 = .ok (.if_icmp .ge 21, 3) := by decide +kernel
theorem dX5_back_42 : decode cX5_back 42 = .ok (.aload_n 0, 1) := by decide +kernel
theorem dX5_back_43 : decode cX5_back 43 = .ok (.getfield 7, 3) := by decide +kernel
theorem dX5_back_46 : decode cX5_back 46 = .ok (.iload_n 1, 1) := by decide +kernel
theorem dX5_back_47 : decode cX5_back 47 = .ok (.aload_n 0, 1) := by decide +kernel
theorem dX5_back_48 : decode cX5_back 48 = .ok (.getfield 53, 3) := by decide +kernel
theorem dX5_back_51 : decode cX5_back 51 = .ok (.iload_n 1, 1) := by decide +kernel
theorem dX5_back_52 : decode cX5_back 52 = .ok (.baload, 1) := by decide +kernel
theorem dX5_back_53 : decode cX5_back 53 = .ok (.bastore, 1) := by decide +kernel
theorem dX5_back_54 : decode cX5_back 54 = .ok (.iinc 1 1, 3) := by decide +kernel
theorem dX5_back_57 : decode cX5_back 57 = .ok (.goto (-21), 3) := by decide +kernel
theorem dX5_back_60 : decode cX5_back 60 = .ok (.iconst 0, 1) := by decide +kernel
theorem dX5_back_61 : decode cX5_back 61 = .ok (.istore_n 1, 1) := by decide +kernel
theorem dX5_back_62 : decode cX5_back 62 = .ok (.iload_n 1, 1) := by decide +kernel
theorem dX5_back_63 : decode cX5_back 63 = .ok (.iconst 5, 1) := by decide +kernel
theorem dX5_back_64 : decode cX5_back 64 = .ok (.if_icmp .ge 35, 3) := by decide +kernel
theorem dX5_back_67 : decode cX5_back 67 = .ok (.aload_n 0, 1) := by decide +kernel
theorem dX5_back_68 : decode cX5_back 68 = .ok (.getfield 17, 3) := by decide +kernel
theorem dX5_back_71 : decode cX5_back 71 = .ok (.iload_n 1, 1) := by decide +kernel
theorem dX5_back_72 : decode cX5_back 72 = .ok (.aload_n 0, 1) := by decide +kernel
theorem dX5_back_73 : decode cX5_back 73 = .ok (.getfield 56, 3) := by decide +kernel
theorem dX5_back_76 : decode cX5_back 76 = .ok (.iload_n 1, 1) := by decide +kernel
theorem dX5_back_77 : decode cX5_back 77 = .ok (.iaload, 1) := by decide +kernel
theorem dX5_back_78 : decode cX5_back 78 = .ok (.iastore, 1) := by decide +kernel
theorem dX5_back_79 : decode cX5_back 79 = .ok (.aload_n 0, 1) := by decide +kernel
theorem dX5_back_80 : decode cX5_back 80 = .ok (.getfield 20, 3) := by decide +kernel
theorem dX5_back_83 : decode cX5_back 83 = .ok (.iload_n 1, 1) := by decide +kernel
theorem dX5_back_84 : decode cX5_back 84 = .ok (.aload_n 0, 1) := by decide +kernel
theorem dX5_back_85 : decode cX5_back 85 = .ok (.getfield 56, 3) := by decide +kernel
theorem dX5_back_88 : decode cX5_back 88 = .ok (.iconst 5, 1) := by decide +kernel
theorem dX5_back_89 : decode cX5_back 89 = .ok (.iload_n 1, 1) := by decide +kernel
theorem dX5_back_90 : decode cX5_back 90 = .ok (.iadd, 1) := by decide +kernel
theorem dX5_back_91 : decode cX5_back 91 = .ok (.iaload, 1) := by decide +kernel
theorem dX5_back_92 : decode cX5_back 92 = .ok (.iastore, 1) := by decide +kernel
theorem dX5_back_93 : decode cX5_back 93 = .ok (.iinc 1 1, 3) := by decide +kernel
theorem dX5_back_96 : decode cX5_back 96 = .ok (.goto (-34), 3) := by decide +kernel
theorem dX5_back_99 : decode cX5_back 99 = .ok (.aload_n 0, 1) := by decide +kernel
theorem dX5_back_100 : decode cX5_back 100 = .ok (.getfield 79, 3) := by decide +kernel
theorem dX5_back_103 : decode cX5_back 103 = .ok (.ireturn, 1) := by decide +kernel
theorem dX5_count_0 : decode cX5_count 0 = .ok (.iconst 0, 1) := by decide +kernel
theorem dX5_count_1 : decode cX5_count 1 = .ok (.istore_n 2, 1) := by decide +kernel
theorem dX5_count_2 : decode cX5_count 2 = .ok (.iload_n 1, 1) := by decide +kernel
theorem dX5_count_3 : decode cX5_count 3 = .ok (.tableswitch 90 0 5 #[37, 42, 70, 75, 80, 85], 37) := by decide +kernel
theorem dX5_count_40 : decode cX5_count 40 = .ok (.aload_n 0, 1) := by decide +kernel
theorem dX5_count_41 : decode cX5_count 41 = .ok (.getfield 79, 3) := by decide +kernel
theorem dX5_count_44 : decode cX5_count 44 = .ok (.ireturn, 1) := by decide +kernel
theorem dX5_count_45 : decode cX5_count 45 = .ok (.iconst 0, 1) := by decide +kernel
theorem dX5_count_46 : decode cX5_count 46 = .ok (.istore_n 3, 1) := by decide +kernel
theorem dX5_count_47 : decode cX5_count 47 = .ok (.iload_n 3, 1) := by decide +kernel
theorem dX5_count_48 : decode cX5_count 48 = .ok (.bipush 8, 2) := by decide +kernel
theorem dX5_count_50 : decode cX5_count 50 = .ok (.if_icmp .ge 21, 3) := by decide +kernel
theorem dX5_count_53 : decode cX5_count 53 = .ok (.aload_n 0, 1) := by decide +kernel
theorem dX5_count_54 : decode cX5_count 54 = .ok (.getfield 7, 3) := by decide +kernel
theorem dX5_count_57 : decode cX5_count 57 = .ok (.iload_n 3, 1) := by decide +kernel
theorem dX5_count_58 : decode cX5_count 58 = .ok (.baload, 1) := by decide +kernel
theorem dX5_count_59 : decode cX5_count 59 = .ok (.ifCond .eq 6, 3) := by decide +kernel
theorem dX5_count_62 : decode cX5_count 62 = .ok (.iinc 2 1, 3) := by decide +kernel
theorem dX5_count_65 : decode cX5_count 65 = .ok (.iinc 3 1, 3) := by decide +kernel
theorem dX5_count_68 : decode cX5_count 68 = .ok (.goto (-21), 3) := by decide +kernel
theorem dX5_count_71 : decode cX5_count 71 = .ok (.iload_n 2, 1) := by decide +kernel
theorem dX5_count_72 : decode cX5_count 72 = .ok (.ireturn, 1) := by decide +kernel
theorem dX5_count_73 : decode cX5_count 73 = .ok (.aload_n 0, 1) := by decide +kernel
theorem dX5_count_74 : decode cX5_count 74 = .ok (.getfield 93, 3) := by decide +kernel
theorem dX5_count_77 : decode cX5_count 77 = .ok (.ireturn, 1) := by decide +kernel
theorem dX5_count_78 : decode cX5_count 78 = .ok (.aload_n 0, 1) := by decide +kernel
theorem dX5_count_79 : decode cX5_count 79 = .ok (.getfield 76, 3) := by decide +kernel
theorem dX5_count_82 : decode cX5_count 82 = .ok (.ireturn, 1) := by decide +kernel
theorem dX5_count_83 : decode cX5_count 83 = .ok (.aload_n 0, 1) := by decide +kernel
theorem dX5_count_84 : decode cX5_count 84 = .ok (.getfield 126, 3) := by decide +kernel
theorem dX5_count_87 : decode cX5_count 87 = .ok (.ireturn, 1) := by decide +kernel
theorem dX5_count_88 : decode cX5_count 88 = .ok (.aload_n 0, 1) := by decide +kernel
theorem dX5_count_89 : decode cX5_count 89 = .ok (.getfield 214, 3) := by decide +kernel
theorem dX5_count_92 : decode cX5_count 92 = .ok (.ireturn, 1) := by decide +kernel
theorem dX5_count_93 : decode cX5_count 93 = .ok (.bipush (-2), 2) := by decide +kernel
theorem dX5_count_95 : decode cX5_count 95 = .ok (.ireturn, 1) := by decide +kernel
theorem dX5_sheet_0 : decode cX5_sheet 0 = .ok (.iload_n 1, 1) := by decide +kernel
theorem dX5_sheet_1 : decode cX5_sheet 1 = .ok (.invokestatic 279, 3) := by decide +kernel
theorem dX5_sheet_4 : decode cX5_sheet 4 = .ok (.ifCond .eq 12, 3) := by decide +kernel
theorem dX5_sheet_7 : decode cX5_sheet 7 = .ok (.iload_n 2, 1) := by decide +kernel
theorem dX5_sheet_8 : decode cX5_sheet 8 = .ok (.iconst (-1), 1) := by decide +kernel
theorem dX5_sheet_9 : decode cX5_sheet 9 = .ok (.iconst 2, 1) := by decide +kernel
theorem dX5_sheet_10 : decode cX5_sheet 10 = .ok (.invokestatic 82, 3) := by decide +kernel
theorem dX5_sheet_13 : decode cX5_sheet 13 = .ok (.ifCond .ne 6, 3) := by decide +kernel
theorem dX5_sheet_16 : decode cX5_sheet 16 = .ok (.bipush (-2), 2) := by decide +kernel
theorem dX5_sheet_18 : decode cX5_sheet 18 = .ok (.ireturn, 1) := by decide +kernel
theorem dX5_sheet_19 : decode cX5_sheet 19 = .ok (.iload_n 2, 1) := by decide +kernel
theorem dX5_sheet_20 : decode cX5_sheet 20 = .ok (.ifCond .lt 10, 3) := by decide +kernel
theorem dX5_sheet_23 : decode cX5_sheet 23 = .ok (.iload_n 3, 1) := by decide +kernel
theorem dX5_sheet_24 : decode cX5_sheet 24 = .ok (.ifCond .ge 6, 3) := by decide +kernel
theorem dX5_sheet_27 : decode cX5_sheet 27 = .ok (.bipush (-14), 2) := by decide +kernel
theorem dX5_sheet_29 : decode cX5_sheet 29 = .ok (.ireturn, 1) := by decide +kernel
theorem dX5_sheet_30 : decode cX5_sheet 30 = .ok (.iload_n 2, 1) := by decide +kernel
theorem dX5_sheet_31 : decode cX5_sheet 31 = .ok (.ifCond .lt 12, 3) := by decide +kernel
theorem dX5_sheet_34 : decode cX5_sheet 34 = .ok (.iload_n 3, 1) := by decide +kernel
theorem dX5_sheet_35 : decode cX5_sheet 35 = .ok (.bipush 40, 2) := by decide +kernel
theorem dX5_sheet_37 : decode cX5_sheet 37 = .ok (.if_icmp .le 6, 3) := by decide +kernel
theorem dX5_sheet_40 : decode cX5_sheet 40 = .ok (.bipush (-2), 2) := by decide +kernel
theorem dX5_sheet_42 : decode cX5_sheet 42 = .ok (.ireturn, 1) := by decide +kernel
theorem dX5_sheet_43 : decode cX5_sheet 43 = .ok (.aload_n 0, 1) := by decide +kernel
theorem dX5_sheet_44 : decode cX5_sheet 44 = .ok (.getfield 59, 3) := by decide +kernel
theorem dX5_sheet_47 : decode cX5_sheet 47 = .ok (.iload_n 1, 1) := by decide +kernel
theorem dX5_sheet_48 : decode cX5_sheet 48 = .ok (.iload_n 2, 1) := by decide +kernel
theorem dX5_sheet_49 : decode cX5_sheet 49 = .ok (.iastore, 1) := by decide +kernel
theorem dX5_sheet_50 : decode cX5_sheet 50 = .ok (.aload_n 0, 1) := by decide +kernel
theorem dX5_sheet_51 : decode cX5_sheet 51 = .ok (.getfield 62, 3) := by decide +kernel
theorem dX5_sheet_54 : decode cX5_sheet 54 = .ok (.iload_n 1, 1) := by decide +kernel
theorem dX5_sheet_55 : decode cX5_sheet 55 = .ok (.iload_n 2, 1) := by decide +kernel
theorem dX5_sheet_56 : decode cX5_sheet 56 = .ok (.ifCond .ge 7, 3) := by decide +kernel
theorem dX5_sheet_59 : decode cX5_sheet 59 = .ok (.iconst 0, 1) := by decide +kernel
theorem dX5_sheet_60 : decode cX5_sheet 60 = .ok (.goto 4, 3) := by decide +kernel
theorem dX5_sheet_63 : decode cX5_sheet 63 = .ok (.iload_n 3, 1) := by decide +kernel
theorem dX5_sheet_64 : decode cX5_sheet 64 = .ok (.iastore, 1) := by decide +kernel
theorem dX5_sheet_65 : decode cX5_sheet 65 = .ok (.iconst 0, 1) := by decide +kernel
theorem dX5_sheet_66 : decode cX5_sheet 66 = .ok (.istore 4, 2) := by decide +kernel
theorem dX5_sheet_68 : decode cX5_sheet 68 = .ok (.iload 4, 2) := by decide +kernel
theorem dX5_sheet_70 : decode cX5_sheet 70 = .ok (.bipush 40, 2) := by decide +kernel
theorem dX5_sheet_72 : decode cX5_sheet 72 = .ok (.if_icmp .ge 22, 3) := by decide +kernel
theorem dX5_sheet_75 : decode cX5_sheet 75 = .ok (.aload_n 0, 1) := by decide +kernel
theorem dX5_sheet_76 : decode cX5_sheet 76 = .ok (.getfield 65, 3) := by decide +kernel
theorem dX5_sheet_79 : decode cX5_sheet 79 = .ok (.bipush 40, 2) := by decide +kernel
theorem dX5_sheet_81 : decode cX5_sheet 81 = .ok (.iload_n 1, 1) := by decide +kernel
theorem dX5_sheet_82 : decode cX5_sheet 82 = .ok (.imul, 1) := by decide +kernel
theorem dX5_sheet_83 : decode cX5_sheet 83 = .ok (.iload 4, 2) := by decide +kernel
theorem dX5_sheet_85 : decode cX5_sheet 85 = .ok (.iadd, 1) := by decide +kernel
theorem dX5_sheet_86 : decode cX5_sheet 86 = .ok (.iconst 0, 1) := by decide +kernel
theorem dX5_sheet_87 : decode cX5_sheet 87 = .ok (.iastore, 1) := by decide +kernel
theorem dX5_sheet_88 : decode cX5_sheet 88 = .ok (.iinc 4 1, 3) := by decide +kernel
theorem dX5_sheet_91 : decode cX5_sheet 91 = .ok (.goto (-23), 3) := by decide +kernel
theorem dX5_sheet_94 : decode cX5_sheet 94 = .ok (.iconst 1, 1) := by decide +kernel
theorem dX5_sheet_95 : decode cX5_sheet 95 = .ok (.ireturn, 1) := by decide +kernel
theorem dX5_cell_0 : decode cX5_cell 0 = .ok (.iload_n 1, 1) := by decide +kernel
theorem dX5_cell_1 : decode cX5_cell 1 = .ok (.invokestatic 279, 3) := by decide +kernel
theorem dX5_cell_4 : decode cX5_cell 4 = .ok (.ifCond .ne 6, 3) := by decide +kernel
theorem dX5_cell_7 : decode cX5_cell 7 = .ok (.bipush (-2), 2) := by decide +kernel
theorem dX5_cell_9 : decode cX5_cell 9 = .ok (.ireturn, 1) := by decide +kernel
theorem dX5_cell_10 : decode cX5_cell 10 = .ok (.aload_n 0, 1) := by decide +kernel
theorem dX5_cell_11 : decode cX5_cell 11 = .ok (.getfield 59, 3) := by decide +kernel
theorem dX5_cell_14 : decode cX5_cell 14 = .ok (.iload_n 1, 1) := by decide +kernel
theorem dX5_cell_15 : decode cX5_cell 15 = .ok (.iaload, 1) := by decide +kernel
theorem dX5_cell_16 : decode cX5_cell 16 = .ok (.ifCond .ge 6, 3) := by decide +kernel
theorem dX5_cell_19 : decode cX5_cell 19 = .ok (.bipush (-11), 2) := by decide +kernel
theorem dX5_cell_21 : decode cX5_cell 21 = .ok (.ireturn, 1) := by decide +kernel
theorem dX5_cell_22 : decode cX5_cell 22 = .ok (.iload_n 2, 1) := by decide +kernel
theorem dX5_cell_23 : decode cX5_cell 23 = .ok (.iconst 0, 1) := by decide +kernel
theorem dX5_cell_24 : decode cX5_cell 24 = .ok (.aload_n 0, 1) := by decide +kernel
theorem dX5_cell_25 : decode cX5_cell 25 = .ok (.getfield 62, 3) := by decide +kernel
theorem dX5_cell_28 : decode cX5_cell 28 = .ok (.iload_n 1, 1) := by decide +kernel
theorem dX5_cell_29 : decode cX5_cell 29 = .ok (.iaload, 1) := by decide +kernel
theorem dX5_cell_30 : decode cX5_cell 30 = .ok (.iconst 1, 1) := by decide +kernel
theorem dX5_cell_31 : decode cX5_cell 31 = .ok (.isub, 1) := by decide +kernel
theorem dX5_cell_32 : decode cX5_cell 32 = .ok (.invokestatic 82, 3) := by decide +kernel
theorem dX5_cell_35 : decode cX5_cell 35 = .ok (.ifCond .ne 6, 3) := by decide +kernel
theorem dX5_cell_38 : decode cX5_cell 38 = .ok (.bipush (-12), 2) := by decide +kernel
theorem dX5_cell_40 : decode cX5_cell 40 = .ok (.ireturn, 1) := by decide +kernel
theorem dX5_cell_41 : decode cX5_cell 41 = .ok (.aload_n 0, 1) := by decide +kernel
theorem dX5_cell_42 : decode cX5_cell 42 = .ok (.getfield 65, 3) := by decide +kernel
theorem dX5_cell_45 : decode cX5_cell 45 = .ok (.bipush 40, 2) := by decide +kernel
theorem dX5_cell_47 : decode cX5_cell 47 = .ok (.iload_n 1, 1) := by decide +kernel
theorem dX5_cell_48 : decode cX5_cell 48 = .ok (.imul, 1) := by decide +kernel
theorem dX5_cell_49 : decode cX5_cell 49 = .ok (.iload_n 2, 1) := by decide +kernel
theorem dX5_cell_50 : decode cX5_cell 50 = .ok (.iadd, 1) := by decide +kernel
theorem dX5_cell_51 : decode cX5_cell 51 = .ok (.aload_n 0, 1) := by decide +kernel
theorem dX5_cell_52 : decode cX5_cell 52 = .ok (.getfield 59, 3) := by decide +kernel
theorem dX5_cell_55 : decode cX5_cell 55 = .ok (.iload_n 1, 1) := by decide +kernel
theorem dX5_cell_56 : decode cX5_cell 56 = .ok (.iaload, 1) := by decide +kernel
theorem dX5_cell_57 : decode cX5_cell 57 = .ok (.ifCond .ne 8, 3) := by decide +kernel
theorem dX5_cell_60 : decode cX5_cell 60 = .ok (.iload_n 3, 1) := by decide +kernel
theorem dX5_cell_61 : decode cX5_cell 61 = .ok (.i2b, 1) := by decide +kernel
theorem dX5_cell_62 : decode cX5_cell 62 = .ok (.goto 19, 3) := by decide +kernel
theorem dX5_cell_65 : decode cX5_cell 65 = .ok (.aload_n 0, 1) := by decide +kernel
theorem dX5_cell_66 : decode cX5_cell 66 = .ok (.getfield 59, 3) := by decide +kernel
theorem dX5_cell_69 : decode cX5_cell 69 = .ok (.iload_n 1, 1) := by decide +kernel
theorem dX5_cell_70 : decode cX5_cell 70 = .ok (.iaload, 1) := by decide +kernel
theorem dX5_cell_71 : decode cX5_cell 71 = .ok (.iconst 1, 1) := by decide +kernel
theorem dX5_cell_72 : decode cX5_cell 72 = .ok (.if_icmp .ne 8, 3) := by decide +kernel
theorem dX5_cell_75 : decode cX5_cell 75 = .ok (.iload_n 3, 1) := by decide +kernel
theorem dX5_cell_76 : decode cX5_cell 76 = .ok (.i2s, 1) := by decide +kernel
theorem dX5_cell_77 : decode cX5_cell 77 = .ok (.goto 4, 3) := by decide +kernel
theorem dX5_cell_80 : decode cX5_cell 80 = .ok (.iload_n 3, 1) := by decide +kernel
theorem dX5_cell_81 : decode cX5_cell 81 = .ok (.iastore, 1) := by decide +kernel
theorem dX5_cell_82 : decode cX5_cell 82 = .ok (.iconst 1, 1) := by decide +kernel
theorem dX5_cell_83 : decode cX5_cell 83 = .ok (.ireturn, 1) := by decide +kernel
theorem dX5_copy_0 : decode cX5_copy 0 = .ok (.iload_n 1, 1) := by decide +kernel
theorem dX5_copy_1 : decode cX5_copy 1 = .ok (.invokestatic 279, 3) := by decide +kernel
theorem dX5_copy_4 : decode cX5_copy 4 = .ok (.ifCond .eq 10, 3) := by decide +kernel
theorem dX5_copy_7 : decode cX5_copy 7 = .ok (.iload_n 3, 1) := by decide +kernel
theorem dX5_copy_8 : decode cX5_copy 8 = .ok (.invokestatic 279, 3) := by decide +kernel
theorem dX5_copy_11 : decode cX5_copy 11 = .ok (.ifCond .ne 6, 3) := by decide +kernel
theorem dX5_copy_14 : decode cX5_copy 14 = .ok (.bipush (-2), 2) := by decide +kernel
theorem dX5_copy_16 : decode cX5_copy 16 = .ok (.ireturn, 1) := by decide +kernel
theorem dX5_copy_17 : decode cX5_copy 17 = .ok (.aload_n 0, 1) := by decide +kernel
theorem dX5_copy_18 : decode cX5_copy 18 = .ok (.getfield 59, 3) := by decide +kernel
theorem dX5_copy_21 : decode cX5_copy 21 = .ok (.iload_n 1, 1) := by decide +kernel
theorem dX5_copy_22 : decode cX5_copy 22 = .ok (.iaload, 1) := by decide +kernel
theorem dX5_copy_23 : decode cX5_copy 23 = .ok (.ifCond .lt 12, 3) := by decide +kernel
theorem dX5_copy_26 : decode cX5_copy 26 = .ok (.aload_n 0, 1) := by decide +kernel
theorem dX5_copy_27 : decode cX5_copy 27 = .ok (.getfield 59, 3) := by decide +kernel
theorem dX5_copy_30 : decode cX5_copy 30 = .ok (.iload_n 3, 1) := by decide +kernel
theorem dX5_copy_31 : decode cX5_copy 31 = .ok (.iaload, 1) := by decide +kernel
theorem dX5_copy_32 : decode cX5_copy 32 = .ok (.ifCond .ge 6, 3) := by decide +kernel
theorem dX5_copy_35 : decode cX5_copy 35 = .ok (.bipush (-11), 2) := by decide +kernel
theorem dX5_copy_37 : decode cX5_copy 37 = .ok (.ireturn, 1) := by decide +kernel
theorem dX5_copy_38 : decode cX5_copy 38 = .ok (.aload_n 0, 1) := by decide +kernel
theorem dX5_copy_39 : decode cX5_copy 39 = .ok (.getfield 59, 3) := by decide +kernel
theorem dX5_copy_42 : decode cX5_copy 42 = .ok (.iload_n 1, 1) := by decide +kernel
theorem dX5_copy_43 : decode cX5_copy 43 = .ok (.iaload, 1) := by decide +kernel
theorem dX5_copy_44 : decode cX5_copy 44 = .ok (.aload_n 0, 1) := by decide +kernel
theorem dX5_copy_45 : decode cX5_copy 45 = .ok (.getfield 59, 3) := by decide +kernel
theorem dX5_copy_48 : decode cX5_copy 48 = .ok (.iload_n 3, 1) := by decide +kernel
theorem dX5_copy_49 : decode cX5_copy 49 = .ok (.iaload, 1) := by decide +kernel
theorem dX5_copy_50 : decode cX5_copy 50 = .ok (.if_icmp .eq 6, 3) := by decide +kernel
theorem dX5_copy_53 : decode cX5_copy 53 = .ok (.bipush (-13), 2) := by decide +kernel
theorem dX5_copy_55 : decode cX5_copy 55 = .ok (.ireturn, 1) := by decide +kernel
theorem dX5_copy_56 : decode cX5_copy 56 = .ok (.iload 5, 2) := by decide +kernel
theorem dX5_copy_58 : decode cX5_copy 58 = .ok (.ifCond .lt 47, 3) := by decide +kernel
theorem dX5_copy_61 : decode cX5_copy 61 = .ok (.iload_n 2, 1) := by decide +kernel
theorem dX5_copy_62 : decode cX5_copy 62 = .ok (.ifCond .lt 43, 3) := by decide +kernel
theorem dX5_copy_65 : decode cX5_copy 65 = .ok (.iload 4, 2) := by decide +kernel
theorem dX5_copy_67 : decode cX5_copy 67 = .ok (.ifCond .lt 38, 3) := by decide +kernel
theorem dX5_copy_70 : decode cX5_copy 70 = .ok (.iload_n 2, 1) := by decide +kernel
theorem dX5_copy_71 : decode cX5_copy 71 = .ok (.i2l, 1) := by decide +kernel
theorem dX5_copy_72 : decode cX5_copy 72 = .ok (.iload 5, 2) := by decide +kernel
theorem dX5_copy_74 : decode cX5_copy 74 = .ok (.i2l, 1) := by decide +kernel
theorem dX5_copy_75 : decode cX5_copy 75 = .ok (.ladd, 1) := by decide +kernel
theorem dX5_copy_76 : decode cX5_copy 76 = .ok (.aload_n 0, 1) := by decide +kernel
theorem dX5_copy_77 : decode cX5_copy 77 = .ok (.getfield 62, 3) := by decide +kernel
theorem dX5_copy_80 : decode cX5_copy 80 = .ok (.iload_n 1, 1) := by decide +kernel
theorem dX5_copy_81 : decode cX5_copy 81 = .ok (.iaload, 1) := by decide +kernel
theorem dX5_copy_82 : decode cX5_copy 82 = .ok (.i2l, 1) := by decide +kernel
theorem dX5_copy_83 : decode cX5_copy 83 = .ok (.lcmp, 1) := by decide +kernel
theorem dX5_copy_84 : decode cX5_copy 84 = .ok (.ifCond .gt 21, 3) := by decide +kernel
theorem dX5_copy_87 : decode cX5_copy 87 = .ok (.iload 4, 2) := by decide +kernel
theorem dX5_copy_89 : decode cX5_copy 89 = .ok (.i2l, 1) := by decide +kernel
theorem dX5_copy_90 : decode cX5_copy 90 = .ok (.iload 5, 2) := by decide +kernel
theorem dX5_copy_92 : decode cX5_copy 92 = .ok (.i2l, 1) := by decide +kernel
theorem dX5_copy_93 : decode cX5_copy 93 = .ok (.ladd, 1) := by decide +kernel
theorem dX5_copy_94 : decode cX5_copy 94 = .ok (.aload_n 0, 1) := by decide +kernel
theorem dX5_copy_95 : decode cX5_copy 95 = .ok (.getfield 62, 3) := by decide +kernel
theorem dX5_copy_98 : decode cX5_copy 98 = .ok (.iload_n 3, 1) := by decide +kernel
theorem dX5_copy_99 : decode cX5_copy 99 = .ok (.iaload, 1) := by decide +kernel
theorem dX5_copy_100 : decode cX5_copy 100 = .ok (.i2l, 1) := by decide +kernel
theorem dX5_copy_101 : decode cX5_copy 101 = .ok (.lcmp, 1) := by decide +kernel
theorem dX5_copy_102 : decode cX5_copy 102 = .ok (.ifCond .le 6, 3) := by decide +kernel
theorem dX5_copy_105 : decode cX5_copy 105 = .ok (.bipush (-12), 2) := by decide +kernel
theorem dX5_copy_107 : decode cX5_copy 107 = .ok (.ireturn, 1) := by decide +kernel
theorem dX5_copy_108 : decode cX5_copy 108 = .ok (.iload_n 1, 1) := by decide +kernel
theorem dX5_copy_109 : decode cX5_copy 109 = .ok (.iload_n 3, 1) := by decide +kernel
theorem dX5_copy_110 : decode cX5_copy 110 = .ok (.if_icmp .ne 58, 3) := by decide +kernel
theorem dX5_copy_113 : decode cX5_copy 113 = .ok (.iload_n 2, 1) := by decide +kernel
theorem dX5_copy_114 : decode cX5_copy 114 = .ok (.iload 4, 2) := by decide +kernel
theorem dX5_copy_116 : decode cX5_copy 116 = .ok (.if_icmp .ge 52, 3) := by decide +kernel
theorem dX5_copy_119 : decode cX5_copy 119 = .ok (.iload 5, 2) := by decide +kernel
theorem dX5_copy_121 : decode cX5_copy 121 = .ok (.iconst 1, 1) := by decide +kernel
theorem dX5_copy_122 : decode cX5_copy 122 = .ok (.isub, 1) := by decide +kernel
theorem dX5_copy_123 : decode cX5_copy 123 = .ok (.istore 6, 2) := by decide +kernel
theorem dX5_copy_125 : decode cX5_copy 125 = .ok (.iload 6, 2) := by decide +kernel
theorem dX5_copy_127 : decode cX5_copy 127 = .ok (.ifCond .lt 38, 3) := by decide +kernel
theorem dX5_copy_130 : decode cX5_copy 130 = .ok (.aload_n 0, 1) := by decide +kernel
theorem dX5_copy_131 : decode cX5_copy 131 = .ok (.getfield 65, 3) := by decide +kernel
theorem dX5_copy_134 : decode cX5_copy 134 = .ok (.bipush 40, 2) := by decide +kernel
theorem dX5_copy_136 : decode cX5_copy 136 = .ok (.iload_n 3, 1) := by decide +kernel
theorem dX5_copy_137 : decode cX5_copy 137 = .ok (.imul, 1) := by decide +kernel
theorem dX5_copy_138 : decode cX5_copy 138 = .ok (.iload 4, 2) := by decide +kernel
theorem dX5_copy_140 : decode cX5_copy 140 = .ok (.iadd, 1) := by decide +kernel
theorem dX5_copy_141 : decode cX5_copy 141 = .ok (.iload 6, 2) := by decide +kernel
theorem dX5_copy_143 : decode cX5_copy 143 = .ok (.iadd, 1) := by decide +kernel
theorem dX5_copy_144 : decode cX5_copy 144 = .ok (.aload_n 0, 1) := by decide +kernel
theorem dX5_copy_145 : decode cX5_copy 145 = .ok (.getfield 65, 3) := by decide +kernel
theorem dX5_copy_148 : decode cX5_copy 148 = .ok (.bipush 40, 2) := by decide +kernel
theorem dX5_copy_150 : decode cX5_copy 150 = .ok (.iload_n 1, 1) := by decide +kernel
theorem dX5_copy_151 : decode cX5_copy 151 = .ok (.imul, 1) := by decide +kernel
theorem dX5_copy_152 : decode cX5_copy 152 = .ok (.iload_n 2, 1) := by decide +kernel
theorem dX5_copy_153 : decode cX5_copy 153 = .ok (.iadd, 1) := by decide +kernel
theorem dX5_copy_154 : decode cX5_copy 154 = .ok (.iload 6, 2) := by decide +kernel
theorem dX5_copy_156 : decode cX5_copy 156 = .ok (.iadd, 1) := by decide +kernel
theorem dX5_copy_157 : decode cX5_copy 157 = .ok (.iaload, 1) := by decide +kernel
theorem dX5_copy_158 : decode cX5_copy 158 = .ok (.iastore, 1) := by decide +kernel
theorem dX5_copy_159 : decode cX5_copy 159 = .ok (.iinc 6 (-1), 3) := by decide +kernel
theorem dX5_copy_162 : decode cX5_copy 162 = .ok (.goto (-37), 3) := by decide +kernel
theorem dX5_copy_165 : decode cX5_copy 165 = .ok (.goto 48, 3) := by decide +kernel
theorem dX5_copy_168 : decode cX5_copy 168 = .ok (.iconst 0, 1) := by decide +kernel
theorem dX5_copy_169 : decode cX5_copy 169 = .ok (.istore 6, 2) := by decide +kernel
theorem dX5_copy_171 : decode cX5_copy 171 = .ok (.iload 6, 2) := by decide +kernel
theorem dX5_copy_173 : decode cX5_copy 173 = .ok (.iload 5, 2) := by decide +kernel
theorem dX5_copy_175 : decode cX5_copy 175 = .ok (.if_icmp .ge 38, 3) := by decide +kernel
theorem dX5_copy_178 : decode cX5_copy 178 = .ok (.aload_n 0, 1) := by decide +kernel
theorem dX5_copy_179 : decode cX5_copy 179 = .ok (.getfield 65, 3) := by decide +kernel
theorem dX5_copy_182 : decode cX5_copy 182 = .ok (.bipush 40, 2) := by decide +kernel
theorem dX5_copy_184 : decode cX5_copy 184 = .ok (.iload_n 3, 1) := by decide +kernel
theorem dX5_copy_185 : decode cX5_copy 185 = .ok (.imul, 1) := by decide +kernel
theorem dX5_copy_186 : decode cX5_copy 186 = .ok (.iload 4, 2) := by decide +kernel
theorem dX5_copy_188 : decode cX5_copy 188 = .ok (.iadd, 1) := by decide +kernel
theorem dX5_copy_189 : decode cX5_copy 189 = .ok (.iload 6, 2) := by decide +kernel
theorem dX5_copy_191 : decode cX5_copy 191 = .ok (.iadd, 1) := by decide +kernel
theorem dX5_copy_192 : decode cX5_copy 192 = .ok (.aload_n 0, 1) := by decide +kernel
theorem dX5_copy_193 : decode cX5_copy 193 = .ok (.getfield 65, 3) := by decide +kernel
theorem dX5_copy_196 : decode cX5_copy 196 = .ok (.bipush 40, 2) := by decide +kernel
theorem dX5_copy_198 : decode cX5_copy 198 = .ok (.iload_n 1, 1) := by decide +kernel
theorem dX5_copy_199 : decode cX5_copy 199 = .ok (.imul, 1) := by decide +kernel
theorem dX5_copy_200 : decode cX5_copy 200 = .ok (.iload_n 2, 1) := by decide +kernel
theorem dX5_copy_201 : decode cX5_copy 201 = .ok (.iadd, 1) := by decide +kernel
theorem dX5_copy_202 : decode cX5_copy 202 = .ok (.iload 6, 2) := by decide +kernel
theorem dX5_copy_204 : decode cX5_copy 204 = .ok (.iadd, 1) := by decide +kernel
theorem dX5_copy_205 : decode cX5_copy 205 = .ok (.iaload, 1) := by decide +kernel
theorem dX5_copy_206 : decode cX5_copy 206 = .ok (.iastore, 1) := by decide +kernel
theorem dX5_copy_207 : decode cX5_copy 207 = .ok (.iinc 6 1, 3) := by decide +kernel
theorem dX5_copy_210 : decode cX5_copy 210 = .ok (.goto (-39), 3) := by decide +kernel
theorem dX5_copy_213 : decode cX5_copy 213 = .ok (.iload 5, 2) := by decide +kernel
theorem dX5_copy_215 : decode cX5_copy 215 = .ok (.ireturn, 1) := by decide +kernel
theorem dX5_people_0 : decode cX5_people 0 = .ok (.iload_n 1, 1) := by decide +kernel
theorem dX5_people_1 : decode cX5_people 1 = .ok (.invokestatic 279, 3) := by decide +kernel
theorem dX5_people_4 : decode cX5_people 4 = .ok (.ifCond .eq 22, 3) := by decide +kernel
theorem dX5_people_7 : decode cX5_people 7 = .ok (.iload_n 2, 1) := by decide +kernel
theorem dX5_people_8 : decode cX5_people 8 = .ok (.iconst 0, 1) := by decide +kernel
theorem dX5_people_9 : decode cX5_people 9 = .ok (.iconst 2, 1) := by decide +kernel
theorem dX5_people_10 : decode cX5_people 10 = .ok (.invokestatic 82, 3) := by decide +kernel
theorem dX5_people_13 : decode cX5_people 13 = .ok (.ifCond .eq 13, 3) := by decide +kernel
theorem dX5_people_16 : decode cX5_people 16 = .ok (.iload 4, 2) := by decide +kernel
theorem dX5_people_18 : decode cX5_people 18 = .ok (.iconst 0, 1) := by decide +kernel
theorem dX5_people_19 : decode cX5_people 19 = .ok (.iconst 5, 1) := by decide +kernel
theorem dX5_people_20 : decode cX5_people 20 = .ok (.invokestatic 82, 3) := by decide +kernel
theorem dX5_people_23 : decode cX5_people 23 = .ok (.ifCond .ne 6, 3) := by decide +kernel
theorem dX5_people_26 : decode cX5_people 26 = .ok (.bipush (-2), 2) := by decide +kernel
theorem dX5_people_28 : decode cX5_people 28 = .ok (.ireturn, 1) := by decide +kernel
theorem dX5_people_29 : decode cX5_people 29 = .ok (.aload_n 0, 1) := by decide +kernel
theorem dX5_people_30 : decode cX5_people 30 = .ok (.getfield 59, 3) := by decide +kernel
theorem dX5_people_33 : decode cX5_people 33 = .ok (.iload_n 1, 1) := by decide +kernel
theorem dX5_people_34 : decode cX5_people 34 = .ok (.iaload, 1) := by decide +kernel
theorem dX5_people_35 : decode cX5_people 35 = .ok (.ifCond .ge 6, 3) := by decide +kernel
theorem dX5_people_38 : decode cX5_people 38 = .ok (.bipush (-11), 2) := by decide +kernel
theorem dX5_people_40 : decode cX5_people 40 = .ok (.ireturn, 1) := by decide +kernel
theorem dX5_people_41 : decode cX5_people 41 = .ok (.aload_n 0, 1) := by decide +kernel
theorem dX5_people_42 : decode cX5_people 42 = .ok (.getfield 59, 3) := by decide +kernel
theorem dX5_people_45 : decode cX5_people 45 = .ok (.iload_n 1, 1) := by decide +kernel
theorem dX5_people_46 : decode cX5_people 46 = .ok (.iaload, 1) := by decide +kernel
theorem dX5_people_47 : decode cX5_people 47 = .ok (.iload_n 2, 1) := by decide +kernel
theorem dX5_people_48 : decode cX5_people 48 = .ok (.if_icmp .eq 6, 3) := by decide +kernel
theorem dX5_people_51 : decode cX5_people 51 = .ok (.bipush (-13), 2) := by decide +kernel
theorem dX5_people_53 : decode cX5_people 53 = .ok (.ireturn, 1) := by decide +kernel
theorem dX5_people_54 : decode cX5_people 54 = .ok (.iconst 0, 1) := by decide +kernel
theorem dX5_people_55 : decode cX5_people 55 = .ok (.istore 5, 2) := by decide +kernel
theorem dX5_people_57 : decode cX5_people 57 = .ok (.iconst 0, 1) := by decide +kernel
theorem dX5_people_58 : decode cX5_people 58 = .ok (.istore 6, 2) := by decide +kernel
theorem dX5_people_60 : decode cX5_people 60 = .ok (.iload 6, 2) := by decide +kernel
theorem dX5_people_62 : decode cX5_people 62 = .ok (.iload 4, 2) := by decide +kernel
theorem dX5_people_64 : decode cX5_people 64 = .ok (.if_icmp .ge 82, 3) := by decide +kernel
theorem dX5_people_67 : decode cX5_people 67 = .ok (.iload_n 3, 1) := by decide +kernel
theorem dX5_people_68 : decode cX5_people 68 = .ok (.i2l, 1) := by decide +kernel
theorem dX5_people_69 : decode cX5_people 69 = .ok (.ldc2_w 315, 3) := by decide +kernel
theorem dX5_people_72 : decode cX5_people 72 = .ok (.iload 6, 2) := by decide +kernel
theorem dX5_people_74 : decode cX5_people 74 = .ok (.i2l, 1) := by decide +kernel
theorem dX5_people_75 : decode cX5_people 75 = .ok (.lmul, 1) := by decide +kernel
theorem dX5_people_76 : decode cX5_people 76 = .ok (.ladd, 1) := by decide +kernel
theorem dX5_people_77 : decode cX5_people 77 = .ok (.lstore 7, 2) := by decide +kernel
theorem dX5_people_79 : decode cX5_people 79 = .ok (.lload 7, 2) := by decide +kernel
theorem dX5_people_81 : decode cX5_people 81 = .ok (.lconst 0, 1) := by decide +kernel
theorem dX5_people_82 : decode cX5_people 82 = .ok (.lcmp, 1) := by decide +kernel
theorem dX5_people_83 : decode cX5_people 83 = .ok (.ifCond .lt 18, 3) := by decide +kernel
theorem dX5_people_86 : decode cX5_people 86 = .ok (.lload 7, 2) := by decide +kernel
theorem dX5_people_88 : decode cX5_people 88 = .ok (.lconst 1, 1) := by decide +kernel
theorem dX5_people_89 : decode cX5_people 89 = .ok (.ladd, 1) := by decide +kernel
theorem dX5_people_90 : decode cX5_people 90 = .ok (.aload_n 0, 1) := by decide +kernel
theorem dX5_people_91 : decode cX5_people 91 = .ok (.getfield 62, 3) := by decide +kernel
theorem dX5_people_94 : decode cX5_people 94 = .ok (.iload_n 1, 1) := by decide +kernel
theorem dX5_people_95 : decode cX5_people 95 = .ok (.iaload, 1) := by decide +kernel
theorem dX5_people_96 : decode cX5_people 96 = .ok (.i2l, 1) := by decide +kernel
theorem dX5_people_97 : decode cX5_people 97 = .ok (.lcmp, 1) := by decide +kernel
theorem dX5_people_98 : decode cX5_people 98 = .ok (.ifCond .lt 6, 3) := by decide +kernel
theorem dX5_people_101 : decode cX5_people 101 = .ok (.bipush (-12), 2) := by decide +kernel
theorem dX5_people_103 : decode cX5_people 103 = .ok (.ireturn, 1) := by decide +kernel
theorem dX5_people_104 : decode cX5_people 104 = .ok (.bipush 40, 2) := by decide +kernel
theorem dX5_people_106 : decode cX5_people 106 = .ok (.iload_n 1, 1) := by decide +kernel
theorem dX5_people_107 : decode cX5_people 107 = .ok (.imul, 1) := by decide +kernel
theorem dX5_people_108 : decode cX5_people 108 = .ok (.lload 7, 2) := by decide +kernel
theorem dX5_people_110 : decode cX5_people 110 = .ok (.l2i, 1) := by decide +kernel
theorem dX5_people_111 : decode cX5_people 111 = .ok (.iadd, 1) := by decide +kernel
theorem dX5_people_112 : decode cX5_people 112 = .ok (.istore 9, 2) := by decide +kernel
theorem dX5_people_114 : decode cX5_people 114 = .ok (.aload_n 0, 1) := by decide +kernel
theorem dX5_people_115 : decode cX5_people 115 = .ok (.aload_n 0, 1) := by decide +kernel
theorem dX5_people_116 : decode cX5_people 116 = .ok (.getfield 65, 3) := by decide +kernel
theorem dX5_people_119 : decode cX5_people 119 = .ok (.iload 9, 2) := by decide +kernel
theorem dX5_people_121 : decode cX5_people 121 = .ok (.iaload, 1) := by decide +kernel
theorem dX5_people_122 : decode cX5_people 122 = .ok (.aload_n 0, 1) := by decide +kernel
theorem dX5_people_123 : decode cX5_people 123 = .ok (.getfield 65, 3) := by decide +kernel
theorem dX5_people_126 : decode cX5_people 126 = .ok (.iload 9, 2) := by decide +kernel
theorem dX5_people_128 : decode cX5_people 128 = .ok (.iconst 1, 1) := by decide +kernel
theorem dX5_people_129 : decode cX5_people 129 = .ok (.iadd, 1) := by decide +kernel
theorem dX5_people_130 : decode cX5_people 130 = .ok (.iaload, 1) := by decide +kernel
theorem dX5_people_131 : decode cX5_people 131 = .ok (.invokevirtual 317, 3) := by decide +kernel
theorem dX5_people_134 : decode cX5_people 134 = .ok (.ifCond .lt 6, 3) := by decide +kernel
theorem dX5_people_137 : decode cX5_people 137 = .ok (.iinc 5 1, 3) := by decide +kernel
theorem dX5_people_140 : decode cX5_people 140 = .ok (.iinc 6 1, 3) := by decide +kernel
theorem dX5_people_143 : decode cX5_people 143 = .ok (.goto (-83), 3) := by decide +kernel
theorem dX5_people_146 : decode cX5_people 146 = .ok (.iload 5, 2) := by decide +kernel
theorem dX5_people_148 : decode cX5_people 148 = .ok (.ireturn, 1) := by decide +kernel
theorem dX5_taken_0 : decode cX5_taken 0 = .ok (.iload_n 2, 1) := by decide +kernel
theorem dX5_taken_1 : decode cX5_taken 1 = .ok (.iconst 0, 1) := by decide +kernel
theorem dX5_taken_2 : decode cX5_taken 2 = .ok (.iconst 5, 1) := by decide +kernel
theorem dX5_taken_3 : decode cX5_taken 3 = .ok (.invokestatic 82, 3) := by decide +kernel
theorem dX5_taken_6 : decode cX5_taken 6 = .ok (.ifCond .ne 6, 3) := by decide +kernel
theorem dX5_taken_9 : decode cX5_taken 9 = .ok (.bipush (-2), 2) := by decide +kernel
theorem dX5_taken_11 : decode cX5_taken 11 = .ok (.ireturn, 1) := by decide +kernel
theorem dX5_taken_12 : decode cX5_taken 12 = .ok (.aload_n 0, 1) := by decide +kernel
theorem dX5_taken_13 : decode cX5_taken 13 = .ok (.iload_n 1, 1) := by decide +kernel
theorem dX5_taken_14 : decode cX5_taken 14 = .ok (.invokevirtual 86, 3) := by decide +kernel
theorem dX5_taken_17 : decode cX5_taken 17 = .ok (.ifCond .ne 6, 3) := by decide +kernel
theorem dX5_taken_20 : decode cX5_taken 20 = .ok (.bipush (-11), 2) := by decide +kernel
theorem dX5_taken_22 : decode cX5_taken 22 = .ok (.ireturn, 1) := by decide +kernel
theorem dX5_taken_23 : decode cX5_taken 23 = .ok (.aload_n 0, 1) := by decide +kernel
theorem dX5_taken_24 : decode cX5_taken 24 = .ok (.getfield 13, 3) := by decide +kernel
theorem dX5_taken_27 : decode cX5_taken 27 = .ok (.iload_n 1, 1) := by decide +kernel
theorem dX5_taken_28 : decode cX5_taken 28 = .ok (.iaload, 1) := by decide +kernel
theorem dX5_taken_29 : decode cX5_taken 29 = .ok (.istore_n 3, 1) := by decide +kernel
theorem dX5_taken_30 : decode cX5_taken 30 = .ok (.iload_n 3, 1) := by decide +kernel
theorem dX5_taken_31 : decode cX5_taken 31 = .ok (.iload_n 2, 1) := by decide +kernel
theorem dX5_taken_32 : decode cX5_taken 32 = .ok (.if_icmp .eq 30, 3) := by decide +kernel
theorem dX5_taken_35 : decode cX5_taken 35 = .ok (.iload_n 3, 1) := by decide +kernel
theorem dX5_taken_36 : decode cX5_taken 36 = .ok (.ifCond .le 26, 3) := by decide +kernel
theorem dX5_taken_39 : decode cX5_taken 39 = .ok (.iload_n 3, 1) := by decide +kernel
theorem dX5_taken_40 : decode cX5_taken 40 = .ok (.iconst 3, 1) := by decide +kernel
theorem dX5_taken_41 : decode cX5_taken 41 = .ok (.if_icmp .ne 7, 3) := by decide +kernel
theorem dX5_taken_44 : decode cX5_taken 44 = .ok (.iconst 1, 1) := by decide +kernel
theorem dX5_taken_45 : decode cX5_taken 45 = .ok (.goto 13, 3) := by decide +kernel
theorem dX5_taken_48 : decode cX5_taken 48 = .ok (.iload_n 3, 1) := by decide +kernel
theorem dX5_taken_49 : decode cX5_taken 49 = .ok (.iconst 4, 1) := by decide +kernel
theorem dX5_taken_50 : decode cX5_taken 50 = .ok (.if_icmp .ne 7, 3) := by decide +kernel
theorem dX5_taken_53 : decode cX5_taken 53 = .ok (.iconst 2, 1) := by decide +kernel
theorem dX5_taken_54 : decode cX5_taken 54 = .ok (.goto 4, 3) := by decide +kernel
theorem dX5_taken_57 : decode cX5_taken 57 = .ok (.iconst 0, 1) := by decide +kernel
theorem dX5_taken_58 : decode cX5_taken 58 = .ok (.istore_n 3, 1) := by decide +kernel
theorem dX5_taken_59 : decode cX5_taken 59 = .ok (.goto (-29), 3) := by decide +kernel
theorem dX5_taken_62 : decode cX5_taken 62 = .ok (.iload_n 3, 1) := by decide +kernel
theorem dX5_taken_63 : decode cX5_taken 63 = .ok (.iload_n 2, 1) := by decide +kernel
theorem dX5_taken_64 : decode cX5_taken 64 = .ok (.if_icmp .ne 12, 3) := by decide +kernel
theorem dX5_taken_67 : decode cX5_taken 67 = .ok (.aload_n 0, 1) := by decide +kernel
theorem dX5_taken_68 : decode cX5_taken 68 = .ok (.getfield 17, 3) := by decide +kernel
theorem dX5_taken_71 : decode cX5_taken 71 = .ok (.iload_n 1, 1) := by decide +kernel
theorem dX5_taken_72 : decode cX5_taken 72 = .ok (.iaload, 1) := by decide +kernel
theorem dX5_taken_73 : decode cX5_taken 73 = .ok (.goto 5, 3) := by decide +kernel
theorem dX5_taken_76 : decode cX5_taken 76 = .ok (.bipush (-13), 2) := by decide +kernel
theorem dX5_taken_78 : decode cX5_taken 78 = .ok (.ireturn, 1) := by decide +kernel
