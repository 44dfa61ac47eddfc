theorem dX12_init_0 : decode yX12_init.2.1 0 = .ok (.aload_n 0, 1) := by decide +kernel
theorem dX12_init_1 : decode yX12_init.2.1 1 = .ok (.invokespecial 1, 3) := by decide +kernel
theorem dX12_init_4 : decode yX12_init.2.1 4 = .ok (.aload_n 0, 1) := by decide +kernel
theorem dX12_init_5 : decode yX12_init.2.1 5 = .ok (.bipush 6, 2) := by decide +kernel
theorem dX12_init_7 : decode yX12_init.2.1 7 = .ok (.newarray .int, 2) := by decide +kernel
theorem dX12_init_9 : decode yX12_init.2.1 9 = .ok (.putfield 7, 3) := by decide +kernel
theorem dX12_init_12 : decode yX12_init.2.1 12 = .ok (.aload_n 0, 1) := by decide +kernel
theorem dX12_init_13 : decode yX12_init.2.1 13 = .ok (.bipush 6, 2) := by decide +kernel
theorem dX12_init_15 : decode yX12_init.2.1 15 = .ok (.newarray .int, 2) := by decide +kernel
theorem dX12_init_17 : decode yX12_init.2.1 17 = .ok (.putfield 13, 3) := by decide +kernel
theorem dX12_init_20 : decode yX12_init.2.1 20 = .ok (.aload_n 0, 1) := by decide +kernel
theorem dX12_init_21 : decode yX12_init.2.1 21 = .ok (.sipush 240, 3) := by decide +kernel
theorem dX12_init_24 : decode yX12_init.2.1 24 = .ok (.newarray .int, 2) := by decide +kernel
theorem dX12_init_26 : decode yX12_init.2.1 26 = .ok (.putfield 16, 3) := by decide +kernel
theorem dX12_init_29 : decode yX12_init.2.1 29 = .ok (.aload_n 0, 1) := by decide +kernel
theorem dX12_init_30 : decode yX12_init.2.1 30 = .ok (.bipush 40, 2) := by decide +kernel
theorem dX12_init_32 : decode yX12_init.2.1 32 = .ok (.newarray .int, 2) := by decide +kernel
theorem dX12_init_34 : decode yX12_init.2.1 34 = .ok (.putfield 19, 3) := by decide +kernel
theorem dX12_init_37 : decode yX12_init.2.1 37 = .ok (.aload_n 0, 1) := by decide +kernel
theorem dX12_init_38 : decode yX12_init.2.1 38 = .ok (.iconst 4, 1) := by decide +kernel
theorem dX12_init_39 : decode yX12_init.2.1 39 = .ok (.newarray .int, 2) := by decide +kernel
theorem dX12_init_41 : decode yX12_init.2.1 41 = .ok (.putfield 22, 3) := by decide +kernel
theorem dX12_init_44 : decode yX12_init.2.1 44 = .ok (.aload_n 0, 1) := by decide +kernel
theorem dX12_init_45 : decode yX12_init.2.1 45 = .ok (.sipush 240, 3) := by decide +kernel
theorem dX12_init_48 : decode yX12_init.2.1 48 = .ok (.newarray .byte, 2) := by decide +kernel
theorem dX12_init_50 : decode yX12_init.2.1 50 = .ok (.putfield 25, 3) := by decide +kernel
theorem dX12_init_53 : decode yX12_init.2.1 53 = .ok (.aload_n 0, 1) := by decide +kernel
theorem dX12_init_54 : decode yX12_init.2.1 54 = .ok (.bipush 8, 2) := by decide +kernel
theorem dX12_init_56 : decode yX12_init.2.1 56 = .ok (.newarray .int, 2) := by decide +kernel
theorem dX12_init_58 : decode yX12_init.2.1 58 = .ok (.putfield 29, 3) := by decide +kernel
theorem dX12_init_61 : decode yX12_init.2.1 61 = .ok (.aload_n 0, 1) := by decide +kernel
theorem dX12_init_62 : decode yX12_init.2.1 62 = .ok (.sipush 320, 3) := by decide +kernel
theorem dX12_init_65 : decode yX12_init.2.1 65 = .ok (.newarray .int, 2) := by decide +kernel
theorem dX12_init_67 : decode yX12_init.2.1 67 = .ok (.putfield 32, 3) := by decide +kernel
theorem dX12_init_70 : decode yX12_init.2.1 70 = .ok (.aload_n 0, 1) := by decide +kernel
theorem dX12_init_71 : decode yX12_init.2.1 71 = .ok (.bipush 8, 2) := by decide +kernel
theorem dX12_init_73 : decode yX12_init.2.1 73 = .ok (.newarray .int, 2) := by decide +kernel
theorem dX12_init_75 : decode yX12_init.2.1 75 = .ok (.putfield 35, 3) := by decide +kernel
theorem dX12_init_78 : decode yX12_init.2.1 78 = .ok (.aload_n 0, 1) := by decide +kernel
theorem dX12_init_79 : decode yX12_init.2.1 79 = .ok (.bipush 8, 2) := by decide +kernel
theorem dX12_init_81 : decode yX12_init.2.1 81 = .ok (.newarray .int, 2) := by decide +kernel
theorem dX12_init_83 : decode yX12_init.2.1 83 = .ok (.putfield 38, 3) := by decide +kernel
theorem dX12_init_86 : decode yX12_init.2.1 86 = .ok (.aload_n 0, 1) := by decide +kernel
theorem dX12_init_87 : decode yX12_init.2.1 87 = .ok (.bipush 8, 2) := by decide +kernel
theorem dX12_init_89 : decode yX12_init.2.1 89 = .ok (.newarray .int, 2) := by decide +kernel
theorem dX12_init_91 : decode yX12_init.2.1 91 = .ok (.putfield 41, 3) := by decide +kernel
theorem dX12_init_94 : decode yX12_init.2.1 94 = .ok (.aload_n 0, 1) := by decide +kernel
theorem dX12_init_95 : decode yX12_init.2.1 95 = .ok (.bipush 40, 2) := by decide +kernel
theorem dX12_init_97 : decode yX12_init.2.1 97 = .ok (.newarray .int, 2) := by decide +kernel
theorem dX12_init_99 : decode yX12_init.2.1 99 = .ok (.putfield 44, 3) := by decide +kernel
theorem dX12_init_102 : decode yX12_init.2.1 102 = .ok (.aload_n 0, 1) := by decide +kernel
theorem dX12_init_103 : decode yX12_init.2.1 103 = .ok (.iconst 5, 1) := by decide +kernel
theorem dX12_init_104 : decode yX12_init.2.1 104 = .ok (.newarray .int, 2) := by decide +kernel
theorem dX12_init_106 : decode yX12_init.2.1 106 = .ok (.putfield 47, 3) := by decide +kernel
theorem dX12_init_109 : decode yX12_init.2.1 109 = .ok (.aload_n 0, 1) := by decide +kernel
theorem dX12_init_110 : decode yX12_init.2.1 110 = .ok (.iconst 5, 1) := by decide +kernel
theorem dX12_init_111 : decode yX12_init.2.1 111 = .ok (.newarray .int, 2) := by decide +kernel
theorem dX12_init_113 : decode yX12_init.2.1 113 = .ok (.putfield 50, 3) := by decide +kernel
theorem dX12_init_116 : decode yX12_init.2.1 116 = .ok (.aload_n 0, 1) := by decide +kernel
theorem dX12_init_117 : decode yX12_init.2.1 117 = .ok (.bipush 41, 2) := by decide +kernel
theorem dX12_init_119 : decode yX12_init.2.1 119 = .ok (.newarray .long, 2) := by decide +kernel
theorem dX12_init_121 : decode yX12_init.2.1 121 = .ok (.putfield 53, 3) := by decide +kernel
theorem dX12_init_124 : decode yX12_init.2.1 124 = .ok (.aload_n 0, 1) := by decide +kernel
theorem dX12_init_125 : decode yX12_init.2.1 125 = .ok (.bipush 40, 2) := by decide +kernel
theorem dX12_init_127 : decode yX12_init.2.1 127 = .ok (.newarray .int, 2) := by decide +kernel
theorem dX12_init_129 : decode yX12_init.2.1 129 = .ok (.putfield 57, 3) := by decide +kernel
theorem dX12_init_132 : decode yX12_init.2.1 132 = .ok (.aload_n 0, 1) := by decide +kernel
theorem dX12_init_133 : decode yX12_init.2.1 133 = .ok (.bipush 40, 2) := by decide +kernel
theorem dX12_init_135 : decode yX12_init.2.1 135 = .ok (.newarray .int, 2) := by decide +kernel
theorem dX12_init_137 : decode yX12_init.2.1 137 = .ok (.putfield 60, 3) := by decide +kernel
theorem dX12_init_140 : decode yX12_init.2.1 140 = .ok (.aload_n 0, 1) := by decide +kernel
theorem dX12_init_141 : decode yX12_init.2.1 141 = .ok (.bipush 41, 2) := by decide +kernel
theorem dX12_init_143 : decode yX12_init.2.1 143 = .ok (.newarray .int, 2) := by decide +kernel
theorem dX12_init_145 : decode yX12_init.2.1 145 = .ok (.putfield 63, 3) := by decide +kernel
theorem dX12_init_148 : decode yX12_init.2.1 148 = .ok (.aload_n 0, 1) := by decide +kernel
theorem dX12_init_149 : decode yX12_init.2.1 149 = .ok (.sipush 1681, 3) := by decide +kernel
theorem dX12_init_152 : decode yX12_init.2.1 152 = .ok (.newarray .long, 2) := by decide +kernel
theorem dX12_init_154 : decode yX12_init.2.1 154 = .ok (.putfield 66, 3) := by decide +kernel
theorem dX12_init_157 : decode yX12_init.2.1 157 = .ok (.aload_n 0, 1) := by decide +kernel
theorem dX12_init_158 : decode yX12_init.2.1 158 = .ok (.sipush 1700, 3) := by decide +kernel
theorem dX12_init_161 : decode yX12_init.2.1 161 = .ok (.newarray .int, 2) := by decide +kernel
theorem dX12_init_163 : decode yX12_init.2.1 163 = .ok (.putfield 69, 3) := by decide +kernel
theorem dX12_init_166 : decode yX12_init.2.1 166 = .ok (.aload_n 0, 1) := by decide +kernel
theorem dX12_init_167 : decode yX12_init.2.1 167 = .ok (.sipush 1700, 3) := by decide +kernel
theorem dX12_init_170 : decode yX12_init.2.1 170 = .ok (.newarray .int, 2) := by decide +kernel
theorem dX12_init_172 : decode yX12_init.2.1 172 = .ok (.putfield 72, 3) := by decide +kernel
theorem dX12_init_175 : decode yX12_init.2.1 175 = .ok (.aload_n 0, 1) := by decide +kernel
theorem dX12_init_176 : decode yX12_init.2.1 176 = .ok (.sipush 1700, 3) := by decide +kernel
theorem dX12_init_179 : decode yX12_init.2.1 179 = .ok (.newarray .int, 2) := by decide +kernel
theorem dX12_init_181 : decode yX12_init.2.1 181 = .ok (.putfield 75, 3) := by decide +kernel
theorem dX12_init_184 : decode yX12_init.2.1 184 = .ok (.aload_n 0, 1) := by decide +kernel
theorem dX12_init_185 : decode yX12_init.2.1 185 = .ok (.sipush 1700, 3) := by decide +kernel
theorem dX12_init_188 : decode yX12_init.2.1 188 = .ok (.newarray .boolean, 2) := by decide +kernel
theorem dX12_init_190 : decode yX12_init.2.1 190 = .ok (.putfield 78, 3) := by decide +kernel
theorem dX12_init_193 : decode yX12_init.2.1 193 = .ok (.aload_n 0, 1) := by decide +kernel
theorem dX12_init_194 : decode yX12_init.2.1 194 = .ok (.bipush 40, 2) := by decide +kernel
theorem dX12_init_196 : decode yX12_init.2.1 196 = .ok (.newarray .int, 2) := by decide +kernel
theorem dX12_init_198 : decode yX12_init.2.1 198 = .ok (.putfield 82, 3) := by decide +kernel
theorem dX12_init_201 : decode yX12_init.2.1 201 = .ok (.aload_n 0, 1) := by decide +kernel
theorem dX12_init_202 : decode yX12_init.2.1 202 = .ok (.iconst 4, 1) := by decide +kernel
theorem dX12_init_203 : decode yX12_init.2.1 203 = .ok (.newarray .int, 2) := by decide +kernel
theorem dX12_init_205 : decode yX12_init.2.1 205 = .ok (.putfield 85, 3) := by decide +kernel
theorem dX12_init_208 : decode yX12_init.2.1 208 = .ok (.aload_n 0, 1) := by decide +kernel
theorem dX12_init_209 : decode yX12_init.2.1 209 = .ok (.sipush 20001, 3) := by decide +kernel
theorem dX12_init_212 : decode yX12_init.2.1 212 = .ok (.newarray .int, 2) := by decide +kernel
theorem dX12_init_214 : decode yX12_init.2.1 214 = .ok (.putfield 88, 3) := by decide +kernel
theorem dX12_init_217 : decode yX12_init.2.1 217 = .ok (.aload_n 0, 1) := by decide +kernel
theorem dX12_init_218 : decode yX12_init.2.1 218 = .ok (.iconst 4, 1) := by decide +kernel
theorem dX12_init_219 : decode yX12_init.2.1 219 = .ok (.newarray .int, 2) := by decide +kernel
theorem dX12_init_221 : decode yX12_init.2.1 221 = .ok (.putfield 91, 3) := by decide +kernel
theorem dX12_init_224 : decode yX12_init.2.1 224 = .ok (.aload_n 0, 1) := by decide +kernel
theorem dX12_init_225 : decode yX12_init.2.1 225 = .ok (.sipush 1681, 3) := by decide +kernel
theorem dX12_init_228 : decode yX12_init.2.1 228 = .ok (.newarray .long, 2) := by decide +kernel
theorem dX12_init_230 : decode yX12_init.2.1 230 = .ok (.putfield 94, 3) := by decide +kernel
theorem dX12_init_233 : decode yX12_init.2.1 233 = .ok (.aload_n 0, 1) := by decide +kernel
theorem dX12_init_234 : decode yX12_init.2.1 234 = .ok (.sipush 216, 3) := by decide +kernel
theorem dX12_init_237 : decode yX12_init.2.1 237 = .ok (.newarray .long, 2) := by decide +kernel
theorem dX12_init_239 : decode yX12_init.2.1 239 = .ok (.putfield 97, 3) := by decide +kernel
theorem dX12_init_242 : decode yX12_init.2.1 242 = .ok (.aload_n 0, 1) := by decide +kernel
theorem dX12_init_243 : decode yX12_init.2.1 243 = .ok (.sipush 216, 3) := by decide +kernel
theorem dX12_init_246 : decode yX12_init.2.1 246 = .ok (.newarray .long, 2) := by decide +kernel
theorem dX12_init_248 : decode yX12_init.2.1 248 = .ok (.putfield 100, 3) := by decide +kernel
theorem dX12_init_251 : decode yX12_init.2.1 251 = .ok (.aload_n 0, 1) := by decide +kernel
theorem dX12_init_252 : decode yX12_init.2.1 252 = .ok (.iconst 4, 1) := by decide +kernel
theorem dX12_init_253 : decode yX12_init.2.1 253 = .ok (.newarray .long, 2) := by decide +kernel
theorem dX12_init_255 : decode yX12_init.2.1 255 = .ok (.putfield 103, 3) := by decide +kernel
theorem dX12_init_258 : decode yX12_init.2.1 258 = .ok (.aload_n 0, 1) := by decide +kernel
theorem dX12_init_259 : decode yX12_init.2.1 259 = .ok (.lconst 1, 1) := by decide +kernel
theorem dX12_init_260 : decode yX12_init.2.1 260 = .ok (.putfield 106, 3) := by decide +kernel
theorem dX12_init_263 : decode yX12_init.2.1 263 = .ok (.aload_n 0, 1) := by decide +kernel
theorem dX12_init_264 : decode yX12_init.2.1 264 = .ok (.iconst 3, 1) := by decide +kernel
theorem dX12_init_265 : decode yX12_init.2.1 265 = .ok (.putfield 110, 3) := by decide +kernel
theorem dX12_init_268 : decode yX12_init.2.1 268 = .ok (.iconst 0, 1) := by decide +kernel
theorem dX12_init_269 : decode yX12_init.2.1 269 = .ok (.istore_n 1, 1) := by decide +kernel
theorem dX12_init_270 : decode yX12_init.2.1 270 = .ok (.iload_n 1, 1) := by decide +kernel
theorem dX12_init_271 : decode yX12_init.2.1 271 = .ok (.bipush 6, 2) := by decide +kernel
theorem dX12_init_273 : decode yX12_init.2.1 273 = .ok (.if_icmp .ge 16, 3) := by decide +kernel
theorem dX12_init_276 : decode yX12_init.2.1 276 = .ok (.aload_n 0, 1) := by decide +kernel
theorem dX12_init_277 : decode yX12_init.2.1 277 = .ok (.getfield 13, 3) := by decide +kernel
theorem dX12_init_280 : decode yX12_init.2.1 280 = .ok (.iload_n 1, 1) := by decide +kernel
theorem dX12_init_281 : decode yX12_init.2.1 281 = .ok (.iconst (-1), 1) := by decide +kernel
theorem dX12_init_282 : decode yX12_init.2.1 282 = .ok (.iastore, 1) := by decide +kernel
theorem dX12_init_283 : decode yX12_init.2.1 283 = .ok (.iinc 1 1, 3) := by decide +kernel
theorem dX12_init_286 : decode yX12_init.2.1 286 = .ok (.goto (-16), 3) := by decide +kernel
theorem dX12_init_289 : decode yX12_init.2.1 289 = .ok (.iconst 0, 1) := by decide +kernel
theorem dX12_init_290 : decode yX12_init.2.1 290 = .ok (.istore_n 1, 1) := by decide +kernel
theorem dX12_init_291 : decode yX12_init.2.1 291 = .ok (.iload_n 1, 1) := by decide +kernel
theorem dX12_init_292 : decode yX12_init.2.1 292 = .ok (.iconst 4, 1) := by decide +kernel
theorem dX12_init_293 : decode yX12_init.2.1 293 = .ok (.if_icmp .ge 16, 3) := by decide +kernel
theorem dX12_init_296 : decode yX12_init.2.1 296 = .ok (.aload_n 0, 1) := by decide +kernel
theorem dX12_init_297 : decode yX12_init.2.1 297 = .ok (.getfield 22, 3) := by decide +kernel
theorem dX12_init_300 : decode yX12_init.2.1 300 = .ok (.iload_n 1, 1) := by decide +kernel
theorem dX12_init_301 : decode yX12_init.2.1 301 = .ok (.iconst (-1), 1) := by decide +kernel
theorem dX12_init_302 : decode yX12_init.2.1 302 = .ok (.iastore, 1) := by decide +kernel
theorem dX12_init_303 : decode yX12_init.2.1 303 = .ok (.iinc 1 1, 3) := by decide +kernel
theorem dX12_init_306 : decode yX12_init.2.1 306 = .ok (.goto (-15), 3) := by decide +kernel
theorem dX12_init_309 : decode yX12_init.2.1 309 = .ok (.iconst 0, 1) := by decide +kernel
theorem dX12_init_310 : decode yX12_init.2.1 310 = .ok (.istore_n 1, 1) := by decide +kernel
theorem dX12_init_311 : decode yX12_init.2.1 311 = .ok (.iload_n 1, 1) := by decide +kernel
theorem dX12_init_312 : decode yX12_init.2.1 312 = .ok (.bipush 8, 2) := by decide +kernel
theorem dX12_init_314 : decode yX12_init.2.1 314 = .ok (.if_icmp .ge 16, 3) := by decide +kernel
theorem dX12_init_317 : decode yX12_init.2.1 317 = .ok (.aload_n 0, 1) := by decide +kernel
theorem dX12_init_318 : decode yX12_init.2.1 318 = .ok (.getfield 29, 3) := by decide +kernel
theorem dX12_init_321 : decode yX12_init.2.1 321 = .ok (.iload_n 1, 1) := by decide +kernel
theorem dX12_init_322 : decode yX12_init.2.1 322 = .ok (.iconst (-1), 1) := by decide +kernel
theorem dX12_init_323 : decode yX12_init.2.1 323 = .ok (.iastore, 1) := by decide +kernel
theorem dX12_init_324 : decode yX12_init.2.1 324 = .ok (.iinc 1 1, 3) := by decide +kernel
theorem dX12_init_327 : decode yX12_init.2.1 327 = .ok (.goto (-16), 3) := by decide +kernel
theorem dX12_init_330 : decode yX12_init.2.1 330 = .ok (.return_, 1) := by decide +kernel
theorem dX12_in_0 : decode yX12_in.2.1 0 = .ok (.iload_n 0, 1) := by decide +kernel
theorem dX12_in_1 : decode yX12_in.2.1 1 = .ok (.iload_n 1, 1) := by decide +kernel
theorem dX12_in_2 : decode yX12_in.2.1 2 = .ok (.if_icmp .lt 12, 3) := by decide +kernel
theorem dX12_in_5 : decode yX12_in.2.1 5 = .ok (.iload_n 0, 1) := by decide +kernel
theorem dX12_in_6 : decode yX12_in.2.1 6 = .ok (.iload_n 2, 1) := by decide +kernel
theorem dX12_in_7 : decode yX12_in.2.1 7 = .ok (.if_icmp .gt 7, 3) := by decide +kernel
theorem dX12_in_10 : decode yX12_in.2.1 10 = .ok (.iconst 1, 1) := by decide +kernel
theorem dX12_in_11 : decode yX12_in.2.1 11 = .ok (.goto 4, 3) := by decide +kernel
theorem dX12_in_14 : decode yX12_in.2.1 14 = .ok (.iconst 0, 1) := by decide +kernel
theorem dX12_in_15 : decode yX12_in.2.1 15 = .ok (.ireturn, 1) := by decide +kernel
theorem dX12_has_0 : decode yX12_has.2.1 0 = .ok (.iload_n 0, 1) := by decide +kernel
theorem dX12_has_1 : decode yX12_has.2.1 1 = .ok (.iload_n 1, 1) := by decide +kernel
theorem dX12_has_2 : decode yX12_has.2.1 2 = .ok (.ishr, 1) := by decide +kernel
theorem dX12_has_3 : decode yX12_has.2.1 3 = .ok (.iconst 1, 1) := by decide +kernel
theorem dX12_has_4 : decode yX12_has.2.1 4 = .ok (.iand, 1) := by decide +kernel
theorem dX12_has_5 : decode yX12_has.2.1 5 = .ok (.iconst 1, 1) := by decide +kernel
theorem dX12_has_6 : decode yX12_has.2.1 6 = .ok (.if_icmp .ne 7, 3) := by decide +kernel
theorem dX12_has_9 : decode yX12_has.2.1 9 = .ok (.iconst 1, 1) := by decide +kernel
theorem dX12_has_10 : decode yX12_has.2.1 10 = .ok (.goto 4, 3) := by decide +kernel
theorem dX12_has_13 : decode yX12_has.2.1 13 = .ok (.iconst 0, 1) := by decide +kernel
theorem dX12_has_14 : decode yX12_has.2.1 14 = .ok (.ireturn, 1) := by decide +kernel
theorem dX12_meets_0 : decode yX12_meets.2.1 0 = .ok (.aload_n 0, 1) := by decide +kernel
theorem dX12_meets_1 : decode yX12_meets.2.1 1 = .ok (.iload_n 1, 1) := by decide +kernel
theorem dX12_meets_2 : decode yX12_meets.2.1 2 = .ok (.putfield 114, 3) := by decide +kernel
theorem dX12_meets_5 : decode yX12_meets.2.1 5 = .ok (.aload_n 0, 1) := by decide +kernel
theorem dX12_meets_6 : decode yX12_meets.2.1 6 = .ok (.getfield 7, 3) := by decide +kernel
theorem dX12_meets_9 : decode yX12_meets.2.1 9 = .ok (.iload_n 1, 1) := by decide +kernel
theorem dX12_meets_10 : decode yX12_meets.2.1 10 = .ok (.dup2, 1) := by decide +kernel
theorem dX12_meets_11 : decode yX12_meets.2.1 11 = .ok (.iaload, 1) := by decide +kernel
theorem dX12_meets_12 : decode yX12_meets.2.1 12 = .ok (.iconst 1, 1) := by decide +kernel
theorem dX12_meets_13 : decode yX12_meets.2.1 13 = .ok (.iadd, 1) := by decide +kernel
theorem dX12_meets_14 : decode yX12_meets.2.1 14 = .ok (.iastore, 1) := by decide +kernel
theorem dX12_meets_15 : decode yX12_meets.2.1 15 = .ok (.bipush (-3), 2) := by decide +kernel
theorem dX12_meets_17 : decode yX12_meets.2.1 17 = .ok (.ireturn, 1) := by decide +kernel
theorem dX12_finding_0 : decode yX12_finding.2.1 0 = .ok (.aload_n 0, 1) := by decide +kernel
theorem dX12_finding_1 : decode yX12_finding.2.1 1 = .ok (.getfield 114, 3) := by decide +kernel
theorem dX12_finding_4 : decode yX12_finding.2.1 4 = .ok (.ireturn, 1) := by decide +kernel
theorem dX12_findings_0 : decode yX12_findings.2.1 0 = .ok (.iload_n 1, 1) := by decide +kernel
theorem dX12_findings_1 : decode yX12_findings.2.1 1 = .ok (.iconst 1, 1) := by decide +kernel
theorem dX12_findings_2 : decode yX12_findings.2.1 2 = .ok (.iconst 5, 1) := by decide +kernel
theorem dX12_findings_3 : decode yX12_findings.2.1 3 = .ok (.invokestatic 117, 3) := by decide +kernel
theorem dX12_findings_6 : decode yX12_findings.2.1 6 = .ok (.ifCond .eq 12, 3) := by decide +kernel
theorem dX12_findings_9 : decode yX12_findings.2.1 9 = .ok (.aload_n 0, 1) := by decide +kernel
theorem dX12_findings_10 : decode yX12_findings.2.1 10 = .ok (.getfield 7, 3) := by decide +kernel
theorem dX12_findings_13 : decode yX12_findings.2.1 13 = .ok (.iload_n 1, 1) := by decide +kernel
theorem dX12_findings_14 : decode yX12_findings.2.1 14 = .ok (.iaload, 1) := by decide +kernel
theorem dX12_findings_15 : decode yX12_findings.2.1 15 = .ok (.goto 4, 3) := by decide +kernel
theorem dX12_findings_18 : decode yX12_findings.2.1 18 = .ok (.iconst (-1), 1) := by decide +kernel
theorem dX12_findings_19 : decode yX12_findings.2.1 19 = .ok (.ireturn, 1) := by decide +kernel
theorem dX12_tells_0 : decode yX12_tells.2.1 0 = .ok (.aload_n 0, 1) := by decide +kernel
theorem dX12_tells_1 : decode yX12_tells.2.1 1 = .ok (.iload_n 1, 1) := by decide +kernel
theorem dX12_tells_2 : decode yX12_tells.2.1 2 = .ok (.putfield 121, 3) := by decide +kernel
theorem dX12_tells_5 : decode yX12_tells.2.1 5 = .ok (.iload_n 2, 1) := by decide +kernel
theorem dX12_tells_6 : decode yX12_tells.2.1 6 = .ok (.ireturn, 1) := by decide +kernel
theorem dX12_tellsMany_0 : decode yX12_tellsMany.2.1 0 = .ok (.aload_n 0, 1) := by decide +kernel
theorem dX12_tellsMany_1 : decode yX12_tellsMany.2.1 1 = .ok (.lload_n 1, 1) := by decide +kernel
theorem dX12_tellsMany_2 : decode yX12_tellsMany.2.1 2 = .ok (.putfield 124, 3) := by decide +kernel
theorem dX12_tellsMany_5 : decode yX12_tellsMany.2.1 5 = .ok (.iload_n 3, 1) := by decide +kernel
theorem dX12_tellsMany_6 : decode yX12_tellsMany.2.1 6 = .ok (.ireturn, 1) := by decide +kernel
theorem dX12_asked_0 : decode yX12_asked.2.1 0 = .ok (.aload_n 0, 1) := by decide +kernel
theorem dX12_asked_1 : decode yX12_asked.2.1 1 = .ok (.getfield 121, 3) := by decide +kernel
theorem dX12_asked_4 : decode yX12_asked.2.1 4 = .ok (.ireturn, 1) := by decide +kernel
theorem dX12_many_0 : decode yX12_many.2.1 0 = .ok (.aload_n 0, 1) := by decide +kernel
theorem dX12_many_1 : decode yX12_many.2.1 1 = .ok (.getfield 124, 3) := by decide +kernel
theorem dX12_many_4 : decode yX12_many.2.1 4 = .ok (.lreturn, 1) := by decide +kernel
theorem dX12_fraction_0 : decode yX12_fraction.2.1 0 = .ok (.lload_n 1, 1) := by decide +kernel
theorem dX12_fraction_1 : decode yX12_fraction.2.1 1 = .ok (.lstore 6, 2) := by decide +kernel
theorem dX12_fraction_3 : decode yX12_fraction.2.1 3 = .ok (.lload_n 3, 1) := by decide +kernel
theorem dX12_fraction_4 : decode yX12_fraction.2.1 4 = .ok (.lstore 8, 2) := by decide +kernel
theorem dX12_fraction_6 : decode yX12_fraction.2.1 6 = .ok (.lload 8, 2) := by decide +kernel
theorem dX12_fraction_8 : decode yX12_fraction.2.1 8 = .ok (.lconst 0, 1) := by decide +kernel
theorem dX12_fraction_9 : decode yX12_fraction.2.1 9 = .ok (.lcmp, 1) := by decide +kernel
theorem dX12_fraction_10 : decode yX12_fraction.2.1 10 = .ok (.ifCond .eq 21, 3) := by decide +kernel
theorem dX12_fraction_13 : decode yX12_fraction.2.1 13 = .ok (.lload 6, 2) := by decide +kernel
theorem dX12_fraction_15 : decode yX12_fraction.2.1 15 = .ok (.lload 8, 2) := by decide +kernel
theorem dX12_fraction_17 : decode yX12_fraction.2.1 17 = .ok (.lrem, 1) := by decide +kernel
theorem dX12_fraction_18 : decode yX12_fraction.2.1 18 = .ok (.lstore 10, 2) := by decide +kernel
theorem dX12_fraction_20 : decode yX12_fraction.2.1 20 = .ok (.lload 8, 2) := by decide +kernel
theorem dX12_fraction_22 : decode yX12_fraction.2.1 22 = .ok (.lstore 6, 2) := by decide +kernel
theorem dX12_fraction_24 : decode yX12_fraction.2.1 24 = .ok (.lload 10, 2) := by decide +kernel
theorem dX12_fraction_26 : decode yX12_fraction.2.1 26 = .ok (.lstore 8, 2) := by decide +kernel
theorem dX12_fraction_28 : decode yX12_fraction.2.1 28 = .ok (.goto (-22), 3) := by decide +kernel
theorem dX12_fraction_31 : decode yX12_fraction.2.1 31 = .ok (.aload_n 0, 1) := by decide +kernel
theorem dX12_fraction_32 : decode yX12_fraction.2.1 32 = .ok (.lload_n 1, 1) := by decide +kernel
theorem dX12_fraction_33 : decode yX12_fraction.2.1 33 = .ok (.lload 6, 2) := by decide +kernel
theorem dX12_fraction_35 : decode yX12_fraction.2.1 35 = .ok (.ldiv, 1) := by decide +kernel
theorem dX12_fraction_36 : decode yX12_fraction.2.1 36 = .ok (.putfield 127, 3) := by decide +kernel
theorem dX12_fraction_39 : decode yX12_fraction.2.1 39 = .ok (.aload_n 0, 1) := by decide +kernel
theorem dX12_fraction_40 : decode yX12_fraction.2.1 40 = .ok (.lload_n 3, 1) := by decide +kernel
theorem dX12_fraction_41 : decode yX12_fraction.2.1 41 = .ok (.lload 6, 2) := by decide +kernel
theorem dX12_fraction_43 : decode yX12_fraction.2.1 43 = .ok (.ldiv, 1) := by decide +kernel
theorem dX12_fraction_44 : decode yX12_fraction.2.1 44 = .ok (.putfield 106, 3) := by decide +kernel
theorem dX12_fraction_47 : decode yX12_fraction.2.1 47 = .ok (.iload 5, 2) := by decide +kernel
theorem dX12_fraction_49 : decode yX12_fraction.2.1 49 = .ok (.ireturn, 1) := by decide +kernel
theorem dX12_upper_0 : decode yX12_upper.2.1 0 = .ok (.aload_n 0, 1) := by decide +kernel
theorem dX12_upper_1 : decode yX12_upper.2.1 1 = .ok (.getfield 127, 3) := by decide +kernel
theorem dX12_upper_4 : decode yX12_upper.2.1 4 = .ok (.lreturn, 1) := by decide +kernel
theorem dX12_lower_0 : decode yX12_lower.2.1 0 = .ok (.aload_n 0, 1) := by decide +kernel
theorem dX12_lower_1 : decode yX12_lower.2.1 1 = .ok (.getfield 106, 3) := by decide +kernel
theorem dX12_lower_4 : decode yX12_lower.2.1 4 = .ok (.lreturn, 1) := by decide +kernel
theorem dX12_isRow_0 : decode yX12_isRow.2.1 0 = .ok (.iload_n 0, 1) := by decide +kernel
theorem dX12_isRow_1 : decode yX12_isRow.2.1 1 = .ok (.iconst 0, 1) := by decide +kernel
theorem dX12_isRow_2 : decode yX12_isRow.2.1 2 = .ok (.iconst 5, 1) := by decide +kernel
theorem dX12_isRow_3 : decode yX12_isRow.2.1 3 = .ok (.invokestatic 117, 3) := by decide +kernel
theorem dX12_isRow_6 : decode yX12_isRow.2.1 6 = .ok (.ireturn, 1) := by decide +kernel
theorem dX12_rowAt_0 : decode yX12_rowAt.2.1 0 = .ok (.aload_n 0, 1) := by decide +kernel
theorem dX12_rowAt_1 : decode yX12_rowAt.2.1 1 = .ok (.getfield 16, 3) := by decide +kernel
theorem dX12_rowAt_4 : decode yX12_rowAt.2.1 4 = .ok (.bipush 40, 2) := by decide +kernel
theorem dX12_rowAt_6 : decode yX12_rowAt.2.1 6 = .ok (.iload_n 1, 1) := by decide +kernel
theorem dX12_rowAt_7 : decode yX12_rowAt.2.1 7 = .ok (.imul, 1) := by decide +kernel
theorem dX12_rowAt_8 : decode yX12_rowAt.2.1 8 = .ok (.iload_n 2, 1) := by decide +kernel
theorem dX12_rowAt_9 : decode yX12_rowAt.2.1 9 = .ok (.iadd, 1) := by decide +kernel
theorem dX12_rowAt_10 : decode yX12_rowAt.2.1 10 = .ok (.iaload, 1) := by decide +kernel
theorem dX12_rowAt_11 : decode yX12_rowAt.2.1 11 = .ok (.ireturn, 1) := by decide +kernel
theorem dX12_row_0 : decode yX12_row.2.1 0 = .ok (.iload_n 1, 1) := by decide +kernel
theorem dX12_row_1 : decode yX12_row.2.1 1 = .ok (.invokestatic 130, 3) := by decide +kernel
theorem dX12_row_4 : decode yX12_row.2.1 4 = .ok (.ifCond .eq 9, 3) := by decide +kernel
theorem dX12_row_7 : decode yX12_row.2.1 7 = .ok (.iload_n 2, 1) := by decide +kernel
theorem dX12_row_8 : decode yX12_row.2.1 8 = .ok (.bipush 40, 2) := by decide +kernel
theorem dX12_row_10 : decode yX12_row.2.1 10 = .ok (.if_icmp .le 5, 3) := by decide +kernel
theorem dX12_row_13 : decode yX12_row.2.1 13 = .ok (.iconst (-1), 1) := by decide +kernel
theorem dX12_row_14 : decode yX12_row.2.1 14 = .ok (.ireturn, 1) := by decide +kernel
theorem dX12_row_15 : decode yX12_row.2.1 15 = .ok (.iload_n 2, 1) := by decide +kernel
theorem dX12_row_16 : decode yX12_row.2.1 16 = .ok (.ifCond .ge 9, 3) := by decide +kernel
theorem dX12_row_19 : decode yX12_row.2.1 19 = .ok (.aload_n 0, 1) := by decide +kernel
theorem dX12_row_20 : decode yX12_row.2.1 20 = .ok (.iconst 5, 1) := by decide +kernel
theorem dX12_row_21 : decode yX12_row.2.1 21 = .ok (.invokevirtual 134, 3) := by decide +kernel
theorem dX12_row_24 : decode yX12_row.2.1 24 = .ok (.ireturn, 1) := by decide +kernel
theorem dX12_row_25 : decode yX12_row.2.1 25 = .ok (.aload_n 0, 1) := by decide +kernel
theorem dX12_row_26 : decode yX12_row.2.1 26 = .ok (.getfield 13, 3) := by decide +kernel
theorem dX12_row_29 : decode yX12_row.2.1 29 = .ok (.iload_n 1, 1) := by decide +kernel
theorem dX12_row_30 : decode yX12_row.2.1 30 = .ok (.iload_n 2, 1) := by decide +kernel
theorem dX12_row_31 : decode yX12_row.2.1 31 = .ok (.iastore, 1) := by decide +kernel
theorem dX12_row_32 : decode yX12_row.2.1 32 = .ok (.iconst 0, 1) := by decide +kernel
theorem dX12_row_33 : decode yX12_row.2.1 33 = .ok (.istore_n 3, 1) := by decide +kernel
theorem dX12_row_34 : decode yX12_row.2.1 34 = .ok (.iload_n 3, 1) := by decide +kernel
theorem dX12_row_35 : decode yX12_row.2.1 35 = .ok (.bipush 40, 2) := by decide +kernel
theorem dX12_row_37 : decode yX12_row.2.1 37 = .ok (.if_icmp .ge 21, 3) := by decide +kernel
theorem dX12_row_40 : decode yX12_row.2.1 40 = .ok (.aload_n 0, 1) := by decide +kernel
theorem dX12_row_41 : decode yX12_row.2.1 41 = .ok (.getfield 16, 3) := by decide +kernel
theorem dX12_row_44 : decode yX12_row.2.1 44 = .ok (.bipush 40, 2) := by decide +kernel
theorem dX12_row_46 : decode yX12_row.2.1 46 = .ok (.iload_n 1, 1) := by decide +kernel
theorem dX12_row_47 : decode yX12_row.2.1 47 = .ok (.imul, 1) := by decide +kernel
theorem dX12_row_48 : decode yX12_row.2.1 48 = .ok (.iload_n 3, 1) := by decide +kernel
theorem dX12_row_49 : decode yX12_row.2.1 49 = .ok (.iadd, 1) := by decide +kernel
theorem dX12_row_50 : decode yX12_row.2.1 50 = .ok (.iconst 0, 1) := by decide +kernel
theorem dX12_row_51 : decode yX12_row.2.1 51 = .ok (.iastore, 1) := by decide +kernel
theorem dX12_row_52 : decode yX12_row.2.1 52 = .ok (.iinc 3 1, 3) := by decide +kernel
theorem dX12_row_55 : decode yX12_row.2.1 55 = .ok (.goto (-21), 3) := by decide +kernel
theorem dX12_row_58 : decode yX12_row.2.1 58 = .ok (.iload_n 2, 1) := by decide +kernel
theorem dX12_row_59 : decode yX12_row.2.1 59 = .ok (.ireturn, 1) := by decide +kernel
theorem dX12_lay_0 : decode yX12_lay.2.1 0 = .ok (.iload_n 1, 1) := by decide +kernel
theorem dX12_lay_1 : decode yX12_lay.2.1 1 = .ok (.invokestatic 130, 3) := by decide +kernel
theorem dX12_lay_4 : decode yX12_lay.2.1 4 = .ok (.ifCond .ne 5, 3) := by decide +kernel
theorem dX12_lay_7 : decode yX12_lay.2.1 7 = .ok (.iconst (-1), 1) := by decide +kernel
theorem dX12_lay_8 : decode yX12_lay.2.1 8 = .ok (.ireturn, 1) := by decide +kernel
theorem dX12_lay_9 : decode yX12_lay.2.1 9 = .ok (.aload_n 0, 1) := by decide +kernel
theorem dX12_lay_10 : decode yX12_lay.2.1 10 = .ok (.getfield 13, 3) := by decide +kernel
theorem dX12_lay_13 : decode yX12_lay.2.1 13 = .ok (.iload_n 1, 1) := by decide +kernel
theorem dX12_lay_14 : decode yX12_lay.2.1 14 = .ok (.iaload, 1) := by decide +kernel
theorem dX12_lay_15 : decode yX12_lay.2.1 15 = .ok (.ifCond .ge 9, 3) := by decide +kernel
theorem dX12_lay_18 : decode yX12_lay.2.1 18 = .ok (.aload_n 0, 1) := by decide +kernel
theorem dX12_lay_19 : decode yX12_lay.2.1 19 = .ok (.iconst 1, 1) := by decide +kernel
theorem dX12_lay_20 : decode yX12_lay.2.1 20 = .ok (.invokevirtual 134, 3) := by decide +kernel
theorem dX12_lay_23 : decode yX12_lay.2.1 23 = .ok (.ireturn, 1) := by decide +kernel
theorem dX12_lay_24 : decode yX12_lay.2.1 24 = .ok (.iload_n 2, 1) := by decide +kernel
theorem dX12_lay_25 : decode yX12_lay.2.1 25 = .ok (.iconst 0, 1) := by decide +kernel
theorem dX12_lay_26 : decode yX12_lay.2.1 26 = .ok (.aload_n 0, 1) := by decide +kernel
theorem dX12_lay_27 : decode yX12_lay.2.1 27 = .ok (.getfield 13, 3) := by decide +kernel
theorem dX12_lay_30 : decode yX12_lay.2.1 30 = .ok (.iload_n 1, 1) := by decide +kernel
theorem dX12_lay_31 : decode yX12_lay.2.1 31 = .ok (.iaload, 1) := by decide +kernel
theorem dX12_lay_32 : decode yX12_lay.2.1 32 = .ok (.iconst 1, 1) := by decide +kernel
theorem dX12_lay_33 : decode yX12_lay.2.1 33 = .ok (.isub, 1) := by decide +kernel
theorem dX12_lay_34 : decode yX12_lay.2.1 34 = .ok (.invokestatic 117, 3) := by decide +kernel
theorem dX12_lay_37 : decode yX12_lay.2.1 37 = .ok (.ifCond .ne 9, 3) := by decide +kernel
theorem dX12_lay_40 : decode yX12_lay.2.1 40 = .ok (.aload_n 0, 1) := by decide +kernel
theorem dX12_lay_41 : decode yX12_lay.2.1 41 = .ok (.iconst 2, 1) := by decide +kernel
theorem dX12_lay_42 : decode yX12_lay.2.1 42 = .ok (.invokevirtual 134, 3) := by decide +kernel
theorem dX12_lay_45 : decode yX12_lay.2.1 45 = .ok (.ireturn, 1) := by decide +kernel
theorem dX12_lay_46 : decode yX12_lay.2.1 46 = .ok (.aload_n 0, 1) := by decide +kernel
theorem dX12_lay_47 : decode yX12_lay.2.1 47 = .ok (.iload_n 1, 1) := by decide +kernel
theorem dX12_lay_48 : decode yX12_lay.2.1 48 = .ok (.iload_n 2, 1) := by decide +kernel
theorem dX12_lay_49 : decode yX12_lay.2.1 49 = .ok (.invokevirtual 138, 3) := by decide +kernel
theorem dX12_lay_52 : decode yX12_lay.2.1 52 = .ok (.istore 4, 2) := by decide +kernel
theorem dX12_lay_54 : decode yX12_lay.2.1 54 = .ok (.aload_n 0, 1) := by decide +kernel
theorem dX12_lay_55 : decode yX12_lay.2.1 55 = .ok (.getfield 16, 3) := by decide +kernel
theorem dX12_lay_58 : decode yX12_lay.2.1 58 = .ok (.bipush 40, 2) := by decide +kernel
theorem dX12_lay_60 : decode yX12_lay.2.1 60 = .ok (.iload_n 1, 1) := by decide +kernel
theorem dX12_lay_61 : decode yX12_lay.2.1 61 = .ok (.imul, 1) := by decide +kernel
theorem dX12_lay_62 : decode yX12_lay.2.1 62 = .ok (.iload_n 2, 1) := by decide +kernel
theorem dX12_lay_63 : decode yX12_lay.2.1 63 = .ok (.iadd, 1) := by decide +kernel
theorem dX12_lay_64 : decode yX12_lay.2.1 64 = .ok (.iload_n 3, 1) := by decide +kernel
theorem dX12_lay_65 : decode yX12_lay.2.1 65 = .ok (.iastore, 1) := by decide +kernel
theorem dX12_lay_66 : decode yX12_lay.2.1 66 = .ok (.aload_n 0, 1) := by decide +kernel
theorem dX12_lay_67 : decode yX12_lay.2.1 67 = .ok (.iload 4, 2) := by decide +kernel
theorem dX12_lay_69 : decode yX12_lay.2.1 69 = .ok (.iconst 1, 1) := by decide +kernel
theorem dX12_lay_70 : decode yX12_lay.2.1 70 = .ok (.invokevirtual 142, 3) := by decide +kernel
theorem dX12_lay_73 : decode yX12_lay.2.1 73 = .ok (.ireturn, 1) := by decide +kernel
theorem dX12_at_0 : decode yX12_at.2.1 0 = .ok (.iload_n 1, 1) := by decide +kernel
theorem dX12_at_1 : decode yX12_at.2.1 1 = .ok (.invokestatic 130, 3) := by decide +kernel
theorem dX12_at_4 : decode yX12_at.2.1 4 = .ok (.ifCond .ne 5, 3) := by decide +kernel
theorem dX12_at_7 : decode yX12_at.2.1 7 = .ok (.iconst (-1), 1) := by decide +kernel
theorem dX12_at_8 : decode yX12_at.2.1 8 = .ok (.ireturn, 1) := by decide +kernel
theorem dX12_at_9 : decode yX12_at.2.1 9 = .ok (.aload_n 0, 1) := by decide +kernel
theorem dX12_at_10 : decode yX12_at.2.1 10 = .ok (.getfield 13, 3) := by decide +kernel
theorem dX12_at_13 : decode yX12_at.2.1 13 = .ok (.iload_n 1, 1) := by decide +kernel
theorem dX12_at_14 : decode yX12_at.2.1 14 = .ok (.iaload, 1) := by decide +kernel
theorem dX12_at_15 : decode yX12_at.2.1 15 = .ok (.ifCond .ge 9, 3) := by decide +kernel
theorem dX12_at_18 : decode yX12_at.2.1 18 = .ok (.aload_n 0, 1) := by decide +kernel
theorem dX12_at_19 : decode yX12_at.2.1 19 = .ok (.iconst 1, 1) := by decide +kernel
theorem dX12_at_20 : decode yX12_at.2.1 20 = .ok (.invokevirtual 134, 3) := by decide +kernel
theorem dX12_at_23 : decode yX12_at.2.1 23 = .ok (.ireturn, 1) := by decide +kernel
theorem dX12_at_24 : decode yX12_at.2.1 24 = .ok (.iload_n 2, 1) := by decide +kernel
theorem dX12_at_25 : decode yX12_at.2.1 25 = .ok (.iconst 0, 1) := by decide +kernel
theorem dX12_at_26 : decode yX12_at.2.1 26 = .ok (.aload_n 0, 1) := by decide +kernel
theorem dX12_at_27 : decode yX12_at.2.1 27 = .ok (.getfield 13, 3) := by decide +kernel
theorem dX12_at_30 : decode yX12_at.2.1 30 = .ok (.iload_n 1, 1) := by decide +kernel
theorem dX12_at_31 : decode yX12_at.2.1 31 = .ok (.iaload, 1) := by decide +kernel
theorem dX12_at_32 : decode yX12_at.2.1 32 = .ok (.iconst 1, 1) := by decide +kernel
theorem dX12_at_33 : decode yX12_at.2.1 33 = .ok (.isub, 1) := by decide +kernel
theorem dX12_at_34 : decode yX12_at.2.1 34 = .ok (.invokestatic 117, 3) := by decide +kernel
theorem dX12_at_37 : decode yX12_at.2.1 37 = .ok (.ifCond .eq 17, 3) := by decide +kernel
theorem dX12_at_40 : decode yX12_at.2.1 40 = .ok (.aload_n 0, 1) := by decide +kernel
theorem dX12_at_41 : decode yX12_at.2.1 41 = .ok (.aload_n 0, 1) := by decide +kernel
theorem dX12_at_42 : decode yX12_at.2.1 42 = .ok (.iload_n 1, 1) := by decide +kernel
theorem dX12_at_43 : decode yX12_at.2.1 43 = .ok (.iload_n 2, 1) := by decide +kernel
theorem dX12_at_44 : decode yX12_at.2.1 44 = .ok (.invokevirtual 138, 3) := by decide +kernel
theorem dX12_at_47 : decode yX12_at.2.1 47 = .ok (.iconst 1, 1) := by decide +kernel
theorem dX12_at_48 : decode yX12_at.2.1 48 = .ok (.invokevirtual 142, 3) := by decide +kernel
theorem dX12_at_51 : decode yX12_at.2.1 51 = .ok (.goto 8, 3) := by decide +kernel
theorem dX12_at_54 : decode yX12_at.2.1 54 = .ok (.aload_n 0, 1) := by decide +kernel
theorem dX12_at_55 : decode yX12_at.2.1 55 = .ok (.iconst 2, 1) := by decide +kernel
theorem dX12_at_56 : decode yX12_at.2.1 56 = .ok (.invokevirtual 134, 3) := by decide +kernel
theorem dX12_at_59 : decode yX12_at.2.1 59 = .ok (.ireturn, 1) := by decide +kernel
theorem dX12_tear_0 : decode yX12_tear.2.1 0 = .ok (.iload_n 1, 1) := by decide +kernel
theorem dX12_tear_1 : decode yX12_tear.2.1 1 = .ok (.invokestatic 130, 3) := by decide +kernel
theorem dX12_tear_4 : decode yX12_tear.2.1 4 = .ok (.ifCond .ne 5, 3) := by decide +kernel
theorem dX12_tear_7 : decode yX12_tear.2.1 7 = .ok (.iconst (-1), 1) := by decide +kernel
theorem dX12_tear_8 : decode yX12_tear.2.1 8 = .ok (.ireturn, 1) := by decide +kernel
theorem dX12_tear_9 : decode yX12_tear.2.1 9 = .ok (.aload_n 0, 1) := by decide +kernel
theorem dX12_tear_10 : decode yX12_tear.2.1 10 = .ok (.getfield 13, 3) := by decide +kernel
theorem dX12_tear_13 : decode yX12_tear.2.1 13 = .ok (.iload_n 1, 1) := by decide +kernel
theorem dX12_tear_14 : decode yX12_tear.2.1 14 = .ok (.iaload, 1) := by decide +kernel
theorem dX12_tear_15 : decode yX12_tear.2.1 15 = .ok (.ifCond .ge 9, 3) := by decide +kernel
theorem dX12_tear_18 : decode yX12_tear.2.1 18 = .ok (.aload_n 0, 1) := by decide +kernel
theorem dX12_tear_19 : decode yX12_tear.2.1 19 = .ok (.iconst 1, 1) := by decide +kernel
theorem dX12_tear_20 : decode yX12_tear.2.1 20 = .ok (.invokevirtual 134, 3) := by decide +kernel
theorem dX12_tear_23 : decode yX12_tear.2.1 23 = .ok (.ireturn, 1) := by decide +kernel
theorem dX12_tear_24 : decode yX12_tear.2.1 24 = .ok (.aload_n 0, 1) := by decide +kernel
theorem dX12_tear_25 : decode yX12_tear.2.1 25 = .ok (.getfield 13, 3) := by decide +kernel
theorem dX12_tear_28 : decode yX12_tear.2.1 28 = .ok (.iload_n 1, 1) := by decide +kernel
theorem dX12_tear_29 : decode yX12_tear.2.1 29 = .ok (.iconst (-1), 1) := by decide +kernel
theorem dX12_tear_30 : decode yX12_tear.2.1 30 = .ok (.iastore, 1) := by decide +kernel
theorem dX12_tear_31 : decode yX12_tear.2.1 31 = .ok (.iconst 1, 1) := by decide +kernel
theorem dX12_tear_32 : decode yX12_tear.2.1 32 = .ok (.ireturn, 1) := by decide +kernel
theorem dX12_copy_0 : decode yX12_copy.2.1 0 = .ok (.iload_n 1, 1) := by decide +kernel
theorem dX12_copy_1 : decode yX12_copy.2.1 1 = .ok (.invokestatic 130, 3) := by decide +kernel
theorem dX12_copy_4 : decode yX12_copy.2.1 4 = .ok (.ifCond .eq 10, 3) := by decide +kernel
theorem dX12_copy_7 : decode yX12_copy.2.1 7 = .ok (.iload_n 3, 1) := by decide +kernel
theorem dX12_copy_8 : decode yX12_copy.2.1 8 = .ok (.invokestatic 130, 3) := by decide +kernel
theorem dX12_copy_11 : decode yX12_copy.2.1 11 = .ok (.ifCond .ne 5, 3) := by decide +kernel
theorem dX12_copy_14 : decode yX12_copy.2.1 14 = .ok (.iconst (-1), 1) := by decide +kernel
theorem dX12_copy_15 : decode yX12_copy.2.1 15 = .ok (.ireturn, 1) := by decide +kernel
theorem dX12_copy_16 : decode yX12_copy.2.1 16 = .ok (.iload 5, 2) := by decide +kernel
theorem dX12_copy_18 : decode yX12_copy.2.1 18 = .ok (.ifCond .ge 9, 3) := by decide +kernel
theorem dX12_copy_21 : decode yX12_copy.2.1 21 = .ok (.aload_n 0, 1) := by decide +kernel
theorem dX12_copy_22 : decode yX12_copy.2.1 22 = .ok (.iconst 5, 1) := by decide +kernel
theorem dX12_copy_23 : decode yX12_copy.2.1 23 = .ok (.invokevirtual 134, 3) := by decide +kernel
theorem dX12_copy_26 : decode yX12_copy.2.1 26 = .ok (.ireturn, 1) := by decide +kernel
theorem dX12_copy_27 : decode yX12_copy.2.1 27 = .ok (.aload_n 0, 1) := by decide +kernel
theorem dX12_copy_28 : decode yX12_copy.2.1 28 = .ok (.getfield 13, 3) := by decide +kernel
theorem dX12_copy_31 : decode yX12_copy.2.1 31 = .ok (.iload_n 1, 1) := by decide +kernel
theorem dX12_copy_32 : decode yX12_copy.2.1 32 = .ok (.iaload, 1) := by decide +kernel
theorem dX12_copy_33 : decode yX12_copy.2.1 33 = .ok (.ifCond .lt 12, 3) := by decide +kernel
theorem dX12_copy_36 : decode yX12_copy.2.1 36 = .ok (.aload_n 0, 1) := by decide +kernel
theorem dX12_copy_37 : decode yX12_copy.2.1 37 = .ok (.getfield 13, 3) := by decide +kernel
theorem dX12_copy_40 : decode yX12_copy.2.1 40 = .ok (.iload_n 3, 1) := by decide +kernel
theorem dX12_copy_41 : decode yX12_copy.2.1 41 = .ok (.iaload, 1) := by decide +kernel
theorem dX12_copy_42 : decode yX12_copy.2.1 42 = .ok (.ifCond .ge 9, 3) := by decide +kernel
theorem dX12_copy_45 : decode yX12_copy.2.1 45 = .ok (.aload_n 0, 1) := by decide +kernel
theorem dX12_copy_46 : decode yX12_copy.2.1 46 = .ok (.iconst 1, 1) := by decide +kernel
theorem dX12_copy_47 : decode yX12_copy.2.1 47 = .ok (.invokevirtual 134, 3) := by decide +kernel
theorem dX12_copy_50 : decode yX12_copy.2.1 50 = .ok (.ireturn, 1) := by decide +kernel
theorem dX12_copy_51 : decode yX12_copy.2.1 51 = .ok (.iload_n 2, 1) := by decide +kernel
theorem dX12_copy_52 : decode yX12_copy.2.1 52 = .ok (.ifCond .lt 43, 3) := by decide +kernel
theorem dX12_copy_55 : decode yX12_copy.2.1 55 = .ok (.iload 4, 2) := by decide +kernel
theorem dX12_copy_57 : decode yX12_copy.2.1 57 = .ok (.ifCond .lt 38, 3) := by decide +kernel
theorem dX12_copy_60 : decode yX12_copy.2.1 60 = .ok (.iload_n 2, 1) := by decide +kernel
theorem dX12_copy_61 : decode yX12_copy.2.1 61 = .ok (.i2l, 1) := by decide +kernel
theorem dX12_copy_62 : decode yX12_copy.2.1 62 = .ok (.iload 5, 2) := by decide +kernel
theorem dX12_copy_64 : decode yX12_copy.2.1 64 = .ok (.i2l, 1) := by decide +kernel
theorem dX12_copy_65 : decode yX12_copy.2.1 65 = .ok (.ladd, 1) := by decide +kernel
theorem dX12_copy_66 : decode yX12_copy.2.1 66 = .ok (.aload_n 0, 1) := by decide +kernel
theorem dX12_copy_67 : decode yX12_copy.2.1 67 = .ok (.getfield 13, 3) := by decide +kernel
theorem dX12_copy_70 : decode yX12_copy.2.1 70 = .ok (.iload_n 1, 1) := by decide +kernel
theorem dX12_copy_71 : decode yX12_copy.2.1 71 = .ok (.iaload, 1) := by decide +kernel
theorem dX12_copy_72 : decode yX12_copy.2.1 72 = .ok (.i2l, 1) := by decide +kernel
theorem dX12_copy_73 : decode yX12_copy.2.1 73 = .ok (.lcmp, 1) := by decide +kernel
theorem dX12_copy_74 : decode yX12_copy.2.1 74 = .ok (.ifCond .gt 21, 3) := by decide +kernel
theorem dX12_copy_77 : decode yX12_copy.2.1 77 = .ok (.iload 4, 2) := by decide +kernel
theorem dX12_copy_79 : decode yX12_copy.2.1 79 = .ok (.i2l, 1) := by decide +kernel
theorem dX12_copy_80 : decode yX12_copy.2.1 80 = .ok (.iload 5, 2) := by decide +kernel
theorem dX12_copy_82 : decode yX12_copy.2.1 82 = .ok (.i2l, 1) := by decide +kernel
theorem dX12_copy_83 : decode yX12_copy.2.1 83 = .ok (.ladd, 1) := by decide +kernel
theorem dX12_copy_84 : decode yX12_copy.2.1 84 = .ok (.aload_n 0, 1) := by decide +kernel
theorem dX12_copy_85 : decode yX12_copy.2.1 85 = .ok (.getfield 13, 3) := by decide +kernel
theorem dX12_copy_88 : decode yX12_copy.2.1 88 = .ok (.iload_n 3, 1) := by decide +kernel
theorem dX12_copy_89 : decode yX12_copy.2.1 89 = .ok (.iaload, 1) := by decide +kernel
theorem dX12_copy_90 : decode yX12_copy.2.1 90 = .ok (.i2l, 1) := by decide +kernel
theorem dX12_copy_91 : decode yX12_copy.2.1 91 = .ok (.lcmp, 1) := by decide +kernel
theorem dX12_copy_92 : decode yX12_copy.2.1 92 = .ok (.ifCond .le 9, 3) := by decide +kernel
theorem dX12_copy_95 : decode yX12_copy.2.1 95 = .ok (.aload_n 0, 1) := by decide +kernel
theorem dX12_copy_96 : decode yX12_copy.2.1 96 = .ok (.iconst 2, 1) := by decide +kernel
theorem dX12_copy_97 : decode yX12_copy.2.1 97 = .ok (.invokevirtual 134, 3) := by decide +kernel
theorem dX12_copy_100 : decode yX12_copy.2.1 100 = .ok (.ireturn, 1) := by decide +kernel
theorem dX12_copy_101 : decode yX12_copy.2.1 101 = .ok (.iconst 0, 1) := by decide +kernel
theorem dX12_copy_102 : decode yX12_copy.2.1 102 = .ok (.istore 6, 2) := by decide +kernel
theorem dX12_copy_104 : decode yX12_copy.2.1 104 = .ok (.iload 6, 2) := by decide +kernel
theorem dX12_copy_106 : decode yX12_copy.2.1 106 = .ok (.iload 5, 2) := by decide +kernel
theorem dX12_copy_108 : decode yX12_copy.2.1 108 = .ok (.if_icmp .ge 25, 3) := by decide +kernel
theorem dX12_copy_111 : decode yX12_copy.2.1 111 = .ok (.aload_n 0, 1) := by decide +kernel
theorem dX12_copy_112 : decode yX12_copy.2.1 112 = .ok (.getfield 19, 3) := by decide +kernel
theorem dX12_copy_115 : decode yX12_copy.2.1 115 = .ok (.iload 6, 2) := by decide +kernel
theorem dX12_copy_117 : decode yX12_copy.2.1 117 = .ok (.aload_n 0, 1) := by decide +kernel
theorem dX12_copy_118 : decode yX12_copy.2.1 118 = .ok (.iload_n 1, 1) := by decide +kernel
theorem dX12_copy_119 : decode yX12_copy.2.1 119 = .ok (.iload_n 2, 1) := by decide +kernel
theorem dX12_copy_120 : decode yX12_copy.2.1 120 = .ok (.iload 6, 2) := by decide +kernel
theorem dX12_copy_122 : decode yX12_copy.2.1 122 = .ok (.iadd, 1) := by decide +kernel
theorem dX12_copy_123 : decode yX12_copy.2.1 123 = .ok (.invokevirtual 138, 3) := by decide +kernel
theorem dX12_copy_126 : decode yX12_copy.2.1 126 = .ok (.iastore, 1) := by decide +kernel
theorem dX12_copy_127 : decode yX12_copy.2.1 127 = .ok (.iinc 6 1, 3) := by decide +kernel
theorem dX12_copy_130 : decode yX12_copy.2.1 130 = .ok (.goto (-26), 3) := by decide +kernel
theorem dX12_copy_133 : decode yX12_copy.2.1 133 = .ok (.iconst 0, 1) := by decide +kernel
theorem dX12_copy_134 : decode yX12_copy.2.1 134 = .ok (.istore 6, 2) := by decide +kernel
theorem dX12_copy_136 : decode yX12_copy.2.1 136 = .ok (.iload 6, 2) := by decide +kernel
theorem dX12_copy_138 : decode yX12_copy.2.1 138 = .ok (.iload 5, 2) := by decide +kernel
theorem dX12_copy_140 : decode yX12_copy.2.1 140 = .ok (.if_icmp .ge 31, 3) := by decide +kernel
theorem dX12_copy_143 : decode yX12_copy.2.1 143 = .ok (.aload_n 0, 1) := by decide +kernel
theorem dX12_copy_144 : decode yX12_copy.2.1 144 = .ok (.getfield 16, 3) := by decide +kernel
theorem dX12_copy_147 : decode yX12_copy.2.1 147 = .ok (.bipush 40, 2) := by decide +kernel
theorem dX12_copy_149 : decode yX12_copy.2.1 149 = .ok (.iload_n 3, 1) := by decide +kernel
theorem dX12_copy_150 : decode yX12_copy.2.1 150 = .ok (.imul, 1) := by decide +kernel
theorem dX12_copy_151 : decode yX12_copy.2.1 151 = .ok (.iload 4, 2) := by decide +kernel
theorem dX12_copy_153 : decode yX12_copy.2.1 153 = .ok (.iadd, 1) := by decide +kernel
theorem dX12_copy_154 : decode yX12_copy.2.1 154 = .ok (.iload 6, 2) := by decide +kernel
theorem dX12_copy_156 : decode yX12_copy.2.1 156 = .ok (.iadd, 1) := by decide +kernel
theorem dX12_copy_157 : decode yX12_copy.2.1 157 = .ok (.aload_n 0, 1) := by decide +kernel
theorem dX12_copy_158 : decode yX12_copy.2.1 158 = .ok (.getfield 19, 3) := by decide +kernel
theorem dX12_copy_161 : decode yX12_copy.2.1 161 = .ok (.iload 6, 2) := by decide +kernel
theorem dX12_copy_163 : decode yX12_copy.2.1 163 = .ok (.iaload, 1) := by decide +kernel
theorem dX12_copy_164 : decode yX12_copy.2.1 164 = .ok (.iastore, 1) := by decide +kernel
theorem dX12_copy_165 : decode yX12_copy.2.1 165 = .ok (.iinc 6 1, 3) := by decide +kernel
theorem dX12_copy_168 : decode yX12_copy.2.1 168 = .ok (.goto (-32), 3) := by decide +kernel
theorem dX12_copy_171 : decode yX12_copy.2.1 171 = .ok (.iconst 1, 1) := by decide +kernel
theorem dX12_copy_172 : decode yX12_copy.2.1 172 = .ok (.ireturn, 1) := by decide +kernel
theorem dX12_mean_0 : decode yX12_mean.2.1 0 = .ok (.iload_n 1, 1) := by decide +kernel
theorem dX12_mean_1 : decode yX12_mean.2.1 1 = .ok (.invokestatic 130, 3) := by decide +kernel
theorem dX12_mean_4 : decode yX12_mean.2.1 4 = .ok (.ifCond .ne 5, 3) := by decide +kernel
theorem dX12_mean_7 : decode yX12_mean.2.1 7 = .ok (.iconst (-1), 1) := by decide +kernel
theorem dX12_mean_8 : decode yX12_mean.2.1 8 = .ok (.ireturn, 1) := by decide +kernel
theorem dX12_mean_9 : decode yX12_mean.2.1 9 = .ok (.aload_n 0, 1) := by decide +kernel
theorem dX12_mean_10 : decode yX12_mean.2.1 10 = .ok (.getfield 13, 3) := by decide +kernel
theorem dX12_mean_13 : decode yX12_mean.2.1 13 = .ok (.iload_n 1, 1) := by decide +kernel
theorem dX12_mean_14 : decode yX12_mean.2.1 14 = .ok (.iaload, 1) := by decide +kernel
theorem dX12_mean_15 : decode yX12_mean.2.1 15 = .ok (.ifCond .ge 9, 3) := by decide +kernel
theorem dX12_mean_18 : decode yX12_mean.2.1 18 = .ok (.aload_n 0, 1) := by decide +kernel
theorem dX12_mean_19 : decode yX12_mean.2.1 19 = .ok (.iconst 1, 1) := by decide +kernel
theorem dX12_mean_20 : decode yX12_mean.2.1 20 = .ok (.invokevirtual 134, 3) := by decide +kernel
theorem dX12_mean_23 : decode yX12_mean.2.1 23 = .ok (.ireturn, 1) := by decide +kernel
theorem dX12_mean_24 : decode yX12_mean.2.1 24 = .ok (.aload_n 0, 1) := by decide +kernel
theorem dX12_mean_25 : decode yX12_mean.2.1 25 = .ok (.getfield 13, 3) := by decide +kernel
theorem dX12_mean_28 : decode yX12_mean.2.1 28 = .ok (.iload_n 1, 1) := by decide +kernel
theorem dX12_mean_29 : decode yX12_mean.2.1 29 = .ok (.iaload, 1) := by decide +kernel
theorem dX12_mean_30 : decode yX12_mean.2.1 30 = .ok (.ifCond .ne 9, 3) := by decide +kernel
theorem dX12_mean_33 : decode yX12_mean.2.1 33 = .ok (.aload_n 0, 1) := by decide +kernel
theorem dX12_mean_34 : decode yX12_mean.2.1 34 = .ok (.iconst 4, 1) := by decide +kernel
theorem dX12_mean_35 : decode yX12_mean.2.1 35 = .ok (.invokevirtual 134, 3) := by decide +kernel
theorem dX12_mean_38 : decode yX12_mean.2.1 38 = .ok (.ireturn, 1) := by decide +kernel
theorem dX12_mean_39 : decode yX12_mean.2.1 39 = .ok (.lconst 0, 1) := by decide +kernel
theorem dX12_mean_40 : decode yX12_mean.2.1 40 = .ok (.lstore_n 2, 1) := by decide +kernel
theorem dX12_mean_41 : decode yX12_mean.2.1 41 = .ok (.iconst 0, 1) := by decide +kernel
theorem dX12_mean_42 : decode yX12_mean.2.1 42 = .ok (.istore 4, 2) := by decide +kernel
theorem dX12_mean_44 : decode yX12_mean.2.1 44 = .ok (.iload 4, 2) := by decide +kernel
theorem dX12_mean_46 : decode yX12_mean.2.1 46 = .ok (.aload_n 0, 1) := by decide +kernel
theorem dX12_mean_47 : decode yX12_mean.2.1 47 = .ok (.getfield 13, 3) := by decide +kernel
theorem dX12_mean_50 : decode yX12_mean.2.1 50 = .ok (.iload_n 1, 1) := by decide +kernel
theorem dX12_mean_51 : decode yX12_mean.2.1 51 = .ok (.iaload, 1) := by decide +kernel
theorem dX12_mean_52 : decode yX12_mean.2.1 52 = .ok (.if_icmp .ge 20, 3) := by decide +kernel
theorem dX12_mean_55 : decode yX12_mean.2.1 55 = .ok (.lload_n 2, 1) := by decide +kernel
theorem dX12_mean_56 : decode yX12_mean.2.1 56 = .ok (.aload_n 0, 1) := by decide +kernel
theorem dX12_mean_57 : decode yX12_mean.2.1 57 = .ok (.iload_n 1, 1) := by decide +kernel
theorem dX12_mean_58 : decode yX12_mean.2.1 58 = .ok (.iload 4, 2) := by decide +kernel
theorem dX12_mean_60 : decode yX12_mean.2.1 60 = .ok (.invokevirtual 138, 3) := by decide +kernel
theorem dX12_mean_63 : decode yX12_mean.2.1 63 = .ok (.i2l, 1) := by decide +kernel
theorem dX12_mean_64 : decode yX12_mean.2.1 64 = .ok (.ladd, 1) := by decide +kernel
theorem dX12_mean_65 : decode yX12_mean.2.1 65 = .ok (.lstore_n 2, 1) := by decide +kernel
theorem dX12_mean_66 : decode yX12_mean.2.1 66 = .ok (.iinc 4 1, 3) := by decide +kernel
theorem dX12_mean_69 : decode yX12_mean.2.1 69 = .ok (.goto (-25), 3) := by decide +kernel
theorem dX12_mean_72 : decode yX12_mean.2.1 72 = .ok (.aload_n 0, 1) := by decide +kernel
theorem dX12_mean_73 : decode yX12_mean.2.1 73 = .ok (.lload_n 2, 1) := by decide +kernel
theorem dX12_mean_74 : decode yX12_mean.2.1 74 = .ok (.aload_n 0, 1) := by decide +kernel
theorem dX12_mean_75 : decode yX12_mean.2.1 75 = .ok (.getfield 13, 3) := by decide +kernel
theorem dX12_mean_78 : decode yX12_mean.2.1 78 = .ok (.iload_n 1, 1) := by decide +kernel
theorem dX12_mean_79 : decode yX12_mean.2.1 79 = .ok (.iaload, 1) := by decide +kernel
theorem dX12_mean_80 : decode yX12_mean.2.1 80 = .ok (.i2l, 1) := by decide +kernel
theorem dX12_mean_81 : decode yX12_mean.2.1 81 = .ok (.ldiv, 1) := by decide +kernel
theorem dX12_mean_82 : decode yX12_mean.2.1 82 = .ok (.l2i, 1) := by decide +kernel
theorem dX12_mean_83 : decode yX12_mean.2.1 83 = .ok (.iconst 1, 1) := by decide +kernel
theorem dX12_mean_84 : decode yX12_mean.2.1 84 = .ok (.invokevirtual 142, 3) := by decide +kernel
theorem dX12_mean_87 : decode yX12_mean.2.1 87 = .ok (.ireturn, 1) := by decide +kernel
theorem dX12_isText_0 : decode yX12_isText.2.1 0 = .ok (.iload_n 0, 1) := by decide +kernel
theorem dX12_isText_1 : decode yX12_isText.2.1 1 = .ok (.iconst 0, 1) := by decide +kernel
theorem dX12_isText_2 : decode yX12_isText.2.1 2 = .ok (.iconst 3, 1) := by decide +kernel
theorem dX12_isText_3 : decode yX12_isText.2.1 3 = .ok (.invokestatic 117, 3) := by decide +kernel
theorem dX12_isText_6 : decode yX12_isText.2.1 6 = .ok (.ireturn, 1) := by decide +kernel
theorem dX12_text_0 : decode yX12_text.2.1 0 = .ok (.iload_n 1, 1) := by decide +kernel
theorem dX12_text_1 : decode yX12_text.2.1 1 = .ok (.invokestatic 145, 3) := by decide +kernel
theorem dX12_text_4 : decode yX12_text.2.1 4 = .ok (.ifCond .eq 9, 3) := by decide +kernel
theorem dX12_text_7 : decode yX12_text.2.1 7 = .ok (.iload_n 2, 1) := by decide +kernel
theorem dX12_text_8 : decode yX12_text.2.1 8 = .ok (.bipush 60, 2) := by decide +kernel
theorem dX12_text_10 : decode yX12_text.2.1 10 = .ok (.if_icmp .le 5, 3) := by decide +kernel
theorem dX12_text_13 : decode yX12_text.2.1 13 = .ok (.iconst (-1), 1) := by decide +kernel
theorem dX12_text_14 : decode yX12_text.2.1 14 = .ok (.ireturn, 1) := by decide +kernel
theorem dX12_text_15 : decode yX12_text.2.1 15 = .ok (.iload_n 2, 1) := by decide +kernel
theorem dX12_text_16 : decode yX12_text.2.1 16 = .ok (.ifCond .ge 9, 3) := by decide +kernel
theorem dX12_text_19 : decode yX12_text.2.1 19 = .ok (.aload_n 0, 1) := by decide +kernel
theorem dX12_text_20 : decode yX12_text.2.1 20 = .ok (.iconst 5, 1) := by decide +kernel
theorem dX12_text_21 : decode yX12_text.2.1 21 = .ok (.invokevirtual 134, 3) := by decide +kernel
theorem dX12_text_24 : decode yX12_text.2.1 24 = .ok (.ireturn, 1) := by decide +kernel
theorem dX12_text_25 : decode yX12_text.2.1 25 = .ok (.aload_n 0, 1) := by decide +kernel
theorem dX12_text_26 : decode yX12_text.2.1 26 = .ok (.getfield 22, 3) := by decide +kernel
theorem dX12_text_29 : decode yX12_text.2.1 29 = .ok (.iload_n 1, 1) := by decide +kernel
theorem dX12_text_30 : decode yX12_text.2.1 30 = .ok (.iload_n 2, 1) := by decide +kernel
theorem dX12_text_31 : decode yX12_text.2.1 31 = .ok (.iastore, 1) := by decide +kernel
theorem dX12_text_32 : decode yX12_text.2.1 32 = .ok (.iconst 0, 1) := by decide +kernel
theorem dX12_text_33 : decode yX12_text.2.1 33 = .ok (.istore_n 3, 1) := by decide +kernel
theorem dX12_text_34 : decode yX12_text.2.1 34 = .ok (.iload_n 3, 1) := by decide +kernel
theorem dX12_text_35 : decode yX12_text.2.1 35 = .ok (.bipush 60, 2) := by decide +kernel
theorem dX12_text_37 : decode yX12_text.2.1 37 = .ok (.if_icmp .ge 22, 3) := by decide +kernel
theorem dX12_text_40 : decode yX12_text.2.1 40 = .ok (.aload_n 0, 1) := by decide +kernel
theorem dX12_text_41 : decode yX12_text.2.1 41 = .ok (.getfield 25, 3) := by decide +kernel
theorem dX12_text_44 : decode yX12_text.2.1 44 = .ok (.bipush 60, 2) := by decide +kernel
theorem dX12_text_46 : decode yX12_text.2.1 46 = .ok (.iload_n 1, 1) := by decide +kernel
theorem dX12_text_47 : decode yX12_text.2.1 47 = .ok (.imul, 1) := by decide +kernel
theorem dX12_text_48 : decode yX12_text.2.1 48 = .ok (.iload_n 3, 1) := by decide +kernel
theorem dX12_text_49 : decode yX12_text.2.1 49 = .ok (.iadd, 1) := by decide +kernel
theorem dX12_text_50 : decode yX12_text.2.1 50 = .ok (.bipush 32, 2) := by decide +kernel
theorem dX12_text_52 : decode yX12_text.2.1 52 = .ok (.bastore, 1) := by decide +kernel
theorem dX12_text_53 : decode yX12_text.2.1 53 = .ok (.iinc 3 1, 3) := by decide +kernel
theorem dX12_text_56 : decode yX12_text.2.1 56 = .ok (.goto (-22), 3) := by decide +kernel
theorem dX12_text_59 : decode yX12_text.2.1 59 = .ok (.iload_n 2, 1) := by decide +kernel
theorem dX12_text_60 : decode yX12_text.2.1 60 = .ok (.ireturn, 1) := by decide +kernel
theorem dX12_put_0 : decode yX12_put.2.1 0 = .ok (.iload_n 1, 1) := by decide +kernel
theorem dX12_put_1 : decode yX12_put.2.1 1 = .ok (.invokestatic 145, 3) := by decide +kernel
theorem dX12_put_4 : decode yX12_put.2.1 4 = .ok (.ifCond .ne 5, 3) := by decide +kernel
theorem dX12_put_7 : decode yX12_put.2.1 7 = .ok (.iconst (-1), 1) := by decide +kernel
theorem dX12_put_8 : decode yX12_put.2.1 8 = .ok (.ireturn, 1) := by decide +kernel
theorem dX12_put_9 : decode yX12_put.2.1 9 = .ok (.aload_n 0, 1) := by decide +kernel
theorem dX12_put_10 : decode yX12_put.2.1 10 = .ok (.getfield 22, 3) := by decide +kernel
theorem dX12_put_13 : decode yX12_put.2.1 13 = .ok (.iload_n 1, 1) := by decide +kernel
theorem dX12_put_14 : decode yX12_put.2.1 14 = .ok (.iaload, 1) := by decide +kernel
theorem dX12_put_15 : decode yX12_put.2.1 15 = .ok (.ifCond .ge 9, 3) := by decide +kernel
theorem dX12_put_18 : decode yX12_put.2.1 18 = .ok (.aload_n 0, 1) := by decide +kernel
theorem dX12_put_19 : decode yX12_put.2.1 19 = .ok (.iconst 1, 1) := by decide +kernel
theorem dX12_put_20 : decode yX12_put.2.1 20 = .ok (.invokevirtual 134, 3) := by decide +kernel
theorem dX12_put_23 : decode yX12_put.2.1 23 = .ok (.ireturn, 1) := by decide +kernel
theorem dX12_put_24 : decode yX12_put.2.1 24 = .ok (.iload_n 2, 1) := by decide +kernel
theorem dX12_put_25 : decode yX12_put.2.1 25 = .ok (.iconst 0, 1) := by decide +kernel
theorem dX12_put_26 : decode yX12_put.2.1 26 = .ok (.aload_n 0, 1) := by decide +kernel
theorem dX12_put_27 : decode yX12_put.2.1 27 = .ok (.getfield 22, 3) := by decide +kernel
theorem dX12_put_30 : decode yX12_put.2.1 30 = .ok (.iload_n 1, 1) := by decide +kernel
theorem dX12_put_31 : decode yX12_put.2.1 31 = .ok (.iaload, 1) := by decide +kernel
theorem dX12_put_32 : decode yX12_put.2.1 32 = .ok (.iconst 1, 1) := by decide +kernel
theorem dX12_put_33 : decode yX12_put.2.1 33 = .ok (.isub, 1) := by decide +kernel
theorem dX12_put_34 : decode yX12_put.2.1 34 = .ok (.invokestatic 117, 3) := by decide +kernel
theorem dX12_put_37 : decode yX12_put.2.1 37 = .ok (.ifCond .ne 9, 3) := by decide +kernel
theorem dX12_put_40 : decode yX12_put.2.1 40 = .ok (.aload_n 0, 1) := by decide +kernel
theorem dX12_put_41 : decode yX12_put.2.1 41 = .ok (.iconst 2, 1) := by decide +kernel
theorem dX12_put_42 : decode yX12_put.2.1 42 = .ok (.invokevirtual 134, 3) := by decide +kernel
theorem dX12_put_45 : decode yX12_put.2.1 45 = .ok (.ireturn, 1) := by decide +kernel
theorem dX12_put_46 : decode yX12_put.2.1 46 = .ok (.aload_n 0, 1) := by decide +kernel
theorem dX12_put_47 : decode yX12_put.2.1 47 = .ok (.getfield 25, 3) := by decide +kernel
theorem dX12_put_50 : decode yX12_put.2.1 50 = .ok (.bipush 60, 2) := by decide +kernel
theorem dX12_put_52 : decode yX12_put.2.1 52 = .ok (.iload_n 1, 1) := by decide +kernel
theorem dX12_put_53 : decode yX12_put.2.1 53 = .ok (.imul, 1) := by decide +kernel
theorem dX12_put_54 : decode yX12_put.2.1 54 = .ok (.iload_n 2, 1) := by decide +kernel
theorem dX12_put_55 : decode yX12_put.2.1 55 = .ok (.iadd, 1) := by decide +kernel
theorem dX12_put_56 : decode yX12_put.2.1 56 = .ok (.baload, 1) := by decide +kernel
theorem dX12_put_57 : decode yX12_put.2.1 57 = .ok (.istore 4, 2) := by decide +kernel
theorem dX12_put_59 : decode yX12_put.2.1 59 = .ok (.aload_n 0, 1) := by decide +kernel
theorem dX12_put_60 : decode yX12_put.2.1 60 = .ok (.getfield 25, 3) := by decide +kernel
theorem dX12_put_63 : decode yX12_put.2.1 63 = .ok (.bipush 60, 2) := by decide +kernel
theorem dX12_put_65 : decode yX12_put.2.1 65 = .ok (.iload_n 1, 1) := by decide +kernel
theorem dX12_put_66 : decode yX12_put.2.1 66 = .ok (.imul, 1) := by decide +kernel
theorem dX12_put_67 : decode yX12_put.2.1 67 = .ok (.iload_n 2, 1) := by decide +kernel
theorem dX12_put_68 : decode yX12_put.2.1 68 = .ok (.iadd, 1) := by decide +kernel
theorem dX12_put_69 : decode yX12_put.2.1 69 = .ok (.iload_n 3, 1) := by decide +kernel
theorem dX12_put_70 : decode yX12_put.2.1 70 = .ok (.i2b, 1) := by decide +kernel
theorem dX12_put_71 : decode yX12_put.2.1 71 = .ok (.bastore, 1) := by decide +kernel
theorem dX12_put_72 : decode yX12_put.2.1 72 = .ok (.sipush 1000, 3) := by decide +kernel
theorem dX12_put_75 : decode yX12_put.2.1 75 = .ok (.iload 4, 2) := by decide +kernel
theorem dX12_put_77 : decode yX12_put.2.1 77 = .ok (.iadd, 1) := by decide +kernel
theorem dX12_put_78 : decode yX12_put.2.1 78 = .ok (.ireturn, 1) := by decide +kernel
theorem dX12_byteAt_0 : decode yX12_byteAt.2.1 0 = .ok (.iload_n 2, 1) := by decide +kernel
theorem dX12_byteAt_1 : decode yX12_byteAt.2.1 1 = .ok (.aload_n 0, 1) := by decide +kernel
theorem dX12_byteAt_2 : decode yX12_byteAt.2.1 2 = .ok (.getfield 22, 3) := by decide +kernel
theorem dX12_byteAt_5 : decode yX12_byteAt.2.1 5 = .ok (.iload_n 1, 1) := by decide +kernel
theorem dX12_byteAt_6 : decode yX12_byteAt.2.1 6 = .ok (.iaload, 1) := by decide +kernel
theorem dX12_byteAt_7 : decode yX12_byteAt.2.1 7 = .ok (.if_icmp .ge 17, 3) := by decide +kernel
theorem dX12_byteAt_10 : decode yX12_byteAt.2.1 10 = .ok (.aload_n 0, 1) := by decide +kernel
theorem dX12_byteAt_11 : decode yX12_byteAt.2.1 11 = .ok (.getfield 25, 3) := by decide +kernel
theorem dX12_byteAt_14 : decode yX12_byteAt.2.1 14 = .ok (.bipush 60, 2) := by decide +kernel
theorem dX12_byteAt_16 : decode yX12_byteAt.2.1 16 = .ok (.iload_n 1, 1) := by decide +kernel
theorem dX12_byteAt_17 : decode yX12_byteAt.2.1 17 = .ok (.imul, 1) := by decide +kernel
theorem dX12_byteAt_18 : decode yX12_byteAt.2.1 18 = .ok (.iload_n 2, 1) := by decide +kernel
theorem dX12_byteAt_19 : decode yX12_byteAt.2.1 19 = .ok (.iadd, 1) := by decide +kernel
theorem dX12_byteAt_20 : decode yX12_byteAt.2.1 20 = .ok (.baload, 1) := by decide +kernel
theorem dX12_byteAt_21 : decode yX12_byteAt.2.1 21 = .ok (.goto 4, 3) := by decide +kernel
theorem dX12_byteAt_24 : decode yX12_byteAt.2.1 24 = .ok (.iconst 0, 1) := by decide +kernel
theorem dX12_byteAt_25 : decode yX12_byteAt.2.1 25 = .ok (.ireturn, 1) := by decide +kernel
theorem dX12_isWord_0 : decode yX12_isWord.2.1 0 = .ok (.iload_n 0, 1) := by decide +kernel
theorem dX12_isWord_1 : decode yX12_isWord.2.1 1 = .ok (.iconst 0, 1) := by decide +kernel
theorem dX12_isWord_2 : decode yX12_isWord.2.1 2 = .ok (.bipush 7, 2) := by decide +kernel
theorem dX12_isWord_4 : decode yX12_isWord.2.1 4 = .ok (.invokestatic 117, 3) := by decide +kernel
theorem dX12_isWord_7 : decode yX12_isWord.2.1 7 = .ok (.ireturn, 1) := by decide +kernel
theorem dX12_isThere_0 : decode yX12_isThere.2.1 0 = .ok (.aload_n 0, 1) := by decide +kernel
theorem dX12_isThere_1 : decode yX12_isThere.2.1 1 = .ok (.getfield 29, 3) := by decide +kernel
theorem dX12_isThere_4 : decode yX12_isThere.2.1 4 = .ok (.iload_n 1, 1) := by decide +kernel
theorem dX12_isThere_5 : decode yX12_isThere.2.1 5 = .ok (.iaload, 1) := by decide +kernel
theorem dX12_isThere_6 : decode yX12_isThere.2.1 6 = .ok (.ifCond .lt 7, 3) := by decide +kernel
theorem dX12_isThere_9 : decode yX12_isThere.2.1 9 = .ok (.iconst 1, 1) := by decide +kernel
theorem dX12_isThere_10 : decode yX12_isThere.2.1 10 = .ok (.goto 4, 3) := by decide +kernel
theorem dX12_isThere_13 : decode yX12_isThere.2.1 13 = .ok (.iconst 0, 1) := by decide +kernel
theorem dX12_isThere_14 : decode yX12_isThere.2.1 14 = .ok (.ireturn, 1) := by decide +kernel
theorem dX12_at0_0 : decode yX12_at0.2.1 0 = .ok (.aload_n 0, 1) := by decide +kernel
theorem dX12_at0_1 : decode yX12_at0.2.1 1 = .ok (.getfield 32, 3) := by decide +kernel
theorem dX12_at0_4 : decode yX12_at0.2.1 4 = .ok (.bipush 40, 2) := by decide +kernel
theorem dX12_at0_6 : decode yX12_at0.2.1 6 = .ok (.iload_n 1, 1) := by decide +kernel
theorem dX12_at0_7 : decode yX12_at0.2.1 7 = .ok (.imul, 1) := by decide +kernel
theorem dX12_at0_8 : decode yX12_at0.2.1 8 = .ok (.iload_n 2, 1) := by decide +kernel
theorem dX12_at0_9 : decode yX12_at0.2.1 9 = .ok (.iadd, 1) := by decide +kernel
theorem dX12_at0_10 : decode yX12_at0.2.1 10 = .ok (.iaload, 1) := by decide +kernel
theorem dX12_at0_11 : decode yX12_at0.2.1 11 = .ok (.ireturn, 1) := by decide +kernel
theorem dX12_isLetter_0 : decode yX12_isLetter.2.1 0 = .ok (.iload_n 1, 1) := by decide +kernel
theorem dX12_isLetter_1 : decode yX12_isLetter.2.1 1 = .ok (.iconst 0, 1) := by decide +kernel
theorem dX12_isLetter_2 : decode yX12_isLetter.2.1 2 = .ok (.aload_n 0, 1) := by decide +kernel
theorem dX12_isLetter_3 : decode yX12_isLetter.2.1 3 = .ok (.getfield 110, 3) := by decide +kernel
theorem dX12_isLetter_6 : decode yX12_isLetter.2.1 6 = .ok (.iconst 1, 1) := by decide +kernel
theorem dX12_isLetter_7 : decode yX12_isLetter.2.1 7 = .ok (.isub, 1) := by decide +kernel
theorem dX12_isLetter_8 : decode yX12_isLetter.2.1 8 = .ok (.invokestatic 117, 3) := by decide +kernel
theorem dX12_isLetter_11 : decode yX12_isLetter.2.1 11 = .ok (.ireturn, 1) := by decide +kernel
theorem dX12_letters_0 : decode yX12_letters.2.1 0 = .ok (.iload_n 1, 1) := by decide +kernel
theorem dX12_letters_1 : decode yX12_letters.2.1 1 = .ok (.iconst 1, 1) := by decide +kernel
theorem dX12_letters_2 : decode yX12_letters.2.1 2 = .ok (.bipush 6, 2) := by decide +kernel
theorem dX12_letters_4 : decode yX12_letters.2.1 4 = .ok (.invokestatic 117, 3) := by decide +kernel
theorem dX12_letters_7 : decode yX12_letters.2.1 7 = .ok (.ifCond .ne 5, 3) := by decide +kernel
theorem dX12_letters_10 : decode yX12_letters.2.1 10 = .ok (.iconst (-1), 1) := by decide +kernel
theorem dX12_letters_11 : decode yX12_letters.2.1 11 = .ok (.ireturn, 1) := by decide +kernel
theorem dX12_letters_12 : decode yX12_letters.2.1 12 = .ok (.iconst 0, 1) := by decide +kernel
theorem dX12_letters_13 : decode yX12_letters.2.1 13 = .ok (.istore_n 2, 1) := by decide +kernel
theorem dX12_letters_14 : decode yX12_letters.2.1 14 = .ok (.iload_n 2, 1) := by decide +kernel
theorem dX12_letters_15 : decode yX12_letters.2.1 15 = .ok (.bipush 8, 2) := by decide +kernel
theorem dX12_letters_17 : decode yX12_letters.2.1 17 = .ok (.if_icmp .ge 40, 3) := by decide +kernel
theorem dX12_letters_20 : decode yX12_letters.2.1 20 = .ok (.iconst 0, 1) := by decide +kernel
theorem dX12_letters_21 : decode yX12_letters.2.1 21 = .ok (.istore_n 3, 1) := by decide +kernel
theorem dX12_letters_22 : decode yX12_letters.2.1 22 = .ok (.iload_n 3, 1) := by decide +kernel
theorem dX12_letters_23 : decode yX12_letters.2.1 23 = .ok (.aload_n 0, 1) := by decide +kernel
theorem dX12_letters_24 : decode yX12_letters.2.1 24 = .ok (.getfield 29, 3) := by decide +kernel
theorem dX12_letters_27 : decode yX12_letters.2.1 27 = .ok (.iload_n 2, 1) := by decide +kernel
theorem dX12_letters_28 : decode yX12_letters.2.1 28 = .ok (.iaload, 1) := by decide +kernel
theorem dX12_letters_29 : decode yX12_letters.2.1 29 = .ok (.if_icmp .ge 22, 3) := by decide +kernel
theorem dX12_letters_32 : decode yX12_letters.2.1 32 = .ok (.aload_n 0, 1) := by decide +kernel
theorem dX12_letters_33 : decode yX12_letters.2.1 33 = .ok (.iload_n 2, 1) := by decide +kernel
theorem dX12_letters_34 : decode yX12_letters.2.1 34 = .ok (.iload_n 3, 1) := by decide +kernel
theorem dX12_letters_35 : decode yX12_letters.2.1 35 = .ok (.invokevirtual 148, 3) := by decide +kernel
theorem dX12_letters_38 : decode yX12_letters.2.1 38 = .ok (.iload_n 1, 1) := by decide +kernel
theorem dX12_letters_39 : decode yX12_letters.2.1 39 = .ok (.if_icmp .lt 6, 3) := by decide +kernel
theorem dX12_letters_42 : decode yX12_letters.2.1 42 = .ok (.bipush (-4), 2) := by decide +kernel
theorem dX12_letters_44 : decode yX12_letters.2.1 44 = .ok (.ireturn, 1) := by decide +kernel
theorem dX12_letters_45 : decode yX12_letters.2.1 45 = .ok (.iinc 3 1, 3) := by decide +kernel
theorem dX12_letters_48 : decode yX12_letters.2.1 48 = .ok (.goto (-26), 3) := by decide +kernel
theorem dX12_letters_51 : decode yX12_letters.2.1 51 = .ok (.iinc 2 1, 3) := by decide +kernel
theorem dX12_letters_54 : decode yX12_letters.2.1 54 = .ok (.goto (-40), 3) := by decide +kernel
theorem dX12_letters_57 : decode yX12_letters.2.1 57 = .ok (.aload_n 0, 1) := by decide +kernel
theorem dX12_letters_58 : decode yX12_letters.2.1 58 = .ok (.getfield 110, 3) := by decide +kernel
theorem dX12_letters_61 : decode yX12_letters.2.1 61 = .ok (.istore_n 2, 1) := by decide +kernel
theorem dX12_letters_62 : decode yX12_letters.2.1 62 = .ok (.aload_n 0, 1) := by decide +kernel
theorem dX12_letters_63 : decode yX12_letters.2.1 63 = .ok (.iload_n 1, 1) := by decide +kernel
theorem dX12_letters_64 : decode yX12_letters.2.1 64 = .ok (.putfield 110, 3) := by decide +kernel
theorem dX12_letters_67 : decode yX12_letters.2.1 67 = .ok (.iload_n 2, 1) := by decide +kernel
theorem dX12_letters_68 : decode yX12_letters.2.1 68 = .ok (.ireturn, 1) := by decide +kernel
theorem dX12_comes_0 : decode yX12_comes.2.1 0 = .ok (.aload_n 0, 1) := by decide +kernel
theorem dX12_comes_1 : decode yX12_comes.2.1 1 = .ok (.getfield 29, 3) := by decide +kernel
theorem dX12_comes_4 : decode yX12_comes.2.1 4 = .ok (.iload_n 1, 1) := by decide +kernel
theorem dX12_comes_5 : decode yX12_comes.2.1 5 = .ok (.aload_n 0, 1) := by decide +kernel
theorem dX12_comes_6 : decode yX12_comes.2.1 6 = .ok (.getfield 151, 3) := by decide +kernel
theorem dX12_comes_9 : decode yX12_comes.2.1 9 = .ok (.iastore, 1) := by decide +kernel
theorem dX12_comes_10 : decode yX12_comes.2.1 10 = .ok (.iconst 0, 1) := by decide +kernel
theorem dX12_comes_11 : decode yX12_comes.2.1 11 = .ok (.istore 5, 2) := by decide +kernel
theorem dX12_comes_13 : decode yX12_comes.2.1 13 = .ok (.iload 5, 2) := by decide +kernel
theorem dX12_comes_15 : decode yX12_comes.2.1 15 = .ok (.aload_n 0, 1) := by decide +kernel
theorem dX12_comes_16 : decode yX12_comes.2.1 16 = .ok (.getfield 151, 3) := by decide +kernel
theorem dX12_comes_19 : decode yX12_comes.2.1 19 = .ok (.if_icmp .ge 28, 3) := by decide +kernel
theorem dX12_comes_22 : decode yX12_comes.2.1 22 = .ok (.aload_n 0, 1) := by decide +kernel
theorem dX12_comes_23 : decode yX12_comes.2.1 23 = .ok (.getfield 32, 3) := by decide +kernel
theorem dX12_comes_26 : decode yX12_comes.2.1 26 = .ok (.bipush 40, 2) := by decide +kernel
theorem dX12_comes_28 : decode yX12_comes.2.1 28 = .ok (.iload_n 1, 1) := by decide +kernel
theorem dX12_comes_29 : decode yX12_comes.2.1 29 = .ok (.imul, 1) := by decide +kernel
theorem dX12_comes_30 : decode yX12_comes.2.1 30 = .ok (.iload 5, 2) := by decide +kernel
theorem dX12_comes_32 : decode yX12_comes.2.1 32 = .ok (.iadd, 1) := by decide +kernel
theorem dX12_comes_33 : decode yX12_comes.2.1 33 = .ok (.aload_n 0, 1) := by decide +kernel
theorem dX12_comes_34 : decode yX12_comes.2.1 34 = .ok (.getfield 44, 3) := by decide +kernel
theorem dX12_comes_37 : decode yX12_comes.2.1 37 = .ok (.iload 5, 2) := by decide +kernel
theorem dX12_comes_39 : decode yX12_comes.2.1 39 = .ok (.iaload, 1) := by decide +kernel
theorem dX12_comes_40 : decode yX12_comes.2.1 40 = .ok (.iastore, 1) := by decide +kernel
theorem dX12_comes_41 : decode yX12_comes.2.1 41 = .ok (.iinc 5 1, 3) := by decide +kernel
theorem dX12_comes_44 : decode yX12_comes.2.1 44 = .ok (.goto (-31), 3) := by decide +kernel
theorem dX12_comes_47 : decode yX12_comes.2.1 47 = .ok (.aload_n 0, 1) := by decide +kernel
theorem dX12_comes_48 : decode yX12_comes.2.1 48 = .ok (.getfield 35, 3) := by decide +kernel
theorem dX12_comes_51 : decode yX12_comes.2.1 51 = .ok (.iload_n 1, 1) := by decide +kernel
theorem dX12_comes_52 : decode yX12_comes.2.1 52 = .ok (.iload_n 2, 1) := by decide +kernel
theorem dX12_comes_53 : decode yX12_comes.2.1 53 = .ok (.iastore, 1) := by decide +kernel
theorem dX12_comes_54 : decode yX12_comes.2.1 54 = .ok (.aload_n 0, 1) := by decide +kernel
theorem dX12_comes_55 : decode yX12_comes.2.1 55 = .ok (.getfield 38, 3) := by decide +kernel
theorem dX12_comes_58 : decode yX12_comes.2.1 58 = .ok (.iload_n 1, 1) := by decide +kernel
theorem dX12_comes_59 : decode yX12_comes.2.1 59 = .ok (.iload_n 3, 1) := by decide +kernel
theorem dX12_comes_60 : decode yX12_comes.2.1 60 = .ok (.iastore, 1) := by decide +kernel
theorem dX12_comes_61 : decode yX12_comes.2.1 61 = .ok (.aload_n 0, 1) := by decide +kernel
theorem dX12_comes_62 : decode yX12_comes.2.1 62 = .ok (.getfield 41, 3) := by decide +kernel
theorem dX12_comes_65 : decode yX12_comes.2.1 65 = .ok (.iload_n 1, 1) := by decide +kernel
theorem dX12_comes_66 : decode yX12_comes.2.1 66 = .ok (.iload 4, 2) := by decide +kernel
theorem dX12_comes_68 : decode yX12_comes.2.1 68 = .ok (.iastore, 1) := by decide +kernel
theorem dX12_comes_69 : decode yX12_comes.2.1 69 = .ok (.aload_n 0, 1) := by decide +kernel
theorem dX12_comes_70 : decode yX12_comes.2.1 70 = .ok (.getfield 151, 3) := by decide +kernel
theorem dX12_comes_73 : decode yX12_comes.2.1 73 = .ok (.ireturn, 1) := by decide +kernel
theorem dX12_comesToRow_0 : decode yX12_comesToRow.2.1 0 = .ok (.aload_n 0, 1) := by decide +kernel
theorem dX12_comesToRow_1 : decode yX12_comesToRow.2.1 1 = .ok (.getfield 13, 3) := by decide +kernel
theorem dX12_comesToRow_4 : decode yX12_comesToRow.2.1 4 = .ok (.iload_n 1, 1) := by decide +kernel
theorem dX12_comesToRow_5 : decode yX12_comesToRow.2.1 5 = .ok (.aload_n 0, 1) := by decide +kernel
theorem dX12_comesToRow_6 : decode yX12_comesToRow.2.1 6 = .ok (.getfield 151, 3) := by decide +kernel
theorem dX12_comesToRow_9 : decode yX12_comesToRow.2.1 9 = .ok (.iastore, 1) := by decide +kernel
theorem dX12_comesToRow_10 : decode yX12_comesToRow.2.1 10 = .ok (.iconst 0, 1) := by decide +kernel
theorem dX12_comesToRow_11 : decode yX12_comesToRow.2.1 11 = .ok (.istore_n 2, 1) := by decide +kernel
theorem dX12_comesToRow_12 : decode yX12_comesToRow.2.1 12 = .ok (.iload_n 2, 1) := by decide +kernel
theorem dX12_comesToRow_13 : decode yX12_comesToRow.2.1 13 = .ok (.bipush 40, 2) := by decide +kernel
theorem dX12_comesToRow_15 : decode yX12_comesToRow.2.1 15 = .ok (.if_icmp .ge 38, 3) := by decide +kernel
theorem dX12_comesToRow_18 : decode yX12_comesToRow.2.1 18 = .ok (.aload_n 0, 1) := by decide +kernel
theorem dX12_comesToRow_19 : decode yX12_comesToRow.2.1 19 = .ok (.getfield 16, 3) := by decide +kernel
theorem dX12_comesToRow_22 : decode yX12_comesToRow.2.1 22 = .ok (.bipush 40, 2) := by decide +kernel
theorem dX12_comesToRow_24 : decode yX12_comesToRow.2.1 24 = .ok (.iload_n 1, 1) := by decide +kernel
theorem dX12_comesToRow_25 : decode yX12_comesToRow.2.1 25 = .ok (.imul, 1) := by decide +kernel
theorem dX12_comesToRow_26 : decode yX12_comesToRow.2.1 26 = .ok (.iload_n 2, 1) := by decide +kernel
theorem dX12_comesToRow_27 : decode yX12_comesToRow.2.1 27 = .ok (.iadd, 1) := by decide +kernel
theorem dX12_comesToRow_28 : decode yX12_comesToRow.2.1 28 = .ok (.iload_n 2, 1) := by decide +kernel
theorem dX12_comesToRow_29 : decode yX12_comesToRow.2.1 29 = .ok (.aload_n 0, 1) := by decide +kernel
theorem dX12_comesToRow_30 : decode yX12_comesToRow.2.1 30 = .ok (.getfield 151, 3) := by decide +kernel
theorem dX12_comesToRow_33 : decode yX12_comesToRow.2.1 33 = .ok (.if_icmp .ge 12, 3) := by decide +kernel
theorem dX12_comesToRow_36 : decode yX12_comesToRow.2.1 36 = .ok (.aload_n 0, 1) := by decide +kernel
theorem dX12_comesToRow_37 : decode yX12_comesToRow.2.1 37 = .ok (.getfield 44, 3) := by decide +kernel
theorem dX12_comesToRow_40 : decode yX12_comesToRow.2.1 40 = .ok (.iload_n 2, 1) := by decide +kernel
theorem dX12_comesToRow_41 : decode yX12_comesToRow.2.1 41 = .ok (.iaload, 1) := by decide +kernel
theorem dX12_comesToRow_42 : decode yX12_comesToRow.2.1 42 = .ok (.goto 4, 3) := by decide +kernel
theorem dX12_comesToRow_45 : decode yX12_comesToRow.2.1 45 = .ok (.iconst 0, 1) := by decide +kernel
theorem dX12_comesToRow_46 : decode yX12_comesToRow.2.1 46 = .ok (.iastore, 1) := by decide +kernel
theorem dX12_comesToRow_47 : decode yX12_comesToRow.2.1 47 = .ok (.iinc 2 1, 3) := by decide +kernel
theorem dX12_comesToRow_50 : decode yX12_comesToRow.2.1 50 = .ok (.goto (-38), 3) := by decide +kernel
theorem dX12_comesToRow_53 : decode yX12_comesToRow.2.1 53 = .ok (.return_, 1) := by decide +kernel
theorem dX12_word_0 : decode yX12_word.2.1 0 = .ok (.iload_n 1, 1) := by decide +kernel
theorem dX12_word_1 : decode yX12_word.2.1 1 = .ok (.invokestatic 154, 3) := by decide +kernel
theorem dX12_word_4 : decode yX12_word.2.1 4 = .ok (.ifCond .eq 10, 3) := by decide +kernel
theorem dX12_word_7 : decode yX12_word.2.1 7 = .ok (.iload_n 2, 1) := by decide +kernel
theorem dX12_word_8 : decode yX12_word.2.1 8 = .ok (.invokestatic 130, 3) := by decide +kernel
theorem dX12_word_11 : decode yX12_word.2.1 11 = .ok (.ifCond .ne 5, 3) := by decide +kernel
theorem dX12_word_14 : decode yX12_word.2.1 14 = .ok (.iconst (-1), 1) := by decide +kernel
theorem dX12_word_15 : decode yX12_word.2.1 15 = .ok (.ireturn, 1) := by decide +kernel
theorem dX12_word_16 : decode yX12_word.2.1 16 = .ok (.aload_n 0, 1) := by decide +kernel
theorem dX12_word_17 : decode yX12_word.2.1 17 = .ok (.getfield 13, 3) := by decide +kernel
theorem dX12_word_20 : decode yX12_word.2.1 20 = .ok (.iload_n 2, 1) := by decide +kernel
theorem dX12_word_21 : decode yX12_word.2.1 21 = .ok (.iaload, 1) := by decide +kernel
theorem dX12_word_22 : decode yX12_word.2.1 22 = .ok (.ifCond .ge 9, 3) := by decide +kernel
theorem dX12_word_25 : decode yX12_word.2.1 25 = .ok (.aload_n 0, 1) := by decide +kernel
theorem dX12_word_26 : decode yX12_word.2.1 26 = .ok (.iconst 1, 1) := by decide +kernel
theorem dX12_word_27 : decode yX12_word.2.1 27 = .ok (.invokevirtual 134, 3) := by decide +kernel
theorem dX12_word_30 : decode yX12_word.2.1 30 = .ok (.ireturn, 1) := by decide +kernel
theorem dX12_word_31 : decode yX12_word.2.1 31 = .ok (.iconst 1, 1) := by decide +kernel
theorem dX12_word_32 : decode yX12_word.2.1 32 = .ok (.istore_n 3, 1) := by decide +kernel
theorem dX12_word_33 : decode yX12_word.2.1 33 = .ok (.iconst 0, 1) := by decide +kernel
theorem dX12_word_34 : decode yX12_word.2.1 34 = .ok (.istore 4, 2) := by decide +kernel
theorem dX12_word_36 : decode yX12_word.2.1 36 = .ok (.iload 4, 2) := by decide +kernel
theorem dX12_word_38 : decode yX12_word.2.1 38 = .ok (.aload_n 0, 1) := by decide +kernel
theorem dX12_word_39 : decode yX12_word.2.1 39 = .ok (.getfield 13, 3) := by decide +kernel
theorem dX12_word_42 : decode yX12_word.2.1 42 = .ok (.iload_n 2, 1) := by decide +kernel
theorem dX12_word_43 : decode yX12_word.2.1 43 = .ok (.iaload, 1) := by decide +kernel
theorem dX12_word_44 : decode yX12_word.2.1 44 = .ok (.if_icmp .ge 47, 3) := by decide +kernel
theorem dX12_word_47 : decode yX12_word.2.1 47 = .ok (.aload_n 0, 1) := by decide +kernel
theorem dX12_word_48 : decode yX12_word.2.1 48 = .ok (.getfield 44, 3) := by decide +kernel
theorem dX12_word_51 : decode yX12_word.2.1 51 = .ok (.iload 4, 2) := by decide +kernel
theorem dX12_word_53 : decode yX12_word.2.1 53 = .ok (.aload_n 0, 1) := by decide +kernel
theorem dX12_word_54 : decode yX12_word.2.1 54 = .ok (.iload_n 2, 1) := by decide +kernel
theorem dX12_word_55 : decode yX12_word.2.1 55 = .ok (.iload 4, 2) := by decide +kernel
theorem dX12_word_57 : decode yX12_word.2.1 57 = .ok (.invokevirtual 138, 3) := by decide +kernel
theorem dX12_word_60 : decode yX12_word.2.1 60 = .ok (.iastore, 1) := by decide +kernel
theorem dX12_word_61 : decode yX12_word.2.1 61 = .ok (.iload_n 3, 1) := by decide +kernel
theorem dX12_word_62 : decode yX12_word.2.1 62 = .ok (.ifCond .eq 21, 3) := by decide +kernel
theorem dX12_word_65 : decode yX12_word.2.1 65 = .ok (.aload_n 0, 1) := by decide +kernel
theorem dX12_word_66 : decode yX12_word.2.1 66 = .ok (.aload_n 0, 1) := by decide +kernel
theorem dX12_word_67 : decode yX12_word.2.1 67 = .ok (.getfield 44, 3) := by decide +kernel
theorem dX12_word_70 : decode yX12_word.2.1 70 = .ok (.iload 4, 2) := by decide +kernel
theorem dX12_word_72 : decode yX12_word.2.1 72 = .ok (.iaload, 1) := by decide +kernel
theorem dX12_word_73 : decode yX12_word.2.1 73 = .ok (.invokevirtual 157, 3) := by decide +kernel
theorem dX12_word_76 : decode yX12_word.2.1 76 = .ok (.ifCond .eq 7, 3) := by decide +kernel
theorem dX12_word_79 : decode yX12_word.2.1 79 = .ok (.iconst 1, 1) := by decide +kernel
theorem dX12_word_80 : decode yX12_word.2.1 80 = .ok (.goto 4, 3) := by decide +kernel
theorem dX12_word_83 : decode yX12_word.2.1 83 = .ok (.iconst 0, 1) := by decide +kernel
theorem dX12_word_84 : decode yX12_word.2.1 84 = .ok (.istore_n 3, 1) := by decide +kernel
theorem dX12_word_85 : decode yX12_word.2.1 85 = .ok (.iinc 4 1, 3) := by decide +kernel
theorem dX12_word_88 : decode yX12_word.2.1 88 = .ok (.goto (-52), 3) := by decide +kernel
theorem dX12_word_91 : decode yX12_word.2.1 91 = .ok (.iload_n 3, 1) := by decide +kernel
theorem dX12_word_92 : decode yX12_word.2.1 92 = .ok (.ifCond .ne 9, 3) := by decide +kernel
theorem dX12_word_95 : decode yX12_word.2.1 95 = .ok (.aload_n 0, 1) := by decide +kernel
theorem dX12_word_96 : decode yX12_word.2.1 96 = .ok (.iconst 3, 1) := by decide +kernel
theorem dX12_word_97 : decode yX12_word.2.1 97 = .ok (.invokevirtual 134, 3) := by decide +kernel
theorem dX12_word_100 : decode yX12_word.2.1 100 = .ok (.ireturn, 1) := by decide +kernel
theorem dX12_word_101 : decode yX12_word.2.1 101 = .ok (.aload_n 0, 1) := by decide +kernel
theorem dX12_word_102 : decode yX12_word.2.1 102 = .ok (.aload_n 0, 1) := by decide +kernel
theorem dX12_word_103 : decode yX12_word.2.1 103 = .ok (.getfield 13, 3) := by decide +kernel
theorem dX12_word_106 : decode yX12_word.2.1 106 = .ok (.iload_n 2, 1) := by decide +kernel
theorem dX12_word_107 : decode yX12_word.2.1 107 = .ok (.iaload, 1) := by decide +kernel
theorem dX12_word_108 : decode yX12_word.2.1 108 = .ok (.putfield 151, 3) := by decide +kernel
theorem dX12_word_111 : decode yX12_word.2.1 111 = .ok (.aload_n 0, 1) := by decide +kernel
theorem dX12_word_112 : decode yX12_word.2.1 112 = .ok (.iload_n 1, 1) := by decide +kernel
theorem dX12_word_113 : decode yX12_word.2.1 113 = .ok (.iconst 0, 1) := by decide +kernel
theorem dX12_word_114 : decode yX12_word.2.1 114 = .ok (.iconst 0, 1) := by decide +kernel
theorem dX12_word_115 : decode yX12_word.2.1 115 = .ok (.iconst 0, 1) := by decide +kernel
theorem dX12_word_116 : decode yX12_word.2.1 116 = .ok (.invokevirtual 160, 3) := by decide +kernel
theorem dX12_word_119 : decode yX12_word.2.1 119 = .ok (.ireturn, 1) := by decide +kernel
theorem dX12_comesOn_0 : decode yX12_comesOn.2.1 0 = .ok (.aload_n 0, 1) := by decide +kernel
theorem dX12_comesOn_1 : decode yX12_comesOn.2.1 1 = .ok (.getfield 151, 3) := by decide +kernel
theorem dX12_comesOn_4 : decode yX12_comesOn.2.1 4 = .ok (.bipush 40, 2) := by decide +kernel
theorem dX12_comesOn_6 : decode yX12_comesOn.2.1 6 = .ok (.if_icmp .ge 26, 3) := by decide +kernel
theorem dX12_comesOn_9 : decode yX12_comesOn.2.1 9 = .ok (.aload_n 0, 1) := by decide +kernel
theorem dX12_comesOn_10 : decode yX12_comesOn.2.1 10 = .ok (.getfield 44, 3) := by decide +kernel
theorem dX12_comesOn_13 : decode yX12_comesOn.2.1 13 = .ok (.aload_n 0, 1) := by decide +kernel
theorem dX12_comesOn_14 : decode yX12_comesOn.2.1 14 = .ok (.getfield 151, 3) := by decide +kernel
theorem dX12_comesOn_17 : decode yX12_comesOn.2.1 17 = .ok (.iload_n 1, 1) := by decide +kernel
theorem dX12_comesOn_18 : decode yX12_comesOn.2.1 18 = .ok (.iastore, 1) := by decide +kernel
theorem dX12_comesOn_19 : decode yX12_comesOn.2.1 19 = .ok (.aload_n 0, 1) := by decide +kernel
theorem dX12_comesOn_20 : decode yX12_comesOn.2.1 20 = .ok (.dup, 1) := by decide +kernel
theorem dX12_comesOn_21 : decode yX12_comesOn.2.1 21 = .ok (.getfield 151, 3) := by decide +kernel
theorem dX12_comesOn_24 : decode yX12_comesOn.2.1 24 = .ok (.iconst 1, 1) := by decide +kernel
theorem dX12_comesOn_25 : decode yX12_comesOn.2.1 25 = .ok (.iadd, 1) := by decide +kernel
theorem dX12_comesOn_26 : decode yX12_comesOn.2.1 26 = .ok (.putfield 151, 3) := by decide +kernel
theorem dX12_comesOn_29 : decode yX12_comesOn.2.1 29 = .ok (.goto 8, 3) := by decide +kernel
theorem dX12_comesOn_32 : decode yX12_comesOn.2.1 32 = .ok (.aload_n 0, 1) := by decide +kernel
theorem dX12_comesOn_33 : decode yX12_comesOn.2.1 33 = .ok (.iconst 1, 1) := by decide +kernel
theorem dX12_comesOn_34 : decode yX12_comesOn.2.1 34 = .ok (.putfield 164, 3) := by decide +kernel
theorem dX12_comesOn_37 : decode yX12_comesOn.2.1 37 = .ok (.return_, 1) := by decide +kernel
theorem dX12_comesAgain_0 : decode yX12_comesAgain.2.1 0 = .ok (.aload_n 0, 1) := by decide +kernel
theorem dX12_comesAgain_1 : decode yX12_comesAgain.2.1 1 = .ok (.getfield 151, 3) := by decide +kernel
theorem dX12_comesAgain_4 : decode yX12_comesAgain.2.1 4 = .ok (.istore_n 3, 1) := by decide +kernel
theorem dX12_comesAgain_5 : decode yX12_comesAgain.2.1 5 = .ok (.iconst 0, 1) := by decide +kernel
theorem dX12_comesAgain_6 : decode yX12_comesAgain.2.1 6 = .ok (.istore 4, 2) := by decide +kernel
theorem dX12_comesAgain_8 : decode yX12_comesAgain.2.1 8 = .ok (.iload 4, 2) := by decide +kernel
theorem dX12_comesAgain_10 : decode yX12_comesAgain.2.1 10 = .ok (.iload_n 2, 1) := by decide +kernel
theorem dX12_comesAgain_11 : decode yX12_comesAgain.2.1 11 = .ok (.if_icmp .ge 35, 3) := by decide +kernel
theorem dX12_comesAgain_14 : decode yX12_comesAgain.2.1 14 = .ok (.iload_n 1, 1) := by decide +kernel
theorem dX12_comesAgain_15 : decode yX12_comesAgain.2.1 15 = .ok (.istore 5, 2) := by decide +kernel
theorem dX12_comesAgain_17 : decode yX12_comesAgain.2.1 17 = .ok (.iload 5, 2) := by decide +kernel
theorem dX12_comesAgain_19 : decode yX12_comesAgain.2.1 19 = .ok (.iload_n 3, 1) := by decide +kernel
theorem dX12_comesAgain_20 : decode yX12_comesAgain.2.1 20 = .ok (.if_icmp .ge 20, 3) := by decide +kernel
theorem dX12_comesAgain_23 : decode yX12_comesAgain.2.1 23 = .ok (.aload_n 0, 1) := by decide +kernel
theorem dX12_comesAgain_24 : decode yX12_comesAgain.2.1 24 = .ok (.aload_n 0, 1) := by decide +kernel
theorem dX12_comesAgain_25 : decode yX12_comesAgain.2.1 25 = .ok (.getfield 44, 3) := by decide +kernel
theorem dX12_comesAgain_28 : decode yX12_comesAgain.2.1 28 = .ok (.iload 5, 2) := by decide +kernel
theorem dX12_comesAgain_30 : decode yX12_comesAgain.2.1 30 = .ok (.iaload, 1) := by decide +kernel
theorem dX12_comesAgain_31 : decode yX12_comesAgain.2.1 31 = .ok (.invokevirtual 168, 3) := by decide +kernel
theorem dX12_comesAgain_34 : decode yX12_comesAgain.2.1 34 = .ok (.iinc 5 1, 3) := by decide +kernel
theorem dX12_comesAgain_37 : decode yX12_comesAgain.2.1 37 = .ok (.goto (-20), 3) := by decide +kernel
theorem dX12_comesAgain_40 : decode yX12_comesAgain.2.1 40 = .ok (.iinc 4 1, 3) := by decide +kernel
theorem dX12_comesAgain_43 : decode yX12_comesAgain.2.1 43 = .ok (.goto (-35), 3) := by decide +kernel
theorem dX12_comesAgain_46 : decode yX12_comesAgain.2.1 46 = .ok (.return_, 1) := by decide +kernel
theorem dX12_figureAt_0 : decode yX12_figureAt.2.1 0 = .ok (.aload_n 0, 1) := by decide +kernel
theorem dX12_figureAt_1 : decode yX12_figureAt.2.1 1 = .ok (.iload_n 1, 1) := by decide +kernel
theorem dX12_figureAt_2 : decode yX12_figureAt.2.1 2 = .ok (.iload_n 2, 1) := by decide +kernel
theorem dX12_figureAt_3 : decode yX12_figureAt.2.1 3 = .ok (.invokevirtual 172, 3) := by decide +kernel
theorem dX12_figureAt_6 : decode yX12_figureAt.2.1 6 = .ok (.bipush 49, 2) := by decide +kernel
theorem dX12_figureAt_8 : decode yX12_figureAt.2.1 8 = .ok (.bipush 57, 2) := by decide +kernel
theorem dX12_figureAt_10 : decode yX12_figureAt.2.1 10 = .ok (.invokestatic 117, 3) := by decide +kernel
theorem dX12_figureAt_13 : decode yX12_figureAt.2.1 13 = .ok (.ifCond .eq 15, 3) := by decide +kernel
theorem dX12_figureAt_16 : decode yX12_figureAt.2.1 16 = .ok (.aload_n 0, 1) := by decide +kernel
theorem dX12_figureAt_17 : decode yX12_figureAt.2.1 17 = .ok (.iload_n 1, 1) := by decide +kernel
theorem dX12_figureAt_18 : decode yX12_figureAt.2.1 18 = .ok (.iload_n 2, 1) := by decide +kernel
theorem dX12_figureAt_19 : decode yX12_figureAt.2.1 19 = .ok (.invokevirtual 172, 3) := by decide +kernel
theorem dX12_figureAt_22 : decode yX12_figureAt.2.1 22 = .ok (.bipush 48, 2) := by decide +kernel
theorem dX12_figureAt_24 : decode yX12_figureAt.2.1 24 = .ok (.isub, 1) := by decide +kernel
theorem dX12_figureAt_25 : decode yX12_figureAt.2.1 25 = .ok (.goto 4, 3) := by decide +kernel
theorem dX12_figureAt_28 : decode yX12_figureAt.2.1 28 = .ok (.iconst 0, 1) := by decide +kernel
theorem dX12_figureAt_29 : decode yX12_figureAt.2.1 29 = .ok (.ireturn, 1) := by decide +kernel
theorem dX12_faultOf_0 : decode yX12_faultOf.2.1 0 = .ok (.aload_n 0, 1) := by decide +kernel
theorem dX12_faultOf_1 : decode yX12_faultOf.2.1 1 = .ok (.iconst 0, 1) := by decide +kernel
theorem dX12_faultOf_2 : decode yX12_faultOf.2.1 2 = .ok (.putfield 151, 3) := by decide +kernel
theorem dX12_faultOf_5 : decode yX12_faultOf.2.1 5 = .ok (.aload_n 0, 1) := by decide +kernel
theorem dX12_faultOf_6 : decode yX12_faultOf.2.1 6 = .ok (.iconst 0, 1) := by decide +kernel
theorem dX12_faultOf_7 : decode yX12_faultOf.2.1 7 = .ok (.putfield 164, 3) := by decide +kernel
theorem dX12_faultOf_10 : decode yX12_faultOf.2.1 10 = .ok (.iconst 0, 1) := by decide +kernel
theorem dX12_faultOf_11 : decode yX12_faultOf.2.1 11 = .ok (.istore_n 2, 1) := by decide +kernel
theorem dX12_faultOf_12 : decode yX12_faultOf.2.1 12 = .ok (.aload_n 0, 1) := by decide +kernel
theorem dX12_faultOf_13 : decode yX12_faultOf.2.1 13 = .ok (.getfield 50, 3) := by decide +kernel
theorem dX12_faultOf_16 : decode yX12_faultOf.2.1 16 = .ok (.iconst 0, 1) := by decide +kernel
theorem dX12_faultOf_17 : decode yX12_faultOf.2.1 17 = .ok (.iconst 0, 1) := by decide +kernel
theorem dX12_faultOf_18 : decode yX12_faultOf.2.1 18 = .ok (.iastore, 1) := by decide +kernel
theorem dX12_faultOf_19 : decode yX12_faultOf.2.1 19 = .ok (.iconst 0, 1) := by decide +kernel
theorem dX12_faultOf_20 : decode yX12_faultOf.2.1 20 = .ok (.istore_n 3, 1) := by decide +kernel
theorem dX12_faultOf_21 : decode yX12_faultOf.2.1 21 = .ok (.aload_n 0, 1) := by decide +kernel
theorem dX12_faultOf_22 : decode yX12_faultOf.2.1 22 = .ok (.iload_n 1, 1) := by decide +kernel
theorem dX12_faultOf_23 : decode yX12_faultOf.2.1 23 = .ok (.iload_n 3, 1) := by decide +kernel
theorem dX12_faultOf_24 : decode yX12_faultOf.2.1 24 = .ok (.invokevirtual 172, 3) := by decide +kernel
theorem dX12_faultOf_27 : decode yX12_faultOf.2.1 27 = .ok (.bipush 32, 2) := by decide +kernel
theorem dX12_faultOf_29 : decode yX12_faultOf.2.1 29 = .ok (.if_icmp .ne 9, 3) := by decide +kernel
theorem dX12_faultOf_32 : decode yX12_faultOf.2.1 32 = .ok (.iinc 3 1, 3) := by decide +kernel
theorem dX12_faultOf_35 : decode yX12_faultOf.2.1 35 = .ok (.goto (-14), 3) := by decide +kernel
theorem dX12_faultOf_38 : decode yX12_faultOf.2.1 38 = .ok (.iconst 1, 1) := by decide +kernel
theorem dX12_faultOf_39 : decode yX12_faultOf.2.1 39 = .ok (.istore 4, 2) := by decide +kernel
theorem dX12_faultOf_41 : decode yX12_faultOf.2.1 41 = .ok (.iload_n 3, 1) := by decide +kernel
theorem dX12_faultOf_42 : decode yX12_faultOf.2.1 42 = .ok (.aload_n 0, 1) := by decide +kernel
theorem dX12_faultOf_43 : decode yX12_faultOf.2.1 43 = .ok (.getfield 22, 3) := by decide +kernel
theorem dX12_faultOf_46 : decode yX12_faultOf.2.1 46 = .ok (.iload_n 1, 1) := by decide +kernel
theorem dX12_faultOf_47 : decode yX12_faultOf.2.1 47 = .ok (.iaload, 1) := by decide +kernel
theorem dX12_faultOf_48 : decode yX12_faultOf.2.1 48 = .ok (.if_icmp .ge 191, 3) := by decide +kernel
theorem dX12_faultOf_51 : decode yX12_faultOf.2.1 51 = .ok (.iload 4, 2) := by decide +kernel
theorem dX12_faultOf_53 : decode yX12_faultOf.2.1 53 = .ok (.ifCond .eq 186, 3) := by decide +kernel
theorem dX12_faultOf_56 : decode yX12_faultOf.2.1 56 = .ok (.aload_n 0, 1) := by decide +kernel
theorem dX12_faultOf_57 : decode yX12_faultOf.2.1 57 = .ok (.iload_n 1, 1) := by decide +kernel
theorem dX12_faultOf_58 : decode yX12_faultOf.2.1 58 = .ok (.iload_n 3, 1) := by decide +kernel
theorem dX12_faultOf_59 : decode yX12_faultOf.2.1 59 = .ok (.invokevirtual 172, 3) := by decide +kernel
theorem dX12_faultOf_62 : decode yX12_faultOf.2.1 62 = .ok (.istore 5, 2) := by decide +kernel
theorem dX12_faultOf_64 : decode yX12_faultOf.2.1 64 = .ok (.aload_n 0, 1) := by decide +kernel
theorem dX12_faultOf_65 : decode yX12_faultOf.2.1 65 = .ok (.getfield 151, 3) := by decide +kernel
theorem dX12_faultOf_68 : decode yX12_faultOf.2.1 68 = .ok (.istore 6, 2) := by decide +kernel
theorem dX12_faultOf_70 : decode yX12_faultOf.2.1 70 = .ok (.iload 5, 2) := by decide +kernel
theorem dX12_faultOf_72 : decode yX12_faultOf.2.1 72 = .ok (.bipush 40, 2) := by decide +kernel
theorem dX12_faultOf_74 : decode yX12_faultOf.2.1 74 = .ok (.if_icmp .ne 34, 3) := by decide +kernel
theorem dX12_faultOf_77 : decode yX12_faultOf.2.1 77 = .ok (.iload_n 2, 1) := by decide +kernel
theorem dX12_faultOf_78 : decode yX12_faultOf.2.1 78 = .ok (.iconst 4, 1) := by decide +kernel
theorem dX12_faultOf_79 : decode yX12_faultOf.2.1 79 = .ok (.if_icmp .ge 29, 3) := by decide +kernel
theorem dX12_faultOf_82 : decode yX12_faultOf.2.1 82 = .ok (.iinc 2 1, 3) := by decide +kernel
theorem dX12_faultOf_85 : decode yX12_faultOf.2.1 85 = .ok (.aload_n 0, 1) := by decide +kernel
theorem dX12_faultOf_86 : decode yX12_faultOf.2.1 86 = .ok (.getfield 47, 3) := by decide +kernel
theorem dX12_faultOf_89 : decode yX12_faultOf.2.1 89 = .ok (.iload_n 2, 1) := by decide +kernel
theorem dX12_faultOf_90 : decode yX12_faultOf.2.1 90 = .ok (.aload_n 0, 1) := by decide +kernel
theorem dX12_faultOf_91 : decode yX12_faultOf.2.1 91 = .ok (.getfield 151, 3) := by decide +kernel
theorem dX12_faultOf_94 : decode yX12_faultOf.2.1 94 = .ok (.iastore, 1) := by decide +kernel
theorem dX12_faultOf_95 : decode yX12_faultOf.2.1 95 = .ok (.aload_n 0, 1) := by decide +kernel
theorem dX12_faultOf_96 : decode yX12_faultOf.2.1 96 = .ok (.getfield 50, 3) := by decide +kernel
theorem dX12_faultOf_99 : decode yX12_faultOf.2.1 99 = .ok (.iload_n 2, 1) := by decide +kernel
theorem dX12_faultOf_100 : decode yX12_faultOf.2.1 100 = .ok (.iconst 0, 1) := by decide +kernel
theorem dX12_faultOf_101 : decode yX12_faultOf.2.1 101 = .ok (.iastore, 1) := by decide +kernel
theorem dX12_faultOf_102 : decode yX12_faultOf.2.1 102 = .ok (.iinc 3 1, 3) := by decide +kernel
theorem dX12_faultOf_105 : decode yX12_faultOf.2.1 105 = .ok (.goto 131, 3) := by decide +kernel
theorem dX12_faultOf_108 : decode yX12_faultOf.2.1 108 = .ok (.iload 5, 2) := by decide +kernel
theorem dX12_faultOf_110 : decode yX12_faultOf.2.1 110 = .ok (.bipush 41, 2) := by decide +kernel
theorem dX12_faultOf_112 : decode yX12_faultOf.2.1 112 = .ok (.if_icmp .ne 16, 3) := by decide +kernel
theorem dX12_faultOf_115 : decode yX12_faultOf.2.1 115 = .ok (.iload_n 2, 1) := by decide +kernel
theorem dX12_faultOf_116 : decode yX12_faultOf.2.1 116 = .ok (.ifCond .le 12, 3) := by decide +kernel
theorem dX12_faultOf_119 : decode yX12_faultOf.2.1 119 = .ok (.aload_n 0, 1) := by decide +kernel
theorem dX12_faultOf_120 : decode yX12_faultOf.2.1 120 = .ok (.getfield 50, 3) := by decide +kernel
theorem dX12_faultOf_123 : decode yX12_faultOf.2.1 123 = .ok (.iload_n 2, 1) := by decide +kernel
theorem dX12_faultOf_124 : decode yX12_faultOf.2.1 124 = .ok (.iaload, 1) := by decide +kernel
theorem dX12_faultOf_125 : decode yX12_faultOf.2.1 125 = .ok (.ifCond .gt 15, 3) := by decide +kernel
theorem dX12_faultOf_128 : decode yX12_faultOf.2.1 128 = .ok (.aload_n 0, 1) := by decide +kernel
theorem dX12_faultOf_129 : decode yX12_faultOf.2.1 129 = .ok (.iload 5, 2) := by decide +kernel
theorem dX12_faultOf_131 : decode yX12_faultOf.2.1 131 = .ok (.bipush 97, 2) := by decide +kernel
theorem dX12_faultOf_133 : decode yX12_faultOf.2.1 133 = .ok (.isub, 1) := by decide +kernel
theorem dX12_faultOf_134 : decode yX12_faultOf.2.1 134 = .ok (.invokevirtual 157, 3) := by decide +kernel
theorem dX12_faultOf_137 : decode yX12_faultOf.2.1 137 = .ok (.ifCond .eq 80, 3) := by decide +kernel
theorem dX12_faultOf_140 : decode yX12_faultOf.2.1 140 = .ok (.iload 5, 2) := by decide +kernel
theorem dX12_faultOf_142 : decode yX12_faultOf.2.1 142 = .ok (.bipush 41, 2) := by decide +kernel
theorem dX12_faultOf_144 : decode yX12_faultOf.2.1 144 = .ok (.if_icmp .ne 17, 3) := by decide +kernel
theorem dX12_faultOf_147 : decode yX12_faultOf.2.1 147 = .ok (.aload_n 0, 1) := by decide +kernel
theorem dX12_faultOf_148 : decode yX12_faultOf.2.1 148 = .ok (.getfield 47, 3) := by decide +kernel
theorem dX12_faultOf_151 : decode yX12_faultOf.2.1 151 = .ok (.iload_n 2, 1) := by decide +kernel
theorem dX12_faultOf_152 : decode yX12_faultOf.2.1 152 = .ok (.iaload, 1) := by decide +kernel
theorem dX12_faultOf_153 : decode yX12_faultOf.2.1 153 = .ok (.istore 6, 2) := by decide +kernel
theorem dX12_faultOf_155 : decode yX12_faultOf.2.1 155 = .ok (.iinc 2 (-1), 3) := by decide +kernel
theorem dX12_faultOf_158 : decode yX12_faultOf.2.1 158 = .ok (.goto 12, 3) := by decide +kernel
theorem dX12_faultOf_161 : decode yX12_faultOf.2.1 161 = .ok (.aload_n 0, 1) := by decide +kernel
theorem dX12_faultOf_162 : decode yX12_faultOf.2.1 162 = .ok (.iload 5, 2) := by decide +kernel
theorem dX12_faultOf_164 : decode yX12_faultOf.2.1 164 = .ok (.bipush 97, 2) := by decide +kernel
theorem dX12_faultOf_166 : decode yX12_faultOf.2.1 166 = .ok (.isub, 1) := by decide +kernel
theorem dX12_faultOf_167 : decode yX12_faultOf.2.1 167 = .ok (.invokevirtual 168, 3) := by decide +kernel
theorem dX12_faultOf_170 : decode yX12_faultOf.2.1 170 = .ok (.aload_n 0, 1) := by decide +kernel
theorem dX12_faultOf_171 : decode yX12_faultOf.2.1 171 = .ok (.getfield 50, 3) := by decide +kernel
theorem dX12_faultOf_174 : decode yX12_faultOf.2.1 174 = .ok (.iload_n 2, 1) := by decide +kernel
theorem dX12_faultOf_175 : decode yX12_faultOf.2.1 175 = .ok (.dup2, 1) := by decide +kernel
theorem dX12_faultOf_176 : decode yX12_faultOf.2.1 176 = .ok (.iaload, 1) := by decide +kernel
theorem dX12_faultOf_177 : decode yX12_faultOf.2.1 177 = .ok (.iconst 1, 1) := by decide +kernel
theorem dX12_faultOf_178 : decode yX12_faultOf.2.1 178 = .ok (.iadd, 1) := by decide +kernel
theorem dX12_faultOf_179 : decode yX12_faultOf.2.1 179 = .ok (.iastore, 1) := by decide +kernel
theorem dX12_faultOf_180 : decode yX12_faultOf.2.1 180 = .ok (.iinc 3 1, 3) := by decide +kernel
theorem dX12_faultOf_183 : decode yX12_faultOf.2.1 183 = .ok (.aload_n 0, 1) := by decide +kernel
theorem dX12_faultOf_184 : decode yX12_faultOf.2.1 184 = .ok (.iload_n 1, 1) := by decide +kernel
theorem dX12_faultOf_185 : decode yX12_faultOf.2.1 185 = .ok (.iload_n 3, 1) := by decide +kernel
theorem dX12_faultOf_186 : decode yX12_faultOf.2.1 186 = .ok (.invokevirtual 175, 3) := by decide +kernel
theorem dX12_faultOf_189 : decode yX12_faultOf.2.1 189 = .ok (.istore 7, 2) := by decide +kernel
theorem dX12_faultOf_191 : decode yX12_faultOf.2.1 191 = .ok (.iload_n 3, 1) := by decide +kernel
theorem dX12_faultOf_192 : decode yX12_faultOf.2.1 192 = .ok (.iload 7, 2) := by decide +kernel
theorem dX12_faultOf_194 : decode yX12_faultOf.2.1 194 = .ok (.ifCond .le 7, 3) := by decide +kernel
theorem dX12_faultOf_197 : decode yX12_faultOf.2.1 197 = .ok (.iconst 1, 1) := by decide +kernel
theorem dX12_faultOf_198 : decode yX12_faultOf.2.1 198 = .ok (.goto 4, 3) := by decide +kernel
theorem dX12_faultOf_201 : decode yX12_faultOf.2.1 201 = .ok (.iconst 0, 1) := by decide +kernel
theorem dX12_faultOf_202 : decode yX12_faultOf.2.1 202 = .ok (.iadd, 1) := by decide +kernel
theorem dX12_faultOf_203 : decode yX12_faultOf.2.1 203 = .ok (.istore_n 3, 1) := by decide +kernel
theorem dX12_faultOf_204 : decode yX12_faultOf.2.1 204 = .ok (.aload_n 0, 1) := by decide +kernel
theorem dX12_faultOf_205 : decode yX12_faultOf.2.1 205 = .ok (.iload 6, 2) := by decide +kernel
theorem dX12_faultOf_207 : decode yX12_faultOf.2.1 207 = .ok (.iload 7, 2) := by decide +kernel
theorem dX12_faultOf_209 : decode yX12_faultOf.2.1 209 = .ok (.iconst 1, 1) := by decide +kernel
theorem dX12_faultOf_210 : decode yX12_faultOf.2.1 210 = .ok (.isub, 1) := by decide +kernel
theorem dX12_faultOf_211 : decode yX12_faultOf.2.1 211 = .ok (.invokevirtual 178, 3) := by decide +kernel
theorem dX12_faultOf_214 : decode yX12_faultOf.2.1 214 = .ok (.goto 22, 3) := by decide +kernel
theorem dX12_faultOf_217 : decode yX12_faultOf.2.1 217 = .ok (.iload 5, 2) := by decide +kernel
theorem dX12_faultOf_219 : decode yX12_faultOf.2.1 219 = .ok (.bipush 32, 2) := by decide +kernel
theorem dX12_faultOf_221 : decode yX12_faultOf.2.1 221 = .ok (.if_icmp .ne 13, 3) := by decide +kernel
theorem dX12_faultOf_224 : decode yX12_faultOf.2.1 224 = .ok (.iload_n 2, 1) := by decide +kernel
theorem dX12_faultOf_225 : decode yX12_faultOf.2.1 225 = .ok (.ifCond .ne 9, 3) := by decide +kernel
theorem dX12_faultOf_228 : decode yX12_faultOf.2.1 228 = .ok (.iconst 0, 1) := by decide +kernel
theorem dX12_faultOf_229 : decode yX12_faultOf.2.1 229 = .ok (.istore 4, 2) := by decide +kernel
theorem dX12_faultOf_231 : decode yX12_faultOf.2.1 231 = .ok (.goto 5, 3) := by decide +kernel
theorem dX12_faultOf_234 : decode yX12_faultOf.2.1 234 = .ok (.iload_n 3, 1) := by decide +kernel
theorem dX12_faultOf_235 : decode yX12_faultOf.2.1 235 = .ok (.ireturn, 1) := by decide +kernel
theorem dX12_faultOf_236 : decode yX12_faultOf.2.1 236 = .ok (.goto (-195), 3) := by decide +kernel
theorem dX12_faultOf_239 : decode yX12_faultOf.2.1 239 = .ok (.aload_n 0, 1) := by decide +kernel
theorem dX12_faultOf_240 : decode yX12_faultOf.2.1 240 = .ok (.iload_n 1, 1) := by decide +kernel
theorem dX12_faultOf_241 : decode yX12_faultOf.2.1 241 = .ok (.iload_n 3, 1) := by decide +kernel
theorem dX12_faultOf_242 : decode yX12_faultOf.2.1 242 = .ok (.invokevirtual 172, 3) := by decide +kernel
theorem dX12_faultOf_245 : decode yX12_faultOf.2.1 245 = .ok (.bipush 32, 2) := by decide +kernel
theorem dX12_faultOf_247 : decode yX12_faultOf.2.1 247 = .ok (.if_icmp .ne 9, 3) := by decide +kernel
theorem dX12_faultOf_250 : decode yX12_faultOf.2.1 250 = .ok (.iinc 3 1, 3) := by decide +kernel
theorem dX12_faultOf_253 : decode yX12_faultOf.2.1 253 = .ok (.goto (-14), 3) := by decide +kernel
theorem dX12_faultOf_256 : decode yX12_faultOf.2.1 256 = .ok (.iload_n 3, 1) := by decide +kernel
theorem dX12_faultOf_257 : decode yX12_faultOf.2.1 257 = .ok (.aload_n 0, 1) := by decide +kernel
theorem dX12_faultOf_258 : decode yX12_faultOf.2.1 258 = .ok (.getfield 22, 3) := by decide +kernel
theorem dX12_faultOf_261 : decode yX12_faultOf.2.1 261 = .ok (.iload_n 1, 1) := by decide +kernel
theorem dX12_faultOf_262 : decode yX12_faultOf.2.1 262 = .ok (.iaload, 1) := by decide +kernel
theorem dX12_faultOf_263 : decode yX12_faultOf.2.1 263 = .ok (.if_icmp .lt 7, 3) := by decide +kernel
theorem dX12_faultOf_266 : decode yX12_faultOf.2.1 266 = .ok (.iload_n 2, 1) := by decide +kernel
theorem dX12_faultOf_267 : decode yX12_faultOf.2.1 267 = .ok (.ifCond .le 7, 3) := by decide +kernel
theorem dX12_faultOf_270 : decode yX12_faultOf.2.1 270 = .ok (.iload_n 3, 1) := by decide +kernel
theorem dX12_faultOf_271 : decode yX12_faultOf.2.1 271 = .ok (.goto 5, 3) := by decide +kernel
theorem dX12_faultOf_274 : decode yX12_faultOf.2.1 274 = .ok (.bipush (-9), 2) := by decide +kernel
theorem dX12_faultOf_276 : decode yX12_faultOf.2.1 276 = .ok (.ireturn, 1) := by decide +kernel
theorem dX12_fault_0 : decode yX12_fault.2.1 0 = .ok (.iload_n 1, 1) := by decide +kernel
theorem dX12_fault_1 : decode yX12_fault.2.1 1 = .ok (.invokestatic 145, 3) := by decide +kernel
theorem dX12_fault_4 : decode yX12_fault.2.1 4 = .ok (.ifCond .ne 5, 3) := by decide +kernel
theorem dX12_fault_7 : decode yX12_fault.2.1 7 = .ok (.iconst (-1), 1) := by decide +kernel
theorem dX12_fault_8 : decode yX12_fault.2.1 8 = .ok (.ireturn, 1) := by decide +kernel
theorem dX12_fault_9 : decode yX12_fault.2.1 9 = .ok (.aload_n 0, 1) := by decide +kernel
theorem dX12_fault_10 : decode yX12_fault.2.1 10 = .ok (.getfield 22, 3) := by decide +kernel
theorem dX12_fault_13 : decode yX12_fault.2.1 13 = .ok (.iload_n 1, 1) := by decide +kernel
theorem dX12_fault_14 : decode yX12_fault.2.1 14 = .ok (.iaload, 1) := by decide +kernel
theorem dX12_fault_15 : decode yX12_fault.2.1 15 = .ok (.ifCond .ge 11, 3) := by decide +kernel
theorem dX12_fault_18 : decode yX12_fault.2.1 18 = .ok (.aload_n 0, 1) := by decide +kernel
theorem dX12_fault_19 : decode yX12_fault.2.1 19 = .ok (.iconst 1, 1) := by decide +kernel
theorem dX12_fault_20 : decode yX12_fault.2.1 20 = .ok (.invokevirtual 134, 3) := by decide +kernel
theorem dX12_fault_23 : decode yX12_fault.2.1 23 = .ok (.goto 8, 3) := by decide +kernel
theorem dX12_fault_26 : decode yX12_fault.2.1 26 = .ok (.aload_n 0, 1) := by decide +kernel
theorem dX12_fault_27 : decode yX12_fault.2.1 27 = .ok (.iload_n 1, 1) := by decide +kernel
theorem dX12_fault_28 : decode yX12_fault.2.1 28 = .ok (.invokevirtual 182, 3) := by decide +kernel
theorem dX12_fault_31 : decode yX12_fault.2.1 31 = .ok (.ireturn, 1) := by decide +kernel
theorem dX12_tell_0 : decode yX12_tell.2.1 0 = .ok (.iload_n 1, 1) := by decide +kernel
theorem dX12_tell_1 : decode yX12_tell.2.1 1 = .ok (.invokestatic 154, 3) := by decide +kernel
theorem dX12_tell_4 : decode yX12_tell.2.1 4 = .ok (.ifCond .eq 10, 3) := by decide +kernel
theorem dX12_tell_7 : decode yX12_tell.2.1 7 = .ok (.iload_n 2, 1) := by decide +kernel
theorem dX12_tell_8 : decode yX12_tell.2.1 8 = .ok (.invokestatic 145, 3) := by decide +kernel
theorem dX12_tell_11 : decode yX12_tell.2.1 11 = .ok (.ifCond .ne 5, 3) := by decide +kernel
theorem dX12_tell_14 : decode yX12_tell.2.1 14 = .ok (.iconst (-1), 1) := by decide +kernel
theorem dX12_tell_15 : decode yX12_tell.2.1 15 = .ok (.ireturn, 1) := by decide +kernel
theorem dX12_tell_16 : decode yX12_tell.2.1 16 = .ok (.aload_n 0, 1) := by decide +kernel
theorem dX12_tell_17 : decode yX12_tell.2.1 17 = .ok (.getfield 22, 3) := by decide +kernel
theorem dX12_tell_20 : decode yX12_tell.2.1 20 = .ok (.iload_n 2, 1) := by decide +kernel
theorem dX12_tell_21 : decode yX12_tell.2.1 21 = .ok (.iaload, 1) := by decide +kernel
theorem dX12_tell_22 : decode yX12_tell.2.1 22 = .ok (.ifCond .ge 9, 3) := by decide +kernel
theorem dX12_tell_25 : decode yX12_tell.2.1 25 = .ok (.aload_n 0, 1) := by decide +kernel
theorem dX12_tell_26 : decode yX12_tell.2.1 26 = .ok (.iconst 1, 1) := by decide +kernel
theorem dX12_tell_27 : decode yX12_tell.2.1 27 = .ok (.invokevirtual 134, 3) := by decide +kernel
theorem dX12_tell_30 : decode yX12_tell.2.1 30 = .ok (.ireturn, 1) := by decide +kernel
theorem dX12_tell_31 : decode yX12_tell.2.1 31 = .ok (.aload_n 0, 1) := by decide +kernel
theorem dX12_tell_32 : decode yX12_tell.2.1 32 = .ok (.iload_n 2, 1) := by decide +kernel
theorem dX12_tell_33 : decode yX12_tell.2.1 33 = .ok (.invokevirtual 182, 3) := by decide +kernel
theorem dX12_tell_36 : decode yX12_tell.2.1 36 = .ok (.bipush (-9), 2) := by decide +kernel
theorem dX12_tell_38 : decode yX12_tell.2.1 38 = .ok (.if_icmp .eq 6, 3) := by decide +kernel
theorem dX12_tell_41 : decode yX12_tell.2.1 41 = .ok (.bipush (-4), 2) := by decide +kernel
theorem dX12_tell_43 : decode yX12_tell.2.1 43 = .ok (.ireturn, 1) := by decide +kernel
theorem dX12_tell_44 : decode yX12_tell.2.1 44 = .ok (.aload_n 0, 1) := by decide +kernel
theorem dX12_tell_45 : decode yX12_tell.2.1 45 = .ok (.getfield 164, 3) := by decide +kernel
theorem dX12_tell_48 : decode yX12_tell.2.1 48 = .ok (.ifCond .eq 8, 3) := by decide +kernel
theorem dX12_tell_51 : decode yX12_tell.2.1 51 = .ok (.bipush (-2), 2) := by decide +kernel
theorem dX12_tell_53 : decode yX12_tell.2.1 53 = .ok (.goto 16, 3) := by decide +kernel
theorem dX12_tell_56 : decode yX12_tell.2.1 56 = .ok (.aload_n 0, 1) := by decide +kernel
theorem dX12_tell_57 : decode yX12_tell.2.1 57 = .ok (.iload_n 1, 1) := by decide +kernel
theorem dX12_tell_58 : decode yX12_tell.2.1 58 = .ok (.iconst 1, 1) := by decide +kernel
theorem dX12_tell_59 : decode yX12_tell.2.1 59 = .ok (.iconst 0, 1) := by decide +kernel
theorem dX12_tell_60 : decode yX12_tell.2.1 60 = .ok (.aload_n 0, 1) := by decide +kernel
theorem dX12_tell_61 : decode yX12_tell.2.1 61 = .ok (.getfield 22, 3) := by decide +kernel
theorem dX12_tell_64 : decode yX12_tell.2.1 64 = .ok (.iload_n 2, 1) := by decide +kernel
theorem dX12_tell_65 : decode yX12_tell.2.1 65 = .ok (.iaload, 1) := by decide +kernel
theorem dX12_tell_66 : decode yX12_tell.2.1 66 = .ok (.invokevirtual 160, 3) := by decide +kernel
theorem dX12_tell_69 : decode yX12_tell.2.1 69 = .ok (.ireturn, 1) := by decide +kernel
theorem dX12_needWord_0 : decode yX12_needWord.2.1 0 = .ok (.iload_n 2, 1) := by decide +kernel
theorem dX12_needWord_1 : decode yX12_needWord.2.1 1 = .ok (.invokestatic 154, 3) := by decide +kernel
theorem dX12_needWord_4 : decode yX12_needWord.2.1 4 = .ok (.ifCond .eq 7, 3) := by decide +kernel
theorem dX12_needWord_7 : decode yX12_needWord.2.1 7 = .ok (.iload_n 1, 1) := by decide +kernel
theorem dX12_needWord_8 : decode yX12_needWord.2.1 8 = .ok (.ifCond .ne 7, 3) := by decide +kernel
theorem dX12_needWord_11 : decode yX12_needWord.2.1 11 = .ok (.iconst (-1), 1) := by decide +kernel
theorem dX12_needWord_12 : decode yX12_needWord.2.1 12 = .ok (.goto 20, 3) := by decide +kernel
theorem dX12_needWord_15 : decode yX12_needWord.2.1 15 = .ok (.aload_n 0, 1) := by decide +kernel
theorem dX12_needWord_16 : decode yX12_needWord.2.1 16 = .ok (.iload_n 2, 1) := by decide +kernel
theorem dX12_needWord_17 : decode yX12_needWord.2.1 17 = .ok (.invokevirtual 185, 3) := by decide +kernel
theorem dX12_needWord_20 : decode yX12_needWord.2.1 20 = .ok (.ifCond .eq 7, 3) := by decide +kernel
theorem dX12_needWord_23 : decode yX12_needWord.2.1 23 = .ok (.iconst 0, 1) := by decide +kernel
theorem dX12_needWord_24 : decode yX12_needWord.2.1 24 = .ok (.goto 8, 3) := by decide +kernel
theorem dX12_needWord_27 : decode yX12_needWord.2.1 27 = .ok (.aload_n 0, 1) := by decide +kernel
theorem dX12_needWord_28 : decode yX12_needWord.2.1 28 = .ok (.iconst 1, 1) := by decide +kernel
theorem dX12_needWord_29 : decode yX12_needWord.2.1 29 = .ok (.invokevirtual 134, 3) := by decide +kernel
theorem dX12_needWord_32 : decode yX12_needWord.2.1 32 = .ok (.ireturn, 1) := by decide +kernel
theorem dX12_needTwo_0 : decode yX12_needTwo.2.1 0 = .ok (.iload_n 2, 1) := by decide +kernel
theorem dX12_needTwo_1 : decode yX12_needTwo.2.1 1 = .ok (.invokestatic 154, 3) := by decide +kernel
theorem dX12_needTwo_4 : decode yX12_needTwo.2.1 4 = .ok (.ifCond .eq 14, 3) := by decide +kernel
theorem dX12_needTwo_7 : decode yX12_needTwo.2.1 7 = .ok (.iload_n 3, 1) := by decide +kernel
theorem dX12_needTwo_8 : decode yX12_needTwo.2.1 8 = .ok (.invokestatic 154, 3) := by decide +kernel
theorem dX12_needTwo_11 : decode yX12_needTwo.2.1 11 = .ok (.ifCond .eq 7, 3) := by decide +kernel
theorem dX12_needTwo_14 : decode yX12_needTwo.2.1 14 = .ok (.iload_n 1, 1) := by decide +kernel
theorem dX12_needTwo_15 : decode yX12_needTwo.2.1 15 = .ok (.ifCond .ne 7, 3) := by decide +kernel
theorem dX12_needTwo_18 : decode yX12_needTwo.2.1 18 = .ok (.iconst (-1), 1) := by decide +kernel
theorem dX12_needTwo_19 : decode yX12_needTwo.2.1 19 = .ok (.goto 28, 3) := by decide +kernel
theorem dX12_needTwo_22 : decode yX12_needTwo.2.1 22 = .ok (.aload_n 0, 1) := by decide +kernel
theorem dX12_needTwo_23 : decode yX12_needTwo.2.1 23 = .ok (.iload_n 2, 1) := by decide +kernel
theorem dX12_needTwo_24 : decode yX12_needTwo.2.1 24 = .ok (.invokevirtual 185, 3) := by decide +kernel
theorem dX12_needTwo_27 : decode yX12_needTwo.2.1 27 = .ok (.ifCond .eq 15, 3) := by decide +kernel
theorem dX12_needTwo_30 : decode yX12_needTwo.2.1 30 = .ok (.aload_n 0, 1) := by decide +kernel
theorem dX12_needTwo_31 : decode yX12_needTwo.2.1 31 = .ok (.iload_n 3, 1) := by decide +kernel
theorem dX12_needTwo_32 : decode yX12_needTwo.2.1 32 = .ok (.invokevirtual 185, 3) := by decide +kernel
theorem dX12_needTwo_35 : decode yX12_needTwo.2.1 35 = .ok (.ifCond .eq 7, 3) := by decide +kernel
theorem dX12_needTwo_38 : decode yX12_needTwo.2.1 38 = .ok (.iconst 0, 1) := by decide +kernel
theorem dX12_needTwo_39 : decode yX12_needTwo.2.1 39 = .ok (.goto 8, 3) := by decide +kernel
theorem dX12_needTwo_42 : decode yX12_needTwo.2.1 42 = .ok (.aload_n 0, 1) := by decide +kernel
theorem dX12_needTwo_43 : decode yX12_needTwo.2.1 43 = .ok (.iconst 1, 1) := by decide +kernel
theorem dX12_needTwo_44 : decode yX12_needTwo.2.1 44 = .ok (.invokevirtual 134, 3) := by decide +kernel
theorem dX12_needTwo_47 : decode yX12_needTwo.2.1 47 = .ok (.ireturn, 1) := by decide +kernel
theorem dX12_join_0 : decode yX12_join.2.1 0 = .ok (.aload_n 0, 1) := by decide +kernel
theorem dX12_join_1 : decode yX12_join.2.1 1 = .ok (.iload_n 1, 1) := by decide +kernel
theorem dX12_join_2 : decode yX12_join.2.1 2 = .ok (.invokestatic 154, 3) := by decide +kernel
theorem dX12_join_5 : decode yX12_join.2.1 5 = .ok (.iload_n 2, 1) := by decide +kernel
theorem dX12_join_6 : decode yX12_join.2.1 6 = .ok (.iload_n 3, 1) := by decide +kernel
theorem dX12_join_7 : decode yX12_join.2.1 7 = .ok (.invokevirtual 188, 3) := by decide +kernel
theorem dX12_join_10 : decode yX12_join.2.1 10 = .ok (.istore 4, 2) := by decide +kernel
theorem dX12_join_12 : decode yX12_join.2.1 12 = .ok (.iload 4, 2) := by decide +kernel
theorem dX12_join_14 : decode yX12_join.2.1 14 = .ok (.ifCond .ge 6, 3) := by decide +kernel
theorem dX12_join_17 : decode yX12_join.2.1 17 = .ok (.iload 4, 2) := by decide +kernel
theorem dX12_join_19 : decode yX12_join.2.1 19 = .ok (.ireturn, 1) := by decide +kernel
theorem dX12_join_20 : decode yX12_join.2.1 20 = .ok (.aload_n 0, 1) := by decide +kernel
theorem dX12_join_21 : decode yX12_join.2.1 21 = .ok (.getfield 29, 3) := by decide +kernel
theorem dX12_join_24 : decode yX12_join.2.1 24 = .ok (.iload_n 2, 1) := by decide +kernel
theorem dX12_join_25 : decode yX12_join.2.1 25 = .ok (.iaload, 1) := by decide +kernel
theorem dX12_join_26 : decode yX12_join.2.1 26 = .ok (.aload_n 0, 1) := by decide +kernel
theorem dX12_join_27 : decode yX12_join.2.1 27 = .ok (.getfield 29, 3) := by decide +kernel
theorem dX12_join_30 : decode yX12_join.2.1 30 = .ok (.iload_n 3, 1) := by decide +kernel
theorem dX12_join_31 : decode yX12_join.2.1 31 = .ok (.iaload, 1) := by decide +kernel
theorem dX12_join_32 : decode yX12_join.2.1 32 = .ok (.iadd, 1) := by decide +kernel
theorem dX12_join_33 : decode yX12_join.2.1 33 = .ok (.istore 5, 2) := by decide +kernel
theorem dX12_join_35 : decode yX12_join.2.1 35 = .ok (.iload 5, 2) := by decide +kernel
theorem dX12_join_37 : decode yX12_join.2.1 37 = .ok (.bipush 40, 2) := by decide +kernel
theorem dX12_join_39 : decode yX12_join.2.1 39 = .ok (.if_icmp .le 6, 3) := by decide +kernel
theorem dX12_join_42 : decode yX12_join.2.1 42 = .ok (.bipush (-2), 2) := by decide +kernel
theorem dX12_join_44 : decode yX12_join.2.1 44 = .ok (.ireturn, 1) := by decide +kernel
theorem dX12_join_45 : decode yX12_join.2.1 45 = .ok (.iconst 0, 1) := by decide +kernel
theorem dX12_join_46 : decode yX12_join.2.1 46 = .ok (.istore 6, 2) := by decide +kernel
theorem dX12_join_48 : decode yX12_join.2.1 48 = .ok (.iload 6, 2) := by decide +kernel
theorem dX12_join_50 : decode yX12_join.2.1 50 = .ok (.iload 5, 2) := by decide +kernel
theorem dX12_join_52 : decode yX12_join.2.1 52 = .ok (.if_icmp .ge 51, 3) := by decide +kernel
theorem dX12_join_55 : decode yX12_join.2.1 55 = .ok (.aload_n 0, 1) := by decide +kernel
theorem dX12_join_56 : decode yX12_join.2.1 56 = .ok (.getfield 44, 3) := by decide +kernel
theorem dX12_join_59 : decode yX12_join.2.1 59 = .ok (.iload 6, 2) := by decide +kernel
theorem dX12_join_61 : decode yX12_join.2.1 61 = .ok (.iload 6, 2) := by decide +kernel
theorem dX12_join_63 : decode yX12_join.2.1 63 = .ok (.aload_n 0, 1) := by decide +kernel
theorem dX12_join_64 : decode yX12_join.2.1 64 = .ok (.getfield 29, 3) := by decide +kernel
theorem dX12_join_67 : decode yX12_join.2.1 67 = .ok (.iload_n 2, 1) := by decide +kernel
theorem dX12_join_68 : decode yX12_join.2.1 68 = .ok (.iaload, 1) := by decide +kernel
theorem dX12_join_69 : decode yX12_join.2.1 69 = .ok (.if_icmp .ge 13, 3) := by decide +kernel
theorem dX12_join_72 : decode yX12_join.2.1 72 = .ok (.aload_n 0, 1) := by decide +kernel
theorem dX12_join_73 : decode yX12_join.2.1 73 = .ok (.iload_n 2, 1) := by decide +kernel
theorem dX12_join_74 : decode yX12_join.2.1 74 = .ok (.iload 6, 2) := by decide +kernel
theorem dX12_join_76 : decode yX12_join.2.1 76 = .ok (.invokevirtual 148, 3) := by decide +kernel
theorem dX12_join_79 : decode yX12_join.2.1 79 = .ok (.goto 17, 3) := by decide +kernel
theorem dX12_join_82 : decode yX12_join.2.1 82 = .ok (.aload_n 0, 1) := by decide +kernel
theorem dX12_join_83 : decode yX12_join.2.1 83 = .ok (.iload_n 3, 1) := by decide +kernel
theorem dX12_join_84 : decode yX12_join.2.1 84 = .ok (.iload 6, 2) := by decide +kernel
theorem dX12_join_86 : decode yX12_join.2.1 86 = .ok (.aload_n 0, 1) := by decide +kernel
theorem dX12_join_87 : decode yX12_join.2.1 87 = .ok (.getfield 29, 3) := by decide +kernel
theorem dX12_join_90 : decode yX12_join.2.1 90 = .ok (.iload_n 2, 1) := by decide +kernel
theorem dX12_join_91 : decode yX12_join.2.1 91 = .ok (.iaload, 1) := by decide +kernel
theorem dX12_join_92 : decode yX12_join.2.1 92 = .ok (.isub, 1) := by decide +kernel
theorem dX12_join_93 : decode yX12_join.2.1 93 = .ok (.invokevirtual 148, 3) := by decide +kernel
theorem dX12_join_96 : decode yX12_join.2.1 96 = .ok (.iastore, 1) := by decide +kernel
theorem dX12_join_97 : decode yX12_join.2.1 97 = .ok (.iinc 6 1, 3) := by decide +kernel
theorem dX12_join_100 : decode yX12_join.2.1 100 = .ok (.goto (-52), 3) := by decide +kernel
theorem dX12_join_103 : decode yX12_join.2.1 103 = .ok (.aload_n 0, 1) := by decide +kernel
theorem dX12_join_104 : decode yX12_join.2.1 104 = .ok (.iload 5, 2) := by decide +kernel
theorem dX12_join_106 : decode yX12_join.2.1 106 = .ok (.putfield 151, 3) := by decide +kernel
theorem dX12_join_109 : decode yX12_join.2.1 109 = .ok (.aload_n 0, 1) := by decide +kernel
theorem dX12_join_110 : decode yX12_join.2.1 110 = .ok (.iload_n 1, 1) := by decide +kernel
theorem dX12_join_111 : decode yX12_join.2.1 111 = .ok (.iconst 2, 1) := by decide +kernel
theorem dX12_join_112 : decode yX12_join.2.1 112 = .ok (.iload_n 2, 1) := by decide +kernel
theorem dX12_join_113 : decode yX12_join.2.1 113 = .ok (.iconst 0, 1) := by decide +kernel
theorem dX12_join_114 : decode yX12_join.2.1 114 = .ok (.invokevirtual 160, 3) := by decide +kernel
theorem dX12_join_117 : decode yX12_join.2.1 117 = .ok (.ireturn, 1) := by decide +kernel
theorem dX12_part_0 : decode yX12_part.2.1 0 = .ok (.iload_n 1, 1) := by decide +kernel
theorem dX12_part_1 : decode yX12_part.2.1 1 = .ok (.invokestatic 154, 3) := by decide +kernel
theorem dX12_part_4 : decode yX12_part.2.1 4 = .ok (.ifCond .eq 10, 3) := by decide +kernel
theorem dX12_part_7 : decode yX12_part.2.1 7 = .ok (.iload_n 2, 1) := by decide +kernel
theorem dX12_part_8 : decode yX12_part.2.1 8 = .ok (.invokestatic 154, 3) := by decide +kernel
theorem dX12_part_11 : decode yX12_part.2.1 11 = .ok (.ifCond .ne 5, 3) := by decide +kernel
theorem dX12_part_14 : decode yX12_part.2.1 14 = .ok (.iconst (-1), 1) := by decide +kernel
theorem dX12_part_15 : decode yX12_part.2.1 15 = .ok (.ireturn, 1) := by decide +kernel
theorem dX12_part_16 : decode yX12_part.2.1 16 = .ok (.iload 4, 2) := by decide +kernel
theorem dX12_part_18 : decode yX12_part.2.1 18 = .ok (.ifCond .ge 9, 3) := by decide +kernel
theorem dX12_part_21 : decode yX12_part.2.1 21 = .ok (.aload_n 0, 1) := by decide +kernel
theorem dX12_part_22 : decode yX12_part.2.1 22 = .ok (.iconst 5, 1) := by decide +kernel
theorem dX12_part_23 : decode yX12_part.2.1 23 = .ok (.invokevirtual 134, 3) := by decide +kernel
theorem dX12_part_26 : decode yX12_part.2.1 26 = .ok (.ireturn, 1) := by decide +kernel
theorem dX12_part_27 : decode yX12_part.2.1 27 = .ok (.aload_n 0, 1) := by decide +kernel
theorem dX12_part_28 : decode yX12_part.2.1 28 = .ok (.iload_n 2, 1) := by decide +kernel
theorem dX12_part_29 : decode yX12_part.2.1 29 = .ok (.invokevirtual 185, 3) := by decide +kernel
theorem dX12_part_32 : decode yX12_part.2.1 32 = .ok (.ifCond .ne 9, 3) := by decide +kernel
theorem dX12_part_35 : decode yX12_part.2.1 35 = .ok (.aload_n 0, 1) := by decide +kernel
theorem dX12_part_36 : decode yX12_part.2.1 36 = .ok (.iconst 1, 1) := by decide +kernel
theorem dX12_part_37 : decode yX12_part.2.1 37 = .ok (.invokevirtual 134, 3) := by decide +kernel
theorem dX12_part_40 : decode yX12_part.2.1 40 = .ok (.ireturn, 1) := by decide +kernel
theorem dX12_part_41 : decode yX12_part.2.1 41 = .ok (.iload_n 3, 1) := by decide +kernel
theorem dX12_part_42 : decode yX12_part.2.1 42 = .ok (.ifCond .lt 20, 3) := by decide +kernel
theorem dX12_part_45 : decode yX12_part.2.1 45 = .ok (.iload_n 3, 1) := by decide +kernel
theorem dX12_part_46 : decode yX12_part.2.1 46 = .ok (.i2l, 1) := by decide +kernel
theorem dX12_part_47 : decode yX12_part.2.1 47 = .ok (.iload 4, 2) := by decide +kernel
theorem dX12_part_49 : decode yX12_part.2.1 49 = .ok (.i2l, 1) := by decide +kernel
theorem dX12_part_50 : decode yX12_part.2.1 50 = .ok (.ladd, 1) := by decide +kernel
theorem dX12_part_51 : decode yX12_part.2.1 51 = .ok (.aload_n 0, 1) := by decide +kernel
theorem dX12_part_52 : decode yX12_part.2.1 52 = .ok (.getfield 29, 3) := by decide +kernel
theorem dX12_part_55 : decode yX12_part.2.1 55 = .ok (.iload_n 2, 1) := by decide +kernel
theorem dX12_part_56 : decode yX12_part.2.1 56 = .ok (.iaload, 1) := by decide +kernel
theorem dX12_part_57 : decode yX12_part.2.1 57 = .ok (.i2l, 1) := by decide +kernel
theorem dX12_part_58 : decode yX12_part.2.1 58 = .ok (.lcmp, 1) := by decide +kernel
theorem dX12_part_59 : decode yX12_part.2.1 59 = .ok (.ifCond .le 9, 3) := by decide +kernel
theorem dX12_part_62 : decode yX12_part.2.1 62 = .ok (.aload_n 0, 1) := by decide +kernel
theorem dX12_part_63 : decode yX12_part.2.1 63 = .ok (.iconst 2, 1) := by decide +kernel
theorem dX12_part_64 : decode yX12_part.2.1 64 = .ok (.invokevirtual 134, 3) := by decide +kernel
theorem dX12_part_67 : decode yX12_part.2.1 67 = .ok (.ireturn, 1) := by decide +kernel
theorem dX12_part_68 : decode yX12_part.2.1 68 = .ok (.iconst 0, 1) := by decide +kernel
theorem dX12_part_69 : decode yX12_part.2.1 69 = .ok (.istore 5, 2) := by decide +kernel
theorem dX12_part_71 : decode yX12_part.2.1 71 = .ok (.iload 5, 2) := by decide +kernel
theorem dX12_part_73 : decode yX12_part.2.1 73 = .ok (.iload 4, 2) := by decide +kernel
theorem dX12_part_75 : decode yX12_part.2.1 75 = .ok (.if_icmp .ge 25, 3) := by decide +kernel
theorem dX12_part_78 : decode yX12_part.2.1 78 = .ok (.aload_n 0, 1) := by decide +kernel
theorem dX12_part_79 : decode yX12_part.2.1 79 = .ok (.getfield 44, 3) := by decide +kernel
theorem dX12_part_82 : decode yX12_part.2.1 82 = .ok (.iload 5, 2) := by decide +kernel
theorem dX12_part_84 : decode yX12_part.2.1 84 = .ok (.aload_n 0, 1) := by decide +kernel
theorem dX12_part_85 : decode yX12_part.2.1 85 = .ok (.iload_n 2, 1) := by decide +kernel
theorem dX12_part_86 : decode yX12_part.2.1 86 = .ok (.iload_n 3, 1) := by decide +kernel
theorem dX12_part_87 : decode yX12_part.2.1 87 = .ok (.iload 5, 2) := by decide +kernel
theorem dX12_part_89 : decode yX12_part.2.1 89 = .ok (.iadd, 1) := by decide +kernel
theorem dX12_part_90 : decode yX12_part.2.1 90 = .ok (.invokevirtual 148, 3) := by decide +kernel
theorem dX12_part_93 : decode yX12_part.2.1 93 = .ok (.iastore, 1) := by decide +kernel
theorem dX12_part_94 : decode yX12_part.2.1 94 = .ok (.iinc 5 1, 3) := by decide +kernel
theorem dX12_part_97 : decode yX12_part.2.1 97 = .ok (.goto (-26), 3) := by decide +kernel
theorem dX12_part_100 : decode yX12_part.2.1 100 = .ok (.aload_n 0, 1) := by decide +kernel
theorem dX12_part_101 : decode yX12_part.2.1 101 = .ok (.iload 4, 2) := by decide +kernel
theorem dX12_part_103 : decode yX12_part.2.1 103 = .ok (.putfield 151, 3) := by decide +kernel
theorem dX12_part_106 : decode yX12_part.2.1 106 = .ok (.aload_n 0, 1) := by decide +kernel
theorem dX12_part_107 : decode yX12_part.2.1 107 = .ok (.iload_n 1, 1) := by decide +kernel
theorem dX12_part_108 : decode yX12_part.2.1 108 = .ok (.iconst 2, 1) := by decide +kernel
theorem dX12_part_109 : decode yX12_part.2.1 109 = .ok (.iload_n 2, 1) := by decide +kernel
theorem dX12_part_110 : decode yX12_part.2.1 110 = .ok (.iconst 0, 1) := by decide +kernel
theorem dX12_part_111 : decode yX12_part.2.1 111 = .ok (.invokevirtual 160, 3) := by decide +kernel
theorem dX12_part_114 : decode yX12_part.2.1 114 = .ok (.ireturn, 1) := by decide +kernel
theorem dX12_turn_0 : decode yX12_turn.2.1 0 = .ok (.aload_n 0, 1) := by decide +kernel
theorem dX12_turn_1 : decode yX12_turn.2.1 1 = .ok (.iload_n 1, 1) := by decide +kernel
theorem dX12_turn_2 : decode yX12_turn.2.1 2 = .ok (.invokestatic 154, 3) := by decide +kernel
theorem dX12_turn_5 : decode yX12_turn.2.1 5 = .ok (.ifCond .eq 16, 3) := by decide +kernel
theorem dX12_turn_8 : decode yX12_turn.2.1 8 = .ok (.iload_n 3, 1) := by decide +kernel
theorem dX12_turn_9 : decode yX12_turn.2.1 9 = .ok (.iconst 0, 1) := by decide +kernel
theorem dX12_turn_10 : decode yX12_turn.2.1 10 = .ok (.iconst 1, 1) := by decide +kernel
theorem dX12_turn_11 : decode yX12_turn.2.1 11 = .ok (.invokestatic 117, 3) := by decide +kernel
theorem dX12_turn_14 : decode yX12_turn.2.1 14 = .ok (.ifCond .eq 7, 3) := by decide +kernel
theorem dX12_turn_17 : decode yX12_turn.2.1 17 = .ok (.iconst 1, 1) := by decide +kernel
theorem dX12_turn_18 : decode yX12_turn.2.1 18 = .ok (.goto 4, 3) := by decide +kernel
theorem dX12_turn_21 : decode yX12_turn.2.1 21 = .ok (.iconst 0, 1) := by decide +kernel
theorem dX12_turn_22 : decode yX12_turn.2.1 22 = .ok (.iload_n 2, 1) := by decide +kernel
theorem dX12_turn_23 : decode yX12_turn.2.1 23 = .ok (.invokevirtual 192, 3) := by decide +kernel
theorem dX12_turn_26 : decode yX12_turn.2.1 26 = .ok (.istore 4, 2) := by decide +kernel
theorem dX12_turn_28 : decode yX12_turn.2.1 28 = .ok (.iload 4, 2) := by decide +kernel
theorem dX12_turn_30 : decode yX12_turn.2.1 30 = .ok (.ifCond .ge 6, 3) := by decide +kernel
theorem dX12_turn_33 : decode yX12_turn.2.1 33 = .ok (.iload 4, 2) := by decide +kernel
theorem dX12_turn_35 : decode yX12_turn.2.1 35 = .ok (.ireturn, 1) := by decide +kernel
theorem dX12_turn_36 : decode yX12_turn.2.1 36 = .ok (.aload_n 0, 1) := by decide +kernel
theorem dX12_turn_37 : decode yX12_turn.2.1 37 = .ok (.aload_n 0, 1) := by decide +kernel
theorem dX12_turn_38 : decode yX12_turn.2.1 38 = .ok (.getfield 29, 3) := by decide +kernel
theorem dX12_turn_41 : decode yX12_turn.2.1 41 = .ok (.iload_n 2, 1) := by decide +kernel
theorem dX12_turn_42 : decode yX12_turn.2.1 42 = .ok (.iaload, 1) := by decide +kernel
theorem dX12_turn_43 : decode yX12_turn.2.1 43 = .ok (.putfield 151, 3) := by decide +kernel
theorem dX12_turn_46 : decode yX12_turn.2.1 46 = .ok (.iconst 0, 1) := by decide +kernel
theorem dX12_turn_47 : decode yX12_turn.2.1 47 = .ok (.istore 5, 2) := by decide +kernel
theorem dX12_turn_49 : decode yX12_turn.2.1 49 = .ok (.iload 5, 2) := by decide +kernel
theorem dX12_turn_51 : decode yX12_turn.2.1 51 = .ok (.aload_n 0, 1) := by decide +kernel
theorem dX12_turn_52 : decode yX12_turn.2.1 52 = .ok (.getfield 151, 3) := by decide +kernel
theorem dX12_turn_55 : decode yX12_turn.2.1 55 = .ok (.if_icmp .ge 51, 3) := by decide +kernel
theorem dX12_turn_58 : decode yX12_turn.2.1 58 = .ok (.aload_n 0, 1) := by decide +kernel
theorem dX12_turn_59 : decode yX12_turn.2.1 59 = .ok (.getfield 44, 3) := by decide +kernel
theorem dX12_turn_62 : decode yX12_turn.2.1 62 = .ok (.iload 5, 2) := by decide +kernel
theorem dX12_turn_64 : decode yX12_turn.2.1 64 = .ok (.iload_n 3, 1) := by decide +kernel
theorem dX12_turn_65 : decode yX12_turn.2.1 65 = .ok (.ifCond .ne 20, 3) := by decide +kernel
theorem dX12_turn_68 : decode yX12_turn.2.1 68 = .ok (.aload_n 0, 1) := by decide +kernel
theorem dX12_turn_69 : decode yX12_turn.2.1 69 = .ok (.iload_n 2, 1) := by decide +kernel
theorem dX12_turn_70 : decode yX12_turn.2.1 70 = .ok (.aload_n 0, 1) := by decide +kernel
theorem dX12_turn_71 : decode yX12_turn.2.1 71 = .ok (.getfield 151, 3) := by decide +kernel
theorem dX12_turn_74 : decode yX12_turn.2.1 74 = .ok (.iconst 1, 1) := by decide +kernel
theorem dX12_turn_75 : decode yX12_turn.2.1 75 = .ok (.isub, 1) := by decide +kernel
theorem dX12_turn_76 : decode yX12_turn.2.1 76 = .ok (.iload 5, 2) := by decide +kernel
theorem dX12_turn_78 : decode yX12_turn.2.1 78 = .ok (.isub, 1) := by decide +kernel
theorem dX12_turn_79 : decode yX12_turn.2.1 79 = .ok (.invokevirtual 148, 3) := by decide +kernel
theorem dX12_turn_82 : decode yX12_turn.2.1 82 = .ok (.goto 17, 3) := by decide +kernel
theorem dX12_turn_85 : decode yX12_turn.2.1 85 = .ok (.aload_n 0, 1) := by decide +kernel
theorem dX12_turn_86 : decode yX12_turn.2.1 86 = .ok (.getfield 110, 3) := by decide +kernel
theorem dX12_turn_89 : decode yX12_turn.2.1 89 = .ok (.iconst 1, 1) := by decide +kernel
theorem dX12_turn_90 : decode yX12_turn.2.1 90 = .ok (.isub, 1) := by decide +kernel
theorem dX12_turn_91 : decode yX12_turn.2.1 91 = .ok (.aload_n 0, 1) := by decide +kernel
theorem dX12_turn_92 : decode yX12_turn.2.1 92 = .ok (.iload_n 2, 1) := by decide +kernel
theorem dX12_turn_93 : decode yX12_turn.2.1 93 = .ok (.iload 5, 2) := by decide +kernel
theorem dX12_turn_95 : decode yX12_turn.2.1 95 = .ok (.invokevirtual 148, 3) := by decide +kernel
theorem dX12_turn_98 : decode yX12_turn.2.1 98 = .ok (.isub, 1) := by decide +kernel
theorem dX12_turn_99 : decode yX12_turn.2.1 99 = .ok (.iastore, 1) := by decide +kernel
theorem dX12_turn_100 : decode yX12_turn.2.1 100 = .ok (.iinc 5 1, 3) := by decide +kernel
theorem dX12_turn_103 : decode yX12_turn.2.1 103 = .ok (.goto (-54), 3) := by decide +kernel
theorem dX12_turn_106 : decode yX12_turn.2.1 106 = .ok (.aload_n 0, 1) := by decide +kernel
theorem dX12_turn_107 : decode yX12_turn.2.1 107 = .ok (.iload_n 1, 1) := by decide +kernel
theorem dX12_turn_108 : decode yX12_turn.2.1 108 = .ok (.iconst 3, 1) := by decide +kernel
theorem dX12_turn_109 : decode yX12_turn.2.1 109 = .ok (.iload_n 2, 1) := by decide +kernel
theorem dX12_turn_110 : decode yX12_turn.2.1 110 = .ok (.iload_n 3, 1) := by decide +kernel
theorem dX12_turn_111 : decode yX12_turn.2.1 111 = .ok (.invokevirtual 160, 3) := by decide +kernel
theorem dX12_turn_114 : decode yX12_turn.2.1 114 = .ok (.ireturn, 1) := by decide +kernel
theorem dX12_erase_0 : decode yX12_erase.2.1 0 = .ok (.aload_n 0, 1) := by decide +kernel
theorem dX12_erase_1 : decode yX12_erase.2.1 1 = .ok (.iconst 1, 1) := by decide +kernel
theorem dX12_erase_2 : decode yX12_erase.2.1 2 = .ok (.iload_n 1, 1) := by decide +kernel
theorem dX12_erase_3 : decode yX12_erase.2.1 3 = .ok (.invokevirtual 192, 3) := by decide +kernel
theorem dX12_erase_6 : decode yX12_erase.2.1 6 = .ok (.istore_n 2, 1) := by decide +kernel
theorem dX12_erase_7 : decode yX12_erase.2.1 7 = .ok (.iload_n 2, 1) := by decide +kernel
theorem dX12_erase_8 : decode yX12_erase.2.1 8 = .ok (.ifCond .ge 5, 3) := by decide +kernel
theorem dX12_erase_11 : decode yX12_erase.2.1 11 = .ok (.iload_n 2, 1) := by decide +kernel
theorem dX12_erase_12 : decode yX12_erase.2.1 12 = .ok (.ireturn, 1) := by decide +kernel
theorem dX12_erase_13 : decode yX12_erase.2.1 13 = .ok (.aload_n 0, 1) := by decide +kernel
theorem dX12_erase_14 : decode yX12_erase.2.1 14 = .ok (.getfield 29, 3) := by decide +kernel
theorem dX12_erase_17 : decode yX12_erase.2.1 17 = .ok (.iload_n 1, 1) := by decide +kernel
theorem dX12_erase_18 : decode yX12_erase.2.1 18 = .ok (.iconst (-1), 1) := by decide +kernel
theorem dX12_erase_19 : decode yX12_erase.2.1 19 = .ok (.iastore, 1) := by decide +kernel
theorem dX12_erase_20 : decode yX12_erase.2.1 20 = .ok (.iconst 1, 1) := by decide +kernel
theorem dX12_erase_21 : decode yX12_erase.2.1 21 = .ok (.ireturn, 1) := by decide +kernel
theorem dX12_size_0 : decode yX12_size.2.1 0 = .ok (.aload_n 0, 1) := by decide +kernel
theorem dX12_size_1 : decode yX12_size.2.1 1 = .ok (.iconst 1, 1) := by decide +kernel
theorem dX12_size_2 : decode yX12_size.2.1 2 = .ok (.iload_n 1, 1) := by decide +kernel
theorem dX12_size_3 : decode yX12_size.2.1 3 = .ok (.invokevirtual 192, 3) := by decide +kernel
theorem dX12_size_6 : decode yX12_size.2.1 6 = .ok (.istore_n 2, 1) := by decide +kernel
theorem dX12_size_7 : decode yX12_size.2.1 7 = .ok (.iload_n 2, 1) := by decide +kernel
theorem dX12_size_8 : decode yX12_size.2.1 8 = .ok (.ifCond .ge 7, 3) := by decide +kernel
theorem dX12_size_11 : decode yX12_size.2.1 11 = .ok (.iload_n 2, 1) := by decide +kernel
theorem dX12_size_12 : decode yX12_size.2.1 12 = .ok (.goto 9, 3) := by decide +kernel
theorem dX12_size_15 : decode yX12_size.2.1 15 = .ok (.aload_n 0, 1) := by decide +kernel
theorem dX12_size_16 : decode yX12_size.2.1 16 = .ok (.getfield 29, 3) := by decide +kernel
theorem dX12_size_19 : decode yX12_size.2.1 19 = .ok (.iload_n 1, 1) := by decide +kernel
theorem dX12_size_20 : decode yX12_size.2.1 20 = .ok (.iaload, 1) := by decide +kernel
theorem dX12_size_21 : decode yX12_size.2.1 21 = .ok (.ireturn, 1) := by decide +kernel
theorem dX12_letter_0 : decode yX12_letter.2.1 0 = .ok (.aload_n 0, 1) := by decide +kernel
theorem dX12_letter_1 : decode yX12_letter.2.1 1 = .ok (.iconst 1, 1) := by decide +kernel
theorem dX12_letter_2 : decode yX12_letter.2.1 2 = .ok (.iload_n 1, 1) := by decide +kernel
theorem dX12_letter_3 : decode yX12_letter.2.1 3 = .ok (.invokevirtual 192, 3) := by decide +kernel
theorem dX12_letter_6 : decode yX12_letter.2.1 6 = .ok (.istore_n 3, 1) := by decide +kernel
theorem dX12_letter_7 : decode yX12_letter.2.1 7 = .ok (.iload_n 3, 1) := by decide +kernel
theorem dX12_letter_8 : decode yX12_letter.2.1 8 = .ok (.ifCond .ge 7, 3) := by decide +kernel
theorem dX12_letter_11 : decode yX12_letter.2.1 11 = .ok (.iload_n 3, 1) := by decide +kernel
theorem dX12_letter_12 : decode yX12_letter.2.1 12 = .ok (.goto 33, 3) := by decide +kernel
theorem dX12_letter_15 : decode yX12_letter.2.1 15 = .ok (.iload_n 2, 1) := by decide +kernel
theorem dX12_letter_16 : decode yX12_letter.2.1 16 = .ok (.iconst 0, 1) := by decide +kernel
theorem dX12_letter_17 : decode yX12_letter.2.1 17 = .ok (.aload_n 0, 1) := by decide +kernel
theorem dX12_letter_18 : decode yX12_letter.2.1 18 = .ok (.getfield 29, 3) := by decide +kernel
theorem dX12_letter_21 : decode yX12_letter.2.1 21 = .ok (.iload_n 1, 1) := by decide +kernel
theorem dX12_letter_22 : decode yX12_letter.2.1 22 = .ok (.iaload, 1) := by decide +kernel
theorem dX12_letter_23 : decode yX12_letter.2.1 23 = .ok (.iconst 1, 1) := by decide +kernel
theorem dX12_letter_24 : decode yX12_letter.2.1 24 = .ok (.isub, 1) := by decide +kernel
theorem dX12_letter_25 : decode yX12_letter.2.1 25 = .ok (.invokestatic 117, 3) := by decide +kernel
theorem dX12_letter_28 : decode yX12_letter.2.1 28 = .ok (.ifCond .eq 12, 3) := by decide +kernel
theorem dX12_letter_31 : decode yX12_letter.2.1 31 = .ok (.aload_n 0, 1) := by decide +kernel
theorem dX12_letter_32 : decode yX12_letter.2.1 32 = .ok (.iload_n 1, 1) := by decide +kernel
theorem dX12_letter_33 : decode yX12_letter.2.1 33 = .ok (.iload_n 2, 1) := by decide +kernel
theorem dX12_letter_34 : decode yX12_letter.2.1 34 = .ok (.invokevirtual 148, 3) := by decide +kernel
theorem dX12_letter_37 : decode yX12_letter.2.1 37 = .ok (.goto 8, 3) := by decide +kernel
theorem dX12_letter_40 : decode yX12_letter.2.1 40 = .ok (.aload_n 0, 1) := by decide +kernel
theorem dX12_letter_41 : decode yX12_letter.2.1 41 = .ok (.iconst 2, 1) := by decide +kernel
theorem dX12_letter_42 : decode yX12_letter.2.1 42 = .ok (.invokevirtual 134, 3) := by decide +kernel
theorem dX12_letter_45 : decode yX12_letter.2.1 45 = .ok (.ireturn, 1) := by decide +kernel
theorem dX12_kind_0 : decode yX12_kind.2.1 0 = .ok (.aload_n 0, 1) := by decide +kernel
theorem dX12_kind_1 : decode yX12_kind.2.1 1 = .ok (.iconst 1, 1) := by decide +kernel
theorem dX12_kind_2 : decode yX12_kind.2.1 2 = .ok (.iload_n 1, 1) := by decide +kernel
theorem dX12_kind_3 : decode yX12_kind.2.1 3 = .ok (.invokevirtual 192, 3) := by decide +kernel
theorem dX12_kind_6 : decode yX12_kind.2.1 6 = .ok (.istore_n 2, 1) := by decide +kernel
theorem dX12_kind_7 : decode yX12_kind.2.1 7 = .ok (.iload_n 2, 1) := by decide +kernel
theorem dX12_kind_8 : decode yX12_kind.2.1 8 = .ok (.ifCond .ge 7, 3) := by decide +kernel
theorem dX12_kind_11 : decode yX12_kind.2.1 11 = .ok (.iload_n 2, 1) := by decide +kernel
theorem dX12_kind_12 : decode yX12_kind.2.1 12 = .ok (.goto 9, 3) := by decide +kernel
theorem dX12_kind_15 : decode yX12_kind.2.1 15 = .ok (.aload_n 0, 1) := by decide +kernel
theorem dX12_kind_16 : decode yX12_kind.2.1 16 = .ok (.getfield 35, 3) := by decide +kernel
theorem dX12_kind_19 : decode yX12_kind.2.1 19 = .ok (.iload_n 1, 1) := by decide +kernel
theorem dX12_kind_20 : decode yX12_kind.2.1 20 = .ok (.iaload, 1) := by decide +kernel
theorem dX12_kind_21 : decode yX12_kind.2.1 21 = .ok (.ireturn, 1) := by decide +kernel
theorem dX12_markOf_0 : decode yX12_markOf.2.1 0 = .ok (.iload_n 2, 1) := by decide +kernel
theorem dX12_markOf_1 : decode yX12_markOf.2.1 1 = .ok (.ifCond .ne 7, 3) := by decide +kernel
theorem dX12_markOf_4 : decode yX12_markOf.2.1 4 = .ok (.iconst 0, 1) := by decide +kernel
theorem dX12_markOf_5 : decode yX12_markOf.2.1 5 = .ok (.goto 23, 3) := by decide +kernel
theorem dX12_markOf_8 : decode yX12_markOf.2.1 8 = .ok (.iload_n 2, 1) := by decide +kernel
theorem dX12_markOf_9 : decode yX12_markOf.2.1 9 = .ok (.iconst 2, 1) := by decide +kernel
theorem dX12_markOf_10 : decode yX12_markOf.2.1 10 = .ok (.if_icmp .ne 12, 3) := by decide +kernel
theorem dX12_markOf_13 : decode yX12_markOf.2.1 13 = .ok (.aload_n 0, 1) := by decide +kernel
theorem dX12_markOf_14 : decode yX12_markOf.2.1 14 = .ok (.getfield 38, 3) := by decide +kernel
theorem dX12_markOf_17 : decode yX12_markOf.2.1 17 = .ok (.iload_n 1, 1) := by decide +kernel
theorem dX12_markOf_18 : decode yX12_markOf.2.1 18 = .ok (.iaload, 1) := by decide +kernel
theorem dX12_markOf_19 : decode yX12_markOf.2.1 19 = .ok (.goto 9, 3) := by decide +kernel
theorem dX12_markOf_22 : decode yX12_markOf.2.1 22 = .ok (.aload_n 0, 1) := by decide +kernel
theorem dX12_markOf_23 : decode yX12_markOf.2.1 23 = .ok (.getfield 41, 3) := by decide +kernel
theorem dX12_markOf_26 : decode yX12_markOf.2.1 26 = .ok (.iload_n 1, 1) := by decide +kernel
theorem dX12_markOf_27 : decode yX12_markOf.2.1 27 = .ok (.iaload, 1) := by decide +kernel
theorem dX12_markOf_28 : decode yX12_markOf.2.1 28 = .ok (.ireturn, 1) := by decide +kernel
theorem dX12_mark_0 : decode yX12_mark.2.1 0 = .ok (.aload_n 0, 1) := by decide +kernel
theorem dX12_mark_1 : decode yX12_mark.2.1 1 = .ok (.iload_n 2, 1) := by decide +kernel
theorem dX12_mark_2 : decode yX12_mark.2.1 2 = .ok (.iconst 1, 1) := by decide +kernel
theorem dX12_mark_3 : decode yX12_mark.2.1 3 = .ok (.iconst 4, 1) := by decide +kernel
theorem dX12_mark_4 : decode yX12_mark.2.1 4 = .ok (.invokestatic 117, 3) := by decide +kernel
theorem dX12_mark_7 : decode yX12_mark.2.1 7 = .ok (.iload_n 1, 1) := by decide +kernel
theorem dX12_mark_8 : decode yX12_mark.2.1 8 = .ok (.invokevirtual 192, 3) := by decide +kernel
theorem dX12_mark_11 : decode yX12_mark.2.1 11 = .ok (.istore_n 3, 1) := by decide +kernel
theorem dX12_mark_12 : decode yX12_mark.2.1 12 = .ok (.iload_n 3, 1) := by decide +kernel
theorem dX12_mark_13 : decode yX12_mark.2.1 13 = .ok (.ifCond .ge 5, 3) := by decide +kernel
theorem dX12_mark_16 : decode yX12_mark.2.1 16 = .ok (.iload_n 3, 1) := by decide +kernel
theorem dX12_mark_17 : decode yX12_mark.2.1 17 = .ok (.ireturn, 1) := by decide +kernel
theorem dX12_mark_18 : decode yX12_mark.2.1 18 = .ok (.aload_n 0, 1) := by decide +kernel
theorem dX12_mark_19 : decode yX12_mark.2.1 19 = .ok (.getfield 35, 3) := by decide +kernel
theorem dX12_mark_22 : decode yX12_mark.2.1 22 = .ok (.iload_n 1, 1) := by decide +kernel
theorem dX12_mark_23 : decode yX12_mark.2.1 23 = .ok (.iaload, 1) := by decide +kernel
theorem dX12_mark_24 : decode yX12_mark.2.1 24 = .ok (.iload_n 2, 1) := by decide +kernel
theorem dX12_mark_25 : decode yX12_mark.2.1 25 = .ok (.if_icmp .eq 18, 3) := by decide +kernel
theorem dX12_mark_28 : decode yX12_mark.2.1 28 = .ok (.iload_n 2, 1) := by decide +kernel
theorem dX12_mark_29 : decode yX12_mark.2.1 29 = .ok (.iconst 2, 1) := by decide +kernel
theorem dX12_mark_30 : decode yX12_mark.2.1 30 = .ok (.if_icmp .ne 17, 3) := by decide +kernel
theorem dX12_mark_33 : decode yX12_mark.2.1 33 = .ok (.aload_n 0, 1) := by decide +kernel
theorem dX12_mark_34 : decode yX12_mark.2.1 34 = .ok (.getfield 35, 3) := by decide +kernel
theorem dX12_mark_37 : decode yX12_mark.2.1 37 = .ok (.iload_n 1, 1) := by decide +kernel
theorem dX12_mark_38 : decode yX12_mark.2.1 38 = .ok (.iaload, 1) := by decide +kernel
theorem dX12_mark_39 : decode yX12_mark.2.1 39 = .ok (.iconst 2, 1) := by decide +kernel
theorem dX12_mark_40 : decode yX12_mark.2.1 40 = .ok (.if_icmp .le 7, 3) := by decide +kernel
theorem dX12_mark_43 : decode yX12_mark.2.1 43 = .ok (.iconst 1, 1) := by decide +kernel
theorem dX12_mark_44 : decode yX12_mark.2.1 44 = .ok (.goto 4, 3) := by decide +kernel
theorem dX12_mark_47 : decode yX12_mark.2.1 47 = .ok (.iconst 0, 1) := by decide +kernel
theorem dX12_mark_48 : decode yX12_mark.2.1 48 = .ok (.istore 4, 2) := by decide +kernel
theorem dX12_mark_50 : decode yX12_mark.2.1 50 = .ok (.iload 4, 2) := by decide +kernel
theorem dX12_mark_52 : decode yX12_mark.2.1 52 = .ok (.ifCond .eq 12, 3) := by decide +kernel
theorem dX12_mark_55 : decode yX12_mark.2.1 55 = .ok (.aload_n 0, 1) := by decide +kernel
theorem dX12_mark_56 : decode yX12_mark.2.1 56 = .ok (.iload_n 1, 1) := by decide +kernel
theorem dX12_mark_57 : decode yX12_mark.2.1 57 = .ok (.iload_n 2, 1) := by decide +kernel
theorem dX12_mark_58 : decode yX12_mark.2.1 58 = .ok (.invokevirtual 196, 3) := by decide +kernel
theorem dX12_mark_61 : decode yX12_mark.2.1 61 = .ok (.goto 8, 3) := by decide +kernel
theorem dX12_mark_64 : decode yX12_mark.2.1 64 = .ok (.aload_n 0, 1) := by decide +kernel
theorem dX12_mark_65 : decode yX12_mark.2.1 65 = .ok (.iconst 3, 1) := by decide +kernel
theorem dX12_mark_66 : decode yX12_mark.2.1 66 = .ok (.invokevirtual 134, 3) := by decide +kernel
theorem dX12_mark_69 : decode yX12_mark.2.1 69 = .ok (.ireturn, 1) := by decide +kernel
theorem dX12_next_0 : decode yX12_next.2.1 0 = .ok (.iload_n 2, 1) := by decide +kernel
theorem dX12_next_1 : decode yX12_next.2.1 1 = .ok (.istore 4, 2) := by decide +kernel
theorem dX12_next_3 : decode yX12_next.2.1 3 = .ok (.iload 4, 2) := by decide +kernel
theorem dX12_next_5 : decode yX12_next.2.1 5 = .ok (.aload_n 0, 1) := by decide +kernel
theorem dX12_next_6 : decode yX12_next.2.1 6 = .ok (.getfield 29, 3) := by decide +kernel
theorem dX12_next_9 : decode yX12_next.2.1 9 = .ok (.iload_n 1, 1) := by decide +kernel
theorem dX12_next_10 : decode yX12_next.2.1 10 = .ok (.iaload, 1) := by decide +kernel
theorem dX12_next_11 : decode yX12_next.2.1 11 = .ok (.if_icmp .ge 23, 3) := by decide +kernel
theorem dX12_next_14 : decode yX12_next.2.1 14 = .ok (.aload_n 0, 1) := by decide +kernel
theorem dX12_next_15 : decode yX12_next.2.1 15 = .ok (.iload_n 1, 1) := by decide +kernel
theorem dX12_next_16 : decode yX12_next.2.1 16 = .ok (.iload 4, 2) := by decide +kernel
theorem dX12_next_18 : decode yX12_next.2.1 18 = .ok (.invokevirtual 148, 3) := by decide +kernel
theorem dX12_next_21 : decode yX12_next.2.1 21 = .ok (.iload_n 3, 1) := by decide +kernel
theorem dX12_next_22 : decode yX12_next.2.1 22 = .ok (.if_icmp .ne 6, 3) := by decide +kernel
theorem dX12_next_25 : decode yX12_next.2.1 25 = .ok (.iload 4, 2) := by decide +kernel
theorem dX12_next_27 : decode yX12_next.2.1 27 = .ok (.ireturn, 1) := by decide +kernel
theorem dX12_next_28 : decode yX12_next.2.1 28 = .ok (.iinc 4 1, 3) := by decide +kernel
theorem dX12_next_31 : decode yX12_next.2.1 31 = .ok (.goto (-28), 3) := by decide +kernel
theorem dX12_next_34 : decode yX12_next.2.1 34 = .ok (.bipush (-9), 2) := by decide +kernel
theorem dX12_next_36 : decode yX12_next.2.1 36 = .ok (.ireturn, 1) := by decide +kernel
theorem dX12_ways_0 : decode yX12_ways.2.1 0 = .ok (.aload_n 0, 1) := by decide +kernel
theorem dX12_ways_1 : decode yX12_ways.2.1 1 = .ok (.iconst 1, 1) := by decide +kernel
theorem dX12_ways_2 : decode yX12_ways.2.1 2 = .ok (.iload_n 1, 1) := by decide +kernel
theorem dX12_ways_3 : decode yX12_ways.2.1 3 = .ok (.iload_n 2, 1) := by decide +kernel
theorem dX12_ways_4 : decode yX12_ways.2.1 4 = .ok (.invokevirtual 188, 3) := by decide +kernel
theorem dX12_ways_7 : decode yX12_ways.2.1 7 = .ok (.istore_n 3, 1) := by decide +kernel
theorem dX12_ways_8 : decode yX12_ways.2.1 8 = .ok (.iload_n 3, 1) := by decide +kernel
theorem dX12_ways_9 : decode yX12_ways.2.1 9 = .ok (.ifCond .ge 5, 3) := by decide +kernel
theorem dX12_ways_12 : decode yX12_ways.2.1 12 = .ok (.iload_n 3, 1) := by decide +kernel
theorem dX12_ways_13 : decode yX12_ways.2.1 13 = .ok (.ireturn, 1) := by decide +kernel
theorem dX12_ways_14 : decode yX12_ways.2.1 14 = .ok (.aload_n 0, 1) := by decide +kernel
theorem dX12_ways_15 : decode yX12_ways.2.1 15 = .ok (.iload_n 1, 1) := by decide +kernel
theorem dX12_ways_16 : decode yX12_ways.2.1 16 = .ok (.iload_n 2, 1) := by decide +kernel
theorem dX12_ways_17 : decode yX12_ways.2.1 17 = .ok (.invokevirtual 199, 3) := by decide +kernel
theorem dX12_ways_20 : decode yX12_ways.2.1 20 = .ok (.aload_n 0, 1) := by decide +kernel
theorem dX12_ways_21 : decode yX12_ways.2.1 21 = .ok (.getfield 53, 3) := by decide +kernel
theorem dX12_ways_24 : decode yX12_ways.2.1 24 = .ok (.aload_n 0, 1) := by decide +kernel
theorem dX12_ways_25 : decode yX12_ways.2.1 25 = .ok (.getfield 29, 3) := by decide +kernel
theorem dX12_ways_28 : decode yX12_ways.2.1 28 = .ok (.iload_n 2, 1) := by decide +kernel
theorem dX12_ways_29 : decode yX12_ways.2.1 29 = .ok (.iaload, 1) := by decide +kernel
theorem dX12_ways_30 : decode yX12_ways.2.1 30 = .ok (.laload, 1) := by decide +kernel
theorem dX12_ways_31 : decode yX12_ways.2.1 31 = .ok (.lstore 4, 2) := by decide +kernel
theorem dX12_ways_33 : decode yX12_ways.2.1 33 = .ok (.aload_n 0, 1) := by decide +kernel
theorem dX12_ways_34 : decode yX12_ways.2.1 34 = .ok (.lload 4, 2) := by decide +kernel
theorem dX12_ways_36 : decode yX12_ways.2.1 36 = .ok (.lload 4, 2) := by decide +kernel
theorem dX12_ways_38 : decode yX12_ways.2.1 38 = .ok (.lconst 0, 1) := by decide +kernel
theorem dX12_ways_39 : decode yX12_ways.2.1 39 = .ok (.lcmp, 1) := by decide +kernel
theorem dX12_ways_40 : decode yX12_ways.2.1 40 = .ok (.ifCond .le 7, 3) := by decide +kernel
theorem dX12_ways_43 : decode yX12_ways.2.1 43 = .ok (.iconst 1, 1) := by decide +kernel
theorem dX12_ways_44 : decode yX12_ways.2.1 44 = .ok (.goto 4, 3) := by decide +kernel
theorem dX12_ways_47 : decode yX12_ways.2.1 47 = .ok (.iconst 0, 1) := by decide +kernel
theorem dX12_ways_48 : decode yX12_ways.2.1 48 = .ok (.invokevirtual 202, 3) := by decide +kernel
theorem dX12_ways_51 : decode yX12_ways.2.1 51 = .ok (.ireturn, 1) := by decide +kernel
theorem dX12_layWays_0 : decode yX12_layWays.2.1 0 = .ok (.iconst 0, 1) := by decide +kernel
theorem dX12_layWays_1 : decode yX12_layWays.2.1 1 = .ok (.istore_n 3, 1) := by decide +kernel
theorem dX12_layWays_2 : decode yX12_layWays.2.1 2 = .ok (.iload_n 3, 1) := by decide +kernel
theorem dX12_layWays_3 : decode yX12_layWays.2.1 3 = .ok (.bipush 40, 2) := by decide +kernel
theorem dX12_layWays_5 : decode yX12_layWays.2.1 5 = .ok (.if_icmp .gt 24, 3) := by decide +kernel
theorem dX12_layWays_8 : decode yX12_layWays.2.1 8 = .ok (.aload_n 0, 1) := by decide +kernel
theorem dX12_layWays_9 : decode yX12_layWays.2.1 9 = .ok (.getfield 53, 3) := by decide +kernel
theorem dX12_layWays_12 : decode yX12_layWays.2.1 12 = .ok (.iload_n 3, 1) := by decide +kernel
theorem dX12_layWays_13 : decode yX12_layWays.2.1 13 = .ok (.iload_n 3, 1) := by decide +kernel
theorem dX12_layWays_14 : decode yX12_layWays.2.1 14 = .ok (.ifCond .ne 7, 3) := by decide +kernel
theorem dX12_layWays_17 : decode yX12_layWays.2.1 17 = .ok (.lconst 1, 1) := by decide +kernel
theorem dX12_layWays_18 : decode yX12_layWays.2.1 18 = .ok (.goto 4, 3) := by decide +kernel
theorem dX12_layWays_21 : decode yX12_layWays.2.1 21 = .ok (.lconst 0, 1) := by decide +kernel
theorem dX12_layWays_22 : decode yX12_layWays.2.1 22 = .ok (.lastore, 1) := by decide +kernel
theorem dX12_layWays_23 : decode yX12_layWays.2.1 23 = .ok (.iinc 3 1, 3) := by decide +kernel
theorem dX12_layWays_26 : decode yX12_layWays.2.1 26 = .ok (.goto (-24), 3) := by decide +kernel
theorem dX12_layWays_29 : decode yX12_layWays.2.1 29 = .ok (.iconst 0, 1) := by decide +kernel
theorem dX12_layWays_30 : decode yX12_layWays.2.1 30 = .ok (.istore_n 3, 1) := by decide +kernel
theorem dX12_layWays_31 : decode yX12_layWays.2.1 31 = .ok (.iload_n 3, 1) := by decide +kernel
theorem dX12_layWays_32 : decode yX12_layWays.2.1 32 = .ok (.aload_n 0, 1) := by decide +kernel
theorem dX12_layWays_33 : decode yX12_layWays.2.1 33 = .ok (.getfield 29, 3) := by decide +kernel
theorem dX12_layWays_36 : decode yX12_layWays.2.1 36 = .ok (.iload_n 1, 1) := by decide +kernel
theorem dX12_layWays_37 : decode yX12_layWays.2.1 37 = .ok (.iaload, 1) := by decide +kernel
theorem dX12_layWays_38 : decode yX12_layWays.2.1 38 = .ok (.if_icmp .ge 69, 3) := by decide +kernel
theorem dX12_layWays_41 : decode yX12_layWays.2.1 41 = .ok (.aload_n 0, 1) := by decide +kernel
theorem dX12_layWays_42 : decode yX12_layWays.2.1 42 = .ok (.getfield 29, 3) := by decide +kernel
theorem dX12_layWays_45 : decode yX12_layWays.2.1 45 = .ok (.iload_n 2, 1) := by decide +kernel
theorem dX12_layWays_46 : decode yX12_layWays.2.1 46 = .ok (.iaload, 1) := by decide +kernel
theorem dX12_layWays_47 : decode yX12_layWays.2.1 47 = .ok (.istore 4, 2) := by decide +kernel
theorem dX12_layWays_49 : decode yX12_layWays.2.1 49 = .ok (.iload 4, 2) := by decide +kernel
theorem dX12_layWays_51 : decode yX12_layWays.2.1 51 = .ok (.ifCond .le 50, 3) := by decide +kernel
theorem dX12_layWays_54 : decode yX12_layWays.2.1 54 = .ok (.aload_n 0, 1) := by decide +kernel
theorem dX12_layWays_55 : decode yX12_layWays.2.1 55 = .ok (.getfield 53, 3) := by decide +kernel
theorem dX12_layWays_58 : decode yX12_layWays.2.1 58 = .ok (.iload 4, 2) := by decide +kernel
theorem dX12_layWays_60 : decode yX12_layWays.2.1 60 = .ok (.dup2, 1) := by decide +kernel
theorem dX12_layWays_61 : decode yX12_layWays.2.1 61 = .ok (.laload, 1) := by decide +kernel
theorem dX12_layWays_62 : decode yX12_layWays.2.1 62 = .ok (.aload_n 0, 1) := by decide +kernel
theorem dX12_layWays_63 : decode yX12_layWays.2.1 63 = .ok (.iload_n 1, 1) := by decide +kernel
theorem dX12_layWays_64 : decode yX12_layWays.2.1 64 = .ok (.iload_n 3, 1) := by decide +kernel
theorem dX12_layWays_65 : decode yX12_layWays.2.1 65 = .ok (.invokevirtual 148, 3) := by decide +kernel
theorem dX12_layWays_68 : decode yX12_layWays.2.1 68 = .ok (.aload_n 0, 1) := by decide +kernel
theorem dX12_layWays_69 : decode yX12_layWays.2.1 69 = .ok (.iload_n 2, 1) := by decide +kernel
theorem dX12_layWays_70 : decode yX12_layWays.2.1 70 = .ok (.iload 4, 2) := by decide +kernel
theorem dX12_layWays_72 : decode yX12_layWays.2.1 72 = .ok (.iconst 1, 1) := by decide +kernel
theorem dX12_layWays_73 : decode yX12_layWays.2.1 73 = .ok (.isub, 1) := by decide +kernel
theorem dX12_layWays_74 : decode yX12_layWays.2.1 74 = .ok (.invokevirtual 148, 3) := by decide +kernel
theorem dX12_layWays_77 : decode yX12_layWays.2.1 77 = .ok (.if_icmp .ne 15, 3) := by decide +kernel
theorem dX12_layWays_80 : decode yX12_layWays.2.1 80 = .ok (.aload_n 0, 1) := by decide +kernel
theorem dX12_layWays_81 : decode yX12_layWays.2.1 81 = .ok (.getfield 53, 3) := by decide +kernel
theorem dX12_layWays_84 : decode yX12_layWays.2.1 84 = .ok (.iload 4, 2) := by decide +kernel
theorem dX12_layWays_86 : decode yX12_layWays.2.1 86 = .ok (.iconst 1, 1) := by decide +kernel
theorem dX12_layWays_87 : decode yX12_layWays.2.1 87 = .ok (.isub, 1) := by decide +kernel
theorem dX12_layWays_88 : decode yX12_layWays.2.1 88 = .ok (.laload, 1) := by decide +kernel
theorem dX12_layWays_89 : decode yX12_layWays.2.1 89 = .ok (.goto 4, 3) := by decide +kernel
theorem dX12_layWays_92 : decode yX12_layWays.2.1 92 = .ok (.lconst 0, 1) := by decide +kernel
theorem dX12_layWays_93 : decode yX12_layWays.2.1 93 = .ok (.ladd, 1) := by decide +kernel
theorem dX12_layWays_94 : decode yX12_layWays.2.1 94 = .ok (.lastore, 1) := by decide +kernel
theorem dX12_layWays_95 : decode yX12_layWays.2.1 95 = .ok (.iinc 4 (-1), 3) := by decide +kernel
theorem dX12_layWays_98 : decode yX12_layWays.2.1 98 = .ok (.goto (-49), 3) := by decide +kernel
theorem dX12_layWays_101 : decode yX12_layWays.2.1 101 = .ok (.iinc 3 1, 3) := by decide +kernel
theorem dX12_layWays_104 : decode yX12_layWays.2.1 104 = .ok (.goto (-73), 3) := by decide +kernel
theorem dX12_layWays_107 : decode yX12_layWays.2.1 107 = .ok (.return_, 1) := by decide +kernel
theorem dX12_layPlaces_0 : decode yX12_layPlaces.2.1 0 = .ok (.aload_n 0, 1) := by decide +kernel
theorem dX12_layPlaces_1 : decode yX12_layPlaces.2.1 1 = .ok (.getfield 29, 3) := by decide +kernel
theorem dX12_layPlaces_4 : decode yX12_layPlaces.2.1 4 = .ok (.iload_n 2, 1) := by decide +kernel
theorem dX12_layPlaces_5 : decode yX12_layPlaces.2.1 5 = .ok (.iaload, 1) := by decide +kernel
theorem dX12_layPlaces_6 : decode yX12_layPlaces.2.1 6 = .ok (.istore_n 3, 1) := by decide +kernel
theorem dX12_layPlaces_7 : decode yX12_layPlaces.2.1 7 = .ok (.iconst 0, 1) := by decide +kernel
theorem dX12_layPlaces_8 : decode yX12_layPlaces.2.1 8 = .ok (.istore 4, 2) := by decide +kernel
theorem dX12_layPlaces_10 : decode yX12_layPlaces.2.1 10 = .ok (.iconst 0, 1) := by decide +kernel
theorem dX12_layPlaces_11 : decode yX12_layPlaces.2.1 11 = .ok (.istore 5, 2) := by decide +kernel
theorem dX12_layPlaces_13 : decode yX12_layPlaces.2.1 13 = .ok (.iload 5, 2) := by decide +kernel
theorem dX12_layPlaces_15 : decode yX12_layPlaces.2.1 15 = .ok (.iload_n 3, 1) := by decide +kernel
theorem dX12_layPlaces_16 : decode yX12_layPlaces.2.1 16 = .ok (.if_icmp .ge 49, 3) := by decide +kernel
theorem dX12_layPlaces_19 : decode yX12_layPlaces.2.1 19 = .ok (.aload_n 0, 1) := by decide +kernel
theorem dX12_layPlaces_20 : decode yX12_layPlaces.2.1 20 = .ok (.iload_n 1, 1) := by decide +kernel
theorem dX12_layPlaces_21 : decode yX12_layPlaces.2.1 21 = .ok (.iload 4, 2) := by decide +kernel
theorem dX12_layPlaces_23 : decode yX12_layPlaces.2.1 23 = .ok (.aload_n 0, 1) := by decide +kernel
theorem dX12_layPlaces_24 : decode yX12_layPlaces.2.1 24 = .ok (.iload_n 2, 1) := by decide +kernel
theorem dX12_layPlaces_25 : decode yX12_layPlaces.2.1 25 = .ok (.iload 5, 2) := by decide +kernel
theorem dX12_layPlaces_27 : decode yX12_layPlaces.2.1 27 = .ok (.invokevirtual 148, 3) := by decide +kernel
theorem dX12_layPlaces_30 : decode yX12_layPlaces.2.1 30 = .ok (.invokevirtual 206, 3) := by decide +kernel
theorem dX12_layPlaces_33 : decode yX12_layPlaces.2.1 33 = .ok (.istore 6, 2) := by decide +kernel
theorem dX12_layPlaces_35 : decode yX12_layPlaces.2.1 35 = .ok (.iload 6, 2) := by decide +kernel
theorem dX12_layPlaces_37 : decode yX12_layPlaces.2.1 37 = .ok (.bipush (-9), 2) := by decide +kernel
theorem dX12_layPlaces_39 : decode yX12_layPlaces.2.1 39 = .ok (.if_icmp .ne 5, 3) := by decide +kernel
theorem dX12_layPlaces_42 : decode yX12_layPlaces.2.1 42 = .ok (.iconst 0, 1) := by decide +kernel
theorem dX12_layPlaces_43 : decode yX12_layPlaces.2.1 43 = .ok (.ireturn, 1) := by decide +kernel
theorem dX12_layPlaces_44 : decode yX12_layPlaces.2.1 44 = .ok (.aload_n 0, 1) := by decide +kernel
theorem dX12_layPlaces_45 : decode yX12_layPlaces.2.1 45 = .ok (.getfield 57, 3) := by decide +kernel
theorem dX12_layPlaces_48 : decode yX12_layPlaces.2.1 48 = .ok (.iload 5, 2) := by decide +kernel
theorem dX12_layPlaces_50 : decode yX12_layPlaces.2.1 50 = .ok (.iload 6, 2) := by decide +kernel
theorem dX12_layPlaces_52 : decode yX12_layPlaces.2.1 52 = .ok (.iastore, 1) := by decide +kernel
theorem dX12_layPlaces_53 : decode yX12_layPlaces.2.1 53 = .ok (.iload 6, 2) := by decide +kernel
theorem dX12_layPlaces_55 : decode yX12_layPlaces.2.1 55 = .ok (.iconst 1, 1) := by decide +kernel
theorem dX12_layPlaces_56 : decode yX12_layPlaces.2.1 56 = .ok (.iadd, 1) := by decide +kernel
theorem dX12_layPlaces_57 : decode yX12_layPlaces.2.1 57 = .ok (.istore 4, 2) := by decide +kernel
theorem dX12_layPlaces_59 : decode yX12_layPlaces.2.1 59 = .ok (.iinc 5 1, 3) := by decide +kernel
theorem dX12_layPlaces_62 : decode yX12_layPlaces.2.1 62 = .ok (.goto (-49), 3) := by decide +kernel
theorem dX12_layPlaces_65 : decode yX12_layPlaces.2.1 65 = .ok (.aload_n 0, 1) := by decide +kernel
theorem dX12_layPlaces_66 : decode yX12_layPlaces.2.1 66 = .ok (.getfield 29, 3) := by decide +kernel
theorem dX12_layPlaces_69 : decode yX12_layPlaces.2.1 69 = .ok (.iload_n 1, 1) := by decide +kernel
theorem dX12_layPlaces_70 : decode yX12_layPlaces.2.1 70 = .ok (.iaload, 1) := by decide +kernel
theorem dX12_layPlaces_71 : decode yX12_layPlaces.2.1 71 = .ok (.iconst 1, 1) := by decide +kernel
theorem dX12_layPlaces_72 : decode yX12_layPlaces.2.1 72 = .ok (.isub, 1) := by decide +kernel
theorem dX12_layPlaces_73 : decode yX12_layPlaces.2.1 73 = .ok (.istore 5, 2) := by decide +kernel
theorem dX12_layPlaces_75 : decode yX12_layPlaces.2.1 75 = .ok (.iload_n 3, 1) := by decide +kernel
theorem dX12_layPlaces_76 : decode yX12_layPlaces.2.1 76 = .ok (.iconst 1, 1) := by decide +kernel
theorem dX12_layPlaces_77 : decode yX12_layPlaces.2.1 77 = .ok (.isub, 1) := by decide +kernel
theorem dX12_layPlaces_78 : decode yX12_layPlaces.2.1 78 = .ok (.istore 6, 2) := by decide +kernel
theorem dX12_layPlaces_80 : decode yX12_layPlaces.2.1 80 = .ok (.iload 6, 2) := by decide +kernel
theorem dX12_layPlaces_82 : decode yX12_layPlaces.2.1 82 = .ok (.ifCond .lt 44, 3) := by decide +kernel
theorem dX12_layPlaces_85 : decode yX12_layPlaces.2.1 85 = .ok (.aload_n 0, 1) := by decide +kernel
theorem dX12_layPlaces_86 : decode yX12_layPlaces.2.1 86 = .ok (.iload_n 1, 1) := by decide +kernel
theorem dX12_layPlaces_87 : decode yX12_layPlaces.2.1 87 = .ok (.iload 5, 2) := by decide +kernel
theorem dX12_layPlaces_89 : decode yX12_layPlaces.2.1 89 = .ok (.invokevirtual 148, 3) := by decide +kernel
theorem dX12_layPlaces_92 : decode yX12_layPlaces.2.1 92 = .ok (.aload_n 0, 1) := by decide +kernel
theorem dX12_layPlaces_93 : decode yX12_layPlaces.2.1 93 = .ok (.iload_n 2, 1) := by decide +kernel
theorem dX12_layPlaces_94 : decode yX12_layPlaces.2.1 94 = .ok (.iload 6, 2) := by decide +kernel
theorem dX12_layPlaces_96 : decode yX12_layPlaces.2.1 96 = .ok (.invokevirtual 148, 3) := by decide +kernel
theorem dX12_layPlaces_99 : decode yX12_layPlaces.2.1 99 = .ok (.if_icmp .eq 9, 3) := by decide +kernel
theorem dX12_layPlaces_102 : decode yX12_layPlaces.2.1 102 = .ok (.iinc 5 (-1), 3) := by decide +kernel
theorem dX12_layPlaces_105 : decode yX12_layPlaces.2.1 105 = .ok (.goto (-20), 3) := by decide +kernel
theorem dX12_layPlaces_108 : decode yX12_layPlaces.2.1 108 = .ok (.aload_n 0, 1) := by decide +kernel
theorem dX12_layPlaces_109 : decode yX12_layPlaces.2.1 109 = .ok (.getfield 60, 3) := by decide +kernel
theorem dX12_layPlaces_112 : decode yX12_layPlaces.2.1 112 = .ok (.iload 6, 2) := by decide +kernel
theorem dX12_layPlaces_114 : decode yX12_layPlaces.2.1 114 = .ok (.iload 5, 2) := by decide +kernel
theorem dX12_layPlaces_116 : decode yX12_layPlaces.2.1 116 = .ok (.iastore, 1) := by decide +kernel
theorem dX12_layPlaces_117 : decode yX12_layPlaces.2.1 117 = .ok (.iinc 5 (-1), 3) := by decide +kernel
theorem dX12_layPlaces_120 : decode yX12_layPlaces.2.1 120 = .ok (.iinc 6 (-1), 3) := by decide +kernel
theorem dX12_layPlaces_123 : decode yX12_layPlaces.2.1 123 = .ok (.goto (-43), 3) := by decide +kernel
theorem dX12_layPlaces_126 : decode yX12_layPlaces.2.1 126 = .ok (.iconst 1, 1) := by decide +kernel
theorem dX12_layPlaces_127 : decode yX12_layPlaces.2.1 127 = .ok (.ireturn, 1) := by decide +kernel
theorem dX12_way_0 : decode yX12_way.2.1 0 = .ok (.aload_n 0, 1) := by decide +kernel
theorem dX12_way_1 : decode yX12_way.2.1 1 = .ok (.iload_n 3, 1) := by decide +kernel
theorem dX12_way_2 : decode yX12_way.2.1 2 = .ok (.invokestatic 130, 3) := by decide +kernel
theorem dX12_way_5 : decode yX12_way.2.1 5 = .ok (.iload_n 1, 1) := by decide +kernel
theorem dX12_way_6 : decode yX12_way.2.1 6 = .ok (.iload_n 2, 1) := by decide +kernel
theorem dX12_way_7 : decode yX12_way.2.1 7 = .ok (.invokevirtual 188, 3) := by decide +kernel
theorem dX12_way_10 : decode yX12_way.2.1 10 = .ok (.istore 5, 2) := by decide +kernel
theorem dX12_way_12 : decode yX12_way.2.1 12 = .ok (.iload 5, 2) := by decide +kernel
theorem dX12_way_14 : decode yX12_way.2.1 14 = .ok (.ifCond .ge 6, 3) := by decide +kernel
theorem dX12_way_17 : decode yX12_way.2.1 17 = .ok (.iload 5, 2) := by decide +kernel
theorem dX12_way_19 : decode yX12_way.2.1 19 = .ok (.ireturn, 1) := by decide +kernel
theorem dX12_way_20 : decode yX12_way.2.1 20 = .ok (.aload_n 0, 1) := by decide +kernel
theorem dX12_way_21 : decode yX12_way.2.1 21 = .ok (.iload_n 1, 1) := by decide +kernel
theorem dX12_way_22 : decode yX12_way.2.1 22 = .ok (.iload_n 2, 1) := by decide +kernel
theorem dX12_way_23 : decode yX12_way.2.1 23 = .ok (.invokevirtual 210, 3) := by decide +kernel
theorem dX12_way_26 : decode yX12_way.2.1 26 = .ok (.ifCond .ne 6, 3) := by decide +kernel
theorem dX12_way_29 : decode yX12_way.2.1 29 = .ok (.bipush (-9), 2) := by decide +kernel
theorem dX12_way_31 : decode yX12_way.2.1 31 = .ok (.ireturn, 1) := by decide +kernel
theorem dX12_way_32 : decode yX12_way.2.1 32 = .ok (.aload_n 0, 1) := by decide +kernel
theorem dX12_way_33 : decode yX12_way.2.1 33 = .ok (.aload_n 0, 1) := by decide +kernel
theorem dX12_way_34 : decode yX12_way.2.1 34 = .ok (.getfield 29, 3) := by decide +kernel
theorem dX12_way_37 : decode yX12_way.2.1 37 = .ok (.iload_n 2, 1) := by decide +kernel
theorem dX12_way_38 : decode yX12_way.2.1 38 = .ok (.iaload, 1) := by decide +kernel
theorem dX12_way_39 : decode yX12_way.2.1 39 = .ok (.putfield 151, 3) := by decide +kernel
theorem dX12_way_42 : decode yX12_way.2.1 42 = .ok (.iconst 0, 1) := by decide +kernel
theorem dX12_way_43 : decode yX12_way.2.1 43 = .ok (.istore 6, 2) := by decide +kernel
theorem dX12_way_45 : decode yX12_way.2.1 45 = .ok (.iload 6, 2) := by decide +kernel
theorem dX12_way_47 : decode yX12_way.2.1 47 = .ok (.aload_n 0, 1) := by decide +kernel
theorem dX12_way_48 : decode yX12_way.2.1 48 = .ok (.getfield 151, 3) := by decide +kernel
theorem dX12_way_51 : decode yX12_way.2.1 51 = .ok (.if_icmp .ge 38, 3) := by decide +kernel
theorem dX12_way_54 : decode yX12_way.2.1 54 = .ok (.aload_n 0, 1) := by decide +kernel
theorem dX12_way_55 : decode yX12_way.2.1 55 = .ok (.getfield 44, 3) := by decide +kernel
theorem dX12_way_58 : decode yX12_way.2.1 58 = .ok (.iload 6, 2) := by decide +kernel
theorem dX12_way_60 : decode yX12_way.2.1 60 = .ok (.iload 4, 2) := by decide +kernel
theorem dX12_way_62 : decode yX12_way.2.1 62 = .ok (.ifCond .eq 13, 3) := by decide +kernel
theorem dX12_way_65 : decode yX12_way.2.1 65 = .ok (.aload_n 0, 1) := by decide +kernel
theorem dX12_way_66 : decode yX12_way.2.1 66 = .ok (.getfield 60, 3) := by decide +kernel
theorem dX12_way_69 : decode yX12_way.2.1 69 = .ok (.iload 6, 2) := by decide +kernel
theorem dX12_way_71 : decode yX12_way.2.1 71 = .ok (.iaload, 1) := by decide +kernel
theorem dX12_way_72 : decode yX12_way.2.1 72 = .ok (.goto 10, 3) := by decide +kernel
theorem dX12_way_75 : decode yX12_way.2.1 75 = .ok (.aload_n 0, 1) := by decide +kernel
theorem dX12_way_76 : decode yX12_way.2.1 76 = .ok (.getfield 57, 3) := by decide +kernel
theorem dX12_way_79 : decode yX12_way.2.1 79 = .ok (.iload 6, 2) := by decide +kernel
theorem dX12_way_81 : decode yX12_way.2.1 81 = .ok (.iaload, 1) := by decide +kernel
theorem dX12_way_82 : decode yX12_way.2.1 82 = .ok (.iastore, 1) := by decide +kernel
theorem dX12_way_83 : decode yX12_way.2.1 83 = .ok (.iinc 6 1, 3) := by decide +kernel
theorem dX12_way_86 : decode yX12_way.2.1 86 = .ok (.goto (-41), 3) := by decide +kernel
theorem dX12_way_89 : decode yX12_way.2.1 89 = .ok (.aload_n 0, 1) := by decide +kernel
theorem dX12_way_90 : decode yX12_way.2.1 90 = .ok (.iload_n 3, 1) := by decide +kernel
theorem dX12_way_91 : decode yX12_way.2.1 91 = .ok (.invokevirtual 214, 3) := by decide +kernel
theorem dX12_way_94 : decode yX12_way.2.1 94 = .ok (.aload_n 0, 1) := by decide +kernel
theorem dX12_way_95 : decode yX12_way.2.1 95 = .ok (.getfield 151, 3) := by decide +kernel
theorem dX12_way_98 : decode yX12_way.2.1 98 = .ok (.ireturn, 1) := by decide +kernel
theorem dX12_places_0 : decode yX12_places.2.1 0 = .ok (.aload_n 0, 1) := by decide +kernel
theorem dX12_places_1 : decode yX12_places.2.1 1 = .ok (.iconst 1, 1) := by decide +kernel
theorem dX12_places_2 : decode yX12_places.2.1 2 = .ok (.iload_n 1, 1) := by decide +kernel
theorem dX12_places_3 : decode yX12_places.2.1 3 = .ok (.iload_n 2, 1) := by decide +kernel
theorem dX12_places_4 : decode yX12_places.2.1 4 = .ok (.invokevirtual 188, 3) := by decide +kernel
theorem dX12_places_7 : decode yX12_places.2.1 7 = .ok (.istore 4, 2) := by decide +kernel
theorem dX12_places_9 : decode yX12_places.2.1 9 = .ok (.iload 4, 2) := by decide +kernel
theorem dX12_places_11 : decode yX12_places.2.1 11 = .ok (.ifCond .ge 6, 3) := by decide +kernel
theorem dX12_places_14 : decode yX12_places.2.1 14 = .ok (.iload 4, 2) := by decide +kernel
theorem dX12_places_16 : decode yX12_places.2.1 16 = .ok (.ireturn, 1) := by decide +kernel
theorem dX12_places_17 : decode yX12_places.2.1 17 = .ok (.aload_n 0, 1) := by decide +kernel
theorem dX12_places_18 : decode yX12_places.2.1 18 = .ok (.iload_n 1, 1) := by decide +kernel
theorem dX12_places_19 : decode yX12_places.2.1 19 = .ok (.iload_n 2, 1) := by decide +kernel
theorem dX12_places_20 : decode yX12_places.2.1 20 = .ok (.invokevirtual 210, 3) := by decide +kernel
theorem dX12_places_23 : decode yX12_places.2.1 23 = .ok (.ifCond .ne 6, 3) := by decide +kernel
theorem dX12_places_26 : decode yX12_places.2.1 26 = .ok (.bipush (-9), 2) := by decide +kernel
theorem dX12_places_28 : decode yX12_places.2.1 28 = .ok (.ireturn, 1) := by decide +kernel
theorem dX12_places_29 : decode yX12_places.2.1 29 = .ok (.lconst 0, 1) := by decide +kernel
theorem dX12_places_30 : decode yX12_places.2.1 30 = .ok (.lstore 5, 2) := by decide +kernel
theorem dX12_places_32 : decode yX12_places.2.1 32 = .ok (.iconst 0, 1) := by decide +kernel
theorem dX12_places_33 : decode yX12_places.2.1 33 = .ok (.istore 7, 2) := by decide +kernel
theorem dX12_places_35 : decode yX12_places.2.1 35 = .ok (.iconst 0, 1) := by decide +kernel
theorem dX12_places_36 : decode yX12_places.2.1 36 = .ok (.istore 8, 2) := by decide +kernel
theorem dX12_places_38 : decode yX12_places.2.1 38 = .ok (.iload 8, 2) := by decide +kernel
theorem dX12_places_40 : decode yX12_places.2.1 40 = .ok (.aload_n 0, 1) := by decide +kernel
theorem dX12_places_41 : decode yX12_places.2.1 41 = .ok (.getfield 29, 3) := by decide +kernel
theorem dX12_places_44 : decode yX12_places.2.1 44 = .ok (.iload_n 1, 1) := by decide +kernel
theorem dX12_places_45 : decode yX12_places.2.1 45 = .ok (.iaload, 1) := by decide +kernel
theorem dX12_places_46 : decode yX12_places.2.1 46 = .ok (.if_icmp .ge 159, 3) := by decide +kernel
theorem dX12_places_49 : decode yX12_places.2.1 49 = .ok (.iconst 0, 1) := by decide +kernel
theorem dX12_places_50 : decode yX12_places.2.1 50 = .ok (.istore 9, 2) := by decide +kernel
theorem dX12_places_52 : decode yX12_places.2.1 52 = .ok (.iconst 0, 1) := by decide +kernel
theorem dX12_places_53 : decode yX12_places.2.1 53 = .ok (.istore 10, 2) := by decide +kernel
theorem dX12_places_55 : decode yX12_places.2.1 55 = .ok (.iload 10, 2) := by decide +kernel
theorem dX12_places_57 : decode yX12_places.2.1 57 = .ok (.aload_n 0, 1) := by decide +kernel
theorem dX12_places_58 : decode yX12_places.2.1 58 = .ok (.getfield 29, 3) := by decide +kernel
theorem dX12_places_61 : decode yX12_places.2.1 61 = .ok (.iload_n 2, 1) := by decide +kernel
theorem dX12_places_62 : decode yX12_places.2.1 62 = .ok (.iaload, 1) := by decide +kernel
theorem dX12_places_63 : decode yX12_places.2.1 63 = .ok (.if_icmp .ge 103, 3) := by decide +kernel
theorem dX12_places_66 : decode yX12_places.2.1 66 = .ok (.aload_n 0, 1) := by decide +kernel
theorem dX12_places_67 : decode yX12_places.2.1 67 = .ok (.iload_n 1, 1) := by decide +kernel
theorem dX12_places_68 : decode yX12_places.2.1 68 = .ok (.iload 8, 2) := by decide +kernel
theorem dX12_places_70 : decode yX12_places.2.1 70 = .ok (.invokevirtual 148, 3) := by decide +kernel
theorem dX12_places_73 : decode yX12_places.2.1 73 = .ok (.aload_n 0, 1) := by decide +kernel
theorem dX12_places_74 : decode yX12_places.2.1 74 = .ok (.iload_n 2, 1) := by decide +kernel
theorem dX12_places_75 : decode yX12_places.2.1 75 = .ok (.iload 10, 2) := by decide +kernel
theorem dX12_places_77 : decode yX12_places.2.1 77 = .ok (.invokevirtual 148, 3) := by decide +kernel
theorem dX12_places_80 : decode yX12_places.2.1 80 = .ok (.if_icmp .ne 31, 3) := by decide +kernel
theorem dX12_places_83 : decode yX12_places.2.1 83 = .ok (.iload 8, 2) := by decide +kernel
theorem dX12_places_85 : decode yX12_places.2.1 85 = .ok (.aload_n 0, 1) := by decide +kernel
theorem dX12_places_86 : decode yX12_places.2.1 86 = .ok (.getfield 57, 3) := by decide +kernel
theorem dX12_places_89 : decode yX12_places.2.1 89 = .ok (.iload 10, 2) := by decide +kernel
theorem dX12_places_91 : decode yX12_places.2.1 91 = .ok (.iaload, 1) := by decide +kernel
theorem dX12_places_92 : decode yX12_places.2.1 92 = .ok (.if_icmp .lt 19, 3) := by decide +kernel
theorem dX12_places_95 : decode yX12_places.2.1 95 = .ok (.iload 8, 2) := by decide +kernel
theorem dX12_places_97 : decode yX12_places.2.1 97 = .ok (.aload_n 0, 1) := by decide +kernel
theorem dX12_places_98 : decode yX12_places.2.1 98 = .ok (.getfield 60, 3) := by decide +kernel
theorem dX12_places_101 : decode yX12_places.2.1 101 = .ok (.iload 10, 2) := by decide +kernel
theorem dX12_places_103 : decode yX12_places.2.1 103 = .ok (.iaload, 1) := by decide +kernel
theorem dX12_places_104 : decode yX12_places.2.1 104 = .ok (.if_icmp .gt 7, 3) := by decide +kernel
theorem dX12_places_107 : decode yX12_places.2.1 107 = .ok (.iconst 1, 1) := by decide +kernel
theorem dX12_places_108 : decode yX12_places.2.1 108 = .ok (.goto 4, 3) := by decide +kernel
theorem dX12_places_111 : decode yX12_places.2.1 111 = .ok (.iconst 0, 1) := by decide +kernel
theorem dX12_places_112 : decode yX12_places.2.1 112 = .ok (.istore 11, 2) := by decide +kernel
theorem dX12_places_114 : decode yX12_places.2.1 114 = .ok (.iload 9, 2) := by decide +kernel
theorem dX12_places_116 : decode yX12_places.2.1 116 = .ok (.ifCond .ne 37, 3) := by decide +kernel
theorem dX12_places_119 : decode yX12_places.2.1 119 = .ok (.iload_n 3, 1) := by decide +kernel
theorem dX12_places_120 : decode yX12_places.2.1 120 = .ok (.ifCond .eq 28, 3) := by decide +kernel
theorem dX12_places_123 : decode yX12_places.2.1 123 = .ok (.iload 11, 2) := by decide +kernel
theorem dX12_places_125 : decode yX12_places.2.1 125 = .ok (.ifCond .eq 32, 3) := by decide +kernel
theorem dX12_places_128 : decode yX12_places.2.1 128 = .ok (.aload_n 0, 1) := by decide +kernel
theorem dX12_places_129 : decode yX12_places.2.1 129 = .ok (.getfield 57, 3) := by decide +kernel
theorem dX12_places_132 : decode yX12_places.2.1 132 = .ok (.iload 10, 2) := by decide +kernel
theorem dX12_places_134 : decode yX12_places.2.1 134 = .ok (.iaload, 1) := by decide +kernel
theorem dX12_places_135 : decode yX12_places.2.1 135 = .ok (.aload_n 0, 1) := by decide +kernel
theorem dX12_places_136 : decode yX12_places.2.1 136 = .ok (.getfield 60, 3) := by decide +kernel
theorem dX12_places_139 : decode yX12_places.2.1 139 = .ok (.iload 10, 2) := by decide +kernel
theorem dX12_places_141 : decode yX12_places.2.1 141 = .ok (.iaload, 1) := by decide +kernel
theorem dX12_places_142 : decode yX12_places.2.1 142 = .ok (.if_icmp .ne 15, 3) := by decide +kernel
theorem dX12_places_145 : decode yX12_places.2.1 145 = .ok (.goto 8, 3) := by decide +kernel
theorem dX12_places_148 : decode yX12_places.2.1 148 = .ok (.iload 11, 2) := by decide +kernel
theorem dX12_places_150 : decode yX12_places.2.1 150 = .ok (.ifCond .eq 7, 3) := by decide +kernel
theorem dX12_places_153 : decode yX12_places.2.1 153 = .ok (.iconst 1, 1) := by decide +kernel
theorem dX12_places_154 : decode yX12_places.2.1 154 = .ok (.goto 4, 3) := by decide +kernel
theorem dX12_places_157 : decode yX12_places.2.1 157 = .ok (.iconst 0, 1) := by decide +kernel
theorem dX12_places_158 : decode yX12_places.2.1 158 = .ok (.istore 9, 2) := by decide +kernel
theorem dX12_places_160 : decode yX12_places.2.1 160 = .ok (.iinc 10 1, 3) := by decide +kernel
theorem dX12_places_163 : decode yX12_places.2.1 163 = .ok (.goto (-108), 3) := by decide +kernel
theorem dX12_places_166 : decode yX12_places.2.1 166 = .ok (.lload 5, 2) := by decide +kernel
theorem dX12_places_168 : decode yX12_places.2.1 168 = .ok (.iload 9, 2) := by decide +kernel
theorem dX12_places_170 : decode yX12_places.2.1 170 = .ok (.ifCond .eq 10, 3) := by decide +kernel
theorem dX12_places_173 : decode yX12_places.2.1 173 = .ok (.lconst 1, 1) := by decide +kernel
theorem dX12_places_174 : decode yX12_places.2.1 174 = .ok (.iload 8, 2) := by decide +kernel
theorem dX12_places_176 : decode yX12_places.2.1 176 = .ok (.lshl, 1) := by decide +kernel
theorem dX12_places_177 : decode yX12_places.2.1 177 = .ok (.goto 4, 3) := by decide +kernel
theorem dX12_places_180 : decode yX12_places.2.1 180 = .ok (.lconst 0, 1) := by decide +kernel
theorem dX12_places_181 : decode yX12_places.2.1 181 = .ok (.lor, 1) := by decide +kernel
theorem dX12_places_182 : decode yX12_places.2.1 182 = .ok (.lstore 5, 2) := by decide +kernel
theorem dX12_places_184 : decode yX12_places.2.1 184 = .ok (.iload 7, 2) := by decide +kernel
theorem dX12_places_186 : decode yX12_places.2.1 186 = .ok (.iload 9, 2) := by decide +kernel
theorem dX12_places_188 : decode yX12_places.2.1 188 = .ok (.ifCond .eq 7, 3) := by decide +kernel
theorem dX12_places_191 : decode yX12_places.2.1 191 = .ok (.iconst 1, 1) := by decide +kernel
theorem dX12_places_192 : decode yX12_places.2.1 192 = .ok (.goto 4, 3) := by decide +kernel
theorem dX12_places_195 : decode yX12_places.2.1 195 = .ok (.iconst 0, 1) := by decide +kernel
theorem dX12_places_196 : decode yX12_places.2.1 196 = .ok (.iadd, 1) := by decide +kernel
theorem dX12_places_197 : decode yX12_places.2.1 197 = .ok (.istore 7, 2) := by decide +kernel
theorem dX12_places_199 : decode yX12_places.2.1 199 = .ok (.iinc 8 1, 3) := by decide +kernel
theorem dX12_places_202 : decode yX12_places.2.1 202 = .ok (.goto (-164), 3) := by decide +kernel
theorem dX12_places_205 : decode yX12_places.2.1 205 = .ok (.aload_n 0, 1) := by decide +kernel
theorem dX12_places_206 : decode yX12_places.2.1 206 = .ok (.lload 5, 2) := by decide +kernel
theorem dX12_places_208 : decode yX12_places.2.1 208 = .ok (.iload 7, 2) := by decide +kernel
theorem dX12_places_210 : decode yX12_places.2.1 210 = .ok (.invokevirtual 202, 3) := by decide +kernel
theorem dX12_places_213 : decode yX12_places.2.1 213 = .ok (.ireturn, 1) := by decide +kernel
theorem dX12_judge_0 : decode yX12_judge.2.1 0 = .ok (.iload_n 1, 1) := by decide +kernel
theorem dX12_judge_1 : decode yX12_judge.2.1 1 = .ok (.invokestatic 154, 3) := by decide +kernel
theorem dX12_judge_4 : decode yX12_judge.2.1 4 = .ok (.ifCond .eq 17, 3) := by decide +kernel
theorem dX12_judge_7 : decode yX12_judge.2.1 7 = .ok (.iload_n 2, 1) := by decide +kernel
theorem dX12_judge_8 : decode yX12_judge.2.1 8 = .ok (.invokestatic 154, 3) := by decide +kernel
theorem dX12_judge_11 : decode yX12_judge.2.1 11 = .ok (.ifCond .eq 10, 3) := by decide +kernel
theorem dX12_judge_14 : decode yX12_judge.2.1 14 = .ok (.iload_n 3, 1) := by decide +kernel
theorem dX12_judge_15 : decode yX12_judge.2.1 15 = .ok (.invokestatic 130, 3) := by decide +kernel
theorem dX12_judge_18 : decode yX12_judge.2.1 18 = .ok (.ifCond .ne 5, 3) := by decide +kernel
theorem dX12_judge_21 : decode yX12_judge.2.1 21 = .ok (.iconst (-1), 1) := by decide +kernel
theorem dX12_judge_22 : decode yX12_judge.2.1 22 = .ok (.ireturn, 1) := by decide +kernel
theorem dX12_judge_23 : decode yX12_judge.2.1 23 = .ok (.aload_n 0, 1) := by decide +kernel
theorem dX12_judge_24 : decode yX12_judge.2.1 24 = .ok (.iload_n 1, 1) := by decide +kernel
theorem dX12_judge_25 : decode yX12_judge.2.1 25 = .ok (.invokevirtual 185, 3) := by decide +kernel
theorem dX12_judge_28 : decode yX12_judge.2.1 28 = .ok (.ifCond .eq 20, 3) := by decide +kernel
theorem dX12_judge_31 : decode yX12_judge.2.1 31 = .ok (.aload_n 0, 1) := by decide +kernel
theorem dX12_judge_32 : decode yX12_judge.2.1 32 = .ok (.iload_n 2, 1) := by decide +kernel
theorem dX12_judge_33 : decode yX12_judge.2.1 33 = .ok (.invokevirtual 185, 3) := by decide +kernel
theorem dX12_judge_36 : decode yX12_judge.2.1 36 = .ok (.ifCond .eq 12, 3) := by decide +kernel
theorem dX12_judge_39 : decode yX12_judge.2.1 39 = .ok (.aload_n 0, 1) := by decide +kernel
theorem dX12_judge_40 : decode yX12_judge.2.1 40 = .ok (.getfield 13, 3) := by decide +kernel
theorem dX12_judge_43 : decode yX12_judge.2.1 43 = .ok (.iload_n 3, 1) := by decide +kernel
theorem dX12_judge_44 : decode yX12_judge.2.1 44 = .ok (.iaload, 1) := by decide +kernel
theorem dX12_judge_45 : decode yX12_judge.2.1 45 = .ok (.ifCond .ge 9, 3) := by decide +kernel
theorem dX12_judge_48 : decode yX12_judge.2.1 48 = .ok (.aload_n 0, 1) := by decide +kernel
theorem dX12_judge_49 : decode yX12_judge.2.1 49 = .ok (.iconst 1, 1) := by decide +kernel
theorem dX12_judge_50 : decode yX12_judge.2.1 50 = .ok (.invokevirtual 134, 3) := by decide +kernel
theorem dX12_judge_53 : decode yX12_judge.2.1 53 = .ok (.ireturn, 1) := by decide +kernel
theorem dX12_judge_54 : decode yX12_judge.2.1 54 = .ok (.aload_n 0, 1) := by decide +kernel
theorem dX12_judge_55 : decode yX12_judge.2.1 55 = .ok (.getfield 13, 3) := by decide +kernel
theorem dX12_judge_58 : decode yX12_judge.2.1 58 = .ok (.iload_n 3, 1) := by decide +kernel
theorem dX12_judge_59 : decode yX12_judge.2.1 59 = .ok (.iaload, 1) := by decide +kernel
theorem dX12_judge_60 : decode yX12_judge.2.1 60 = .ok (.aload_n 0, 1) := by decide +kernel
theorem dX12_judge_61 : decode yX12_judge.2.1 61 = .ok (.getfield 29, 3) := by decide +kernel
theorem dX12_judge_64 : decode yX12_judge.2.1 64 = .ok (.iload_n 2, 1) := by decide +kernel
theorem dX12_judge_65 : decode yX12_judge.2.1 65 = .ok (.iaload, 1) := by decide +kernel
theorem dX12_judge_66 : decode yX12_judge.2.1 66 = .ok (.if_icmp .ne 7, 3) := by decide +kernel
theorem dX12_judge_69 : decode yX12_judge.2.1 69 = .ok (.iconst 1, 1) := by decide +kernel
theorem dX12_judge_70 : decode yX12_judge.2.1 70 = .ok (.goto 4, 3) := by decide +kernel
theorem dX12_judge_73 : decode yX12_judge.2.1 73 = .ok (.iconst 0, 1) := by decide +kernel
theorem dX12_judge_74 : decode yX12_judge.2.1 74 = .ok (.istore 4, 2) := by decide +kernel
theorem dX12_judge_76 : decode yX12_judge.2.1 76 = .ok (.iconst (-1), 1) := by decide +kernel
theorem dX12_judge_77 : decode yX12_judge.2.1 77 = .ok (.istore 5, 2) := by decide +kernel
theorem dX12_judge_79 : decode yX12_judge.2.1 79 = .ok (.iconst 0, 1) := by decide +kernel
theorem dX12_judge_80 : decode yX12_judge.2.1 80 = .ok (.istore 6, 2) := by decide +kernel
theorem dX12_judge_82 : decode yX12_judge.2.1 82 = .ok (.iload 6, 2) := by decide +kernel
theorem dX12_judge_84 : decode yX12_judge.2.1 84 = .ok (.aload_n 0, 1) := by decide +kernel
theorem dX12_judge_85 : decode yX12_judge.2.1 85 = .ok (.getfield 13, 3) := by decide +kernel
theorem dX12_judge_88 : decode yX12_judge.2.1 88 = .ok (.iload_n 3, 1) := by decide +kernel
theorem dX12_judge_89 : decode yX12_judge.2.1 89 = .ok (.iaload, 1) := by decide +kernel
theorem dX12_judge_90 : decode yX12_judge.2.1 90 = .ok (.if_icmp .ge 69, 3) := by decide +kernel
theorem dX12_judge_93 : decode yX12_judge.2.1 93 = .ok (.iload 4, 2) := by decide +kernel
theorem dX12_judge_95 : decode yX12_judge.2.1 95 = .ok (.ifCond .eq 64, 3) := by decide +kernel
theorem dX12_judge_98 : decode yX12_judge.2.1 98 = .ok (.aload_n 0, 1) := by decide +kernel
theorem dX12_judge_99 : decode yX12_judge.2.1 99 = .ok (.iload_n 3, 1) := by decide +kernel
theorem dX12_judge_100 : decode yX12_judge.2.1 100 = .ok (.iload 6, 2) := by decide +kernel
theorem dX12_judge_102 : decode yX12_judge.2.1 102 = .ok (.invokevirtual 138, 3) := by decide +kernel
theorem dX12_judge_105 : decode yX12_judge.2.1 105 = .ok (.istore 7, 2) := by decide +kernel
theorem dX12_judge_107 : decode yX12_judge.2.1 107 = .ok (.iload 7, 2) := by decide +kernel
theorem dX12_judge_109 : decode yX12_judge.2.1 109 = .ok (.iload 5, 2) := by decide +kernel
theorem dX12_judge_111 : decode yX12_judge.2.1 111 = .ok (.if_icmp .le 35, 3) := by decide +kernel
theorem dX12_judge_114 : decode yX12_judge.2.1 114 = .ok (.iload 7, 2) := by decide +kernel
theorem dX12_judge_116 : decode yX12_judge.2.1 116 = .ok (.aload_n 0, 1) := by decide +kernel
theorem dX12_judge_117 : decode yX12_judge.2.1 117 = .ok (.getfield 29, 3) := by decide +kernel
theorem dX12_judge_120 : decode yX12_judge.2.1 120 = .ok (.iload_n 1, 1) := by decide +kernel
theorem dX12_judge_121 : decode yX12_judge.2.1 121 = .ok (.iaload, 1) := by decide +kernel
theorem dX12_judge_122 : decode yX12_judge.2.1 122 = .ok (.if_icmp .ge 24, 3) := by decide +kernel
theorem dX12_judge_125 : decode yX12_judge.2.1 125 = .ok (.aload_n 0, 1) := by decide +kernel
theorem dX12_judge_126 : decode yX12_judge.2.1 126 = .ok (.iload_n 1, 1) := by decide +kernel
theorem dX12_judge_127 : decode yX12_judge.2.1 127 = .ok (.iload 7, 2) := by decide +kernel
theorem dX12_judge_129 : decode yX12_judge.2.1 129 = .ok (.invokevirtual 148, 3) := by decide +kernel
theorem dX12_judge_132 : decode yX12_judge.2.1 132 = .ok (.aload_n 0, 1) := by decide +kernel
theorem dX12_judge_133 : decode yX12_judge.2.1 133 = .ok (.iload_n 2, 1) := by decide +kernel
theorem dX12_judge_134 : decode yX12_judge.2.1 134 = .ok (.iload 6, 2) := by decide +kernel
theorem dX12_judge_136 : decode yX12_judge.2.1 136 = .ok (.invokevirtual 148, 3) := by decide +kernel
theorem dX12_judge_139 : decode yX12_judge.2.1 139 = .ok (.if_icmp .ne 7, 3) := by decide +kernel
theorem dX12_judge_142 : decode yX12_judge.2.1 142 = .ok (.iconst 1, 1) := by decide +kernel
theorem dX12_judge_143 : decode yX12_judge.2.1 143 = .ok (.goto 4, 3) := by decide +kernel
theorem dX12_judge_146 : decode yX12_judge.2.1 146 = .ok (.iconst 0, 1) := by decide +kernel
theorem dX12_judge_147 : decode yX12_judge.2.1 147 = .ok (.istore 4, 2) := by decide +kernel
theorem dX12_judge_149 : decode yX12_judge.2.1 149 = .ok (.iload 7, 2) := by decide +kernel
theorem dX12_judge_151 : decode yX12_judge.2.1 151 = .ok (.istore 5, 2) := by decide +kernel
theorem dX12_judge_153 : decode yX12_judge.2.1 153 = .ok (.iinc 6 1, 3) := by decide +kernel
theorem dX12_judge_156 : decode yX12_judge.2.1 156 = .ok (.goto (-74), 3) := by decide +kernel
theorem dX12_judge_159 : decode yX12_judge.2.1 159 = .ok (.iload 4, 2) := by decide +kernel
theorem dX12_judge_161 : decode yX12_judge.2.1 161 = .ok (.ifCond .eq 7, 3) := by decide +kernel
theorem dX12_judge_164 : decode yX12_judge.2.1 164 = .ok (.iconst 1, 1) := by decide +kernel
theorem dX12_judge_165 : decode yX12_judge.2.1 165 = .ok (.goto 4, 3) := by decide +kernel
theorem dX12_judge_168 : decode yX12_judge.2.1 168 = .ok (.iconst 0, 1) := by decide +kernel
theorem dX12_judge_169 : decode yX12_judge.2.1 169 = .ok (.ireturn, 1) := by decide +kernel
theorem dX12_bar_0 : decode yX12_bar.2.1 0 = .ok (.aload_n 0, 1) := by decide +kernel
theorem dX12_bar_1 : decode yX12_bar.2.1 1 = .ok (.iconst 1, 1) := by decide +kernel
theorem dX12_bar_2 : decode yX12_bar.2.1 2 = .ok (.iload_n 1, 1) := by decide +kernel
theorem dX12_bar_3 : decode yX12_bar.2.1 3 = .ok (.iload_n 2, 1) := by decide +kernel
theorem dX12_bar_4 : decode yX12_bar.2.1 4 = .ok (.invokevirtual 188, 3) := by decide +kernel
theorem dX12_bar_7 : decode yX12_bar.2.1 7 = .ok (.istore_n 3, 1) := by decide +kernel
theorem dX12_bar_8 : decode yX12_bar.2.1 8 = .ok (.iload_n 3, 1) := by decide +kernel
theorem dX12_bar_9 : decode yX12_bar.2.1 9 = .ok (.ifCond .ge 5, 3) := by decide +kernel
theorem dX12_bar_12 : decode yX12_bar.2.1 12 = .ok (.iload_n 3, 1) := by decide +kernel
theorem dX12_bar_13 : decode yX12_bar.2.1 13 = .ok (.ireturn, 1) := by decide +kernel
theorem dX12_bar_14 : decode yX12_bar.2.1 14 = .ok (.aload_n 0, 1) := by decide +kernel
theorem dX12_bar_15 : decode yX12_bar.2.1 15 = .ok (.getfield 29, 3) := by decide +kernel
theorem dX12_bar_18 : decode yX12_bar.2.1 18 = .ok (.iload_n 2, 1) := by decide +kernel
theorem dX12_bar_19 : decode yX12_bar.2.1 19 = .ok (.iaload, 1) := by decide +kernel
theorem dX12_bar_20 : decode yX12_bar.2.1 20 = .ok (.istore 4, 2) := by decide +kernel
theorem dX12_bar_22 : decode yX12_bar.2.1 22 = .ok (.iload 4, 2) := by decide +kernel
theorem dX12_bar_24 : decode yX12_bar.2.1 24 = .ok (.ifCond .ne 6, 3) := by decide +kernel
theorem dX12_bar_27 : decode yX12_bar.2.1 27 = .ok (.bipush (-4), 2) := by decide +kernel
theorem dX12_bar_29 : decode yX12_bar.2.1 29 = .ok (.ireturn, 1) := by decide +kernel
theorem dX12_bar_30 : decode yX12_bar.2.1 30 = .ok (.iconst 0, 1) := by decide +kernel
theorem dX12_bar_31 : decode yX12_bar.2.1 31 = .ok (.istore 5, 2) := by decide +kernel
theorem dX12_bar_33 : decode yX12_bar.2.1 33 = .ok (.iload 5, 2) := by decide +kernel
theorem dX12_bar_35 : decode yX12_bar.2.1 35 = .ok (.iload 4, 2) := by decide +kernel
theorem dX12_bar_37 : decode yX12_bar.2.1 37 = .ok (.if_icmp .gt 28, 3) := by decide +kernel
theorem dX12_bar_40 : decode yX12_bar.2.1 40 = .ok (.aload_n 0, 1) := by decide +kernel
theorem dX12_bar_41 : decode yX12_bar.2.1 41 = .ok (.getfield 63, 3) := by decide +kernel
theorem dX12_bar_44 : decode yX12_bar.2.1 44 = .ok (.iload 5, 2) := by decide +kernel
theorem dX12_bar_46 : decode yX12_bar.2.1 46 = .ok (.iload 5, 2) := by decide +kernel
theorem dX12_bar_48 : decode yX12_bar.2.1 48 = .ok (.ifCond .ne 7, 3) := by decide +kernel
theorem dX12_bar_51 : decode yX12_bar.2.1 51 = .ok (.iconst 0, 1) := by decide +kernel
theorem dX12_bar_52 : decode yX12_bar.2.1 52 = .ok (.goto 6, 3) := by decide +kernel
theorem dX12_bar_55 : decode yX12_bar.2.1 55 = .ok (.sipush 1000, 3) := by decide +kernel
theorem dX12_bar_58 : decode yX12_bar.2.1 58 = .ok (.iastore, 1) := by decide +kernel
theorem dX12_bar_59 : decode yX12_bar.2.1 59 = .ok (.iinc 5 1, 3) := by decide +kernel
theorem dX12_bar_62 : decode yX12_bar.2.1 62 = .ok (.goto (-29), 3) := by decide +kernel
theorem dX12_bar_65 : decode yX12_bar.2.1 65 = .ok (.iconst 0, 1) := by decide +kernel
theorem dX12_bar_66 : decode yX12_bar.2.1 66 = .ok (.istore 5, 2) := by decide +kernel
theorem dX12_bar_68 : decode yX12_bar.2.1 68 = .ok (.iload 5, 2) := by decide +kernel
theorem dX12_bar_70 : decode yX12_bar.2.1 70 = .ok (.aload_n 0, 1) := by decide +kernel
theorem dX12_bar_71 : decode yX12_bar.2.1 71 = .ok (.getfield 29, 3) := by decide +kernel
theorem dX12_bar_74 : decode yX12_bar.2.1 74 = .ok (.iload_n 1, 1) := by decide +kernel
theorem dX12_bar_75 : decode yX12_bar.2.1 75 = .ok (.iaload, 1) := by decide +kernel
theorem dX12_bar_76 : decode yX12_bar.2.1 76 = .ok (.if_icmp .ge 101, 3) := by decide +kernel
theorem dX12_bar_79 : decode yX12_bar.2.1 79 = .ok (.iload 4, 2) := by decide +kernel
theorem dX12_bar_81 : decode yX12_bar.2.1 81 = .ok (.iconst 1, 1) := by decide +kernel
theorem dX12_bar_82 : decode yX12_bar.2.1 82 = .ok (.isub, 1) := by decide +kernel
theorem dX12_bar_83 : decode yX12_bar.2.1 83 = .ok (.istore 6, 2) := by decide +kernel
theorem dX12_bar_85 : decode yX12_bar.2.1 85 = .ok (.iload 6, 2) := by decide +kernel
theorem dX12_bar_87 : decode yX12_bar.2.1 87 = .ok (.ifCond .lt 84, 3) := by decide +kernel
theorem dX12_bar_90 : decode yX12_bar.2.1 90 = .ok (.aload_n 0, 1) := by decide +kernel
theorem dX12_bar_91 : decode yX12_bar.2.1 91 = .ok (.iload_n 1, 1) := by decide +kernel
theorem dX12_bar_92 : decode yX12_bar.2.1 92 = .ok (.iload 5, 2) := by decide +kernel
theorem dX12_bar_94 : decode yX12_bar.2.1 94 = .ok (.invokevirtual 148, 3) := by decide +kernel
theorem dX12_bar_97 : decode yX12_bar.2.1 97 = .ok (.aload_n 0, 1) := by decide +kernel
theorem dX12_bar_98 : decode yX12_bar.2.1 98 = .ok (.iload_n 2, 1) := by decide +kernel
theorem dX12_bar_99 : decode yX12_bar.2.1 99 = .ok (.iload 6, 2) := by decide +kernel
theorem dX12_bar_101 : decode yX12_bar.2.1 101 = .ok (.invokevirtual 148, 3) := by decide +kernel
theorem dX12_bar_104 : decode yX12_bar.2.1 104 = .ok (.if_icmp .ne 61, 3) := by decide +kernel
theorem dX12_bar_107 : decode yX12_bar.2.1 107 = .ok (.aload_n 0, 1) := by decide +kernel
theorem dX12_bar_108 : decode yX12_bar.2.1 108 = .ok (.getfield 63, 3) := by decide +kernel
theorem dX12_bar_111 : decode yX12_bar.2.1 111 = .ok (.iload 6, 2) := by decide +kernel
theorem dX12_bar_113 : decode yX12_bar.2.1 113 = .ok (.iconst 1, 1) := by decide +kernel
theorem dX12_bar_114 : decode yX12_bar.2.1 114 = .ok (.iadd, 1) := by decide +kernel
theorem dX12_bar_115 : decode yX12_bar.2.1 115 = .ok (.aload_n 0, 1) := by decide +kernel
theorem dX12_bar_116 : decode yX12_bar.2.1 116 = .ok (.getfield 63, 3) := by decide +kernel
theorem dX12_bar_119 : decode yX12_bar.2.1 119 = .ok (.iload 6, 2) := by decide +kernel
theorem dX12_bar_121 : decode yX12_bar.2.1 121 = .ok (.iaload, 1) := by decide +kernel
theorem dX12_bar_122 : decode yX12_bar.2.1 122 = .ok (.aload_n 0, 1) := by decide +kernel
theorem dX12_bar_123 : decode yX12_bar.2.1 123 = .ok (.getfield 63, 3) := by decide +kernel
theorem dX12_bar_126 : decode yX12_bar.2.1 126 = .ok (.iload 6, 2) := by decide +kernel
theorem dX12_bar_128 : decode yX12_bar.2.1 128 = .ok (.iconst 1, 1) := by decide +kernel
theorem dX12_bar_129 : decode yX12_bar.2.1 129 = .ok (.iadd, 1) := by decide +kernel
theorem dX12_bar_130 : decode yX12_bar.2.1 130 = .ok (.iaload, 1) := by decide +kernel
theorem dX12_bar_131 : decode yX12_bar.2.1 131 = .ok (.if_icmp .ge 13, 3) := by decide +kernel
theorem dX12_bar_134 : decode yX12_bar.2.1 134 = .ok (.aload_n 0, 1) := by decide +kernel
theorem dX12_bar_135 : decode yX12_bar.2.1 135 = .ok (.getfield 63, 3) := by decide +kernel
theorem dX12_bar_138 : decode yX12_bar.2.1 138 = .ok (.iload 6, 2) := by decide +kernel
theorem dX12_bar_140 : decode yX12_bar.2.1 140 = .ok (.iaload, 1) := by decide +kernel
theorem dX12_bar_141 : decode yX12_bar.2.1 141 = .ok (.goto 12, 3) := by decide +kernel
theorem dX12_bar_144 : decode yX12_bar.2.1 144 = .ok (.aload_n 0, 1) := by decide +kernel
theorem dX12_bar_145 : decode yX12_bar.2.1 145 = .ok (.getfield 63, 3) := by decide +kernel
theorem dX12_bar_148 : decode yX12_bar.2.1 148 = .ok (.iload 6, 2) := by decide +kernel
theorem dX12_bar_150 : decode yX12_bar.2.1 150 = .ok (.iconst 1, 1) := by decide +kernel
theorem dX12_bar_151 : decode yX12_bar.2.1 151 = .ok (.iadd, 1) := by decide +kernel
theorem dX12_bar_152 : decode yX12_bar.2.1 152 = .ok (.iaload, 1) := by decide +kernel
theorem dX12_bar_153 : decode yX12_bar.2.1 153 = .ok (.iastore, 1) := by decide +kernel
theorem dX12_bar_154 : decode yX12_bar.2.1 154 = .ok (.aload_n 0, 1) := by decide +kernel
theorem dX12_bar_155 : decode yX12_bar.2.1 155 = .ok (.getfield 63, 3) := by decide +kernel
theorem dX12_bar_158 : decode yX12_bar.2.1 158 = .ok (.iload 6, 2) := by decide +kernel
theorem dX12_bar_160 : decode yX12_bar.2.1 160 = .ok (.dup2, 1) := by decide +kernel
theorem dX12_bar_161 : decode yX12_bar.2.1 161 = .ok (.iaload, 1) := by decide +kernel
theorem dX12_bar_162 : decode yX12_bar.2.1 162 = .ok (.iconst 1, 1) := by decide +kernel
theorem dX12_bar_163 : decode yX12_bar.2.1 163 = .ok (.iadd, 1) := by decide +kernel
theorem dX12_bar_164 : decode yX12_bar.2.1 164 = .ok (.iastore, 1) := by decide +kernel
theorem dX12_bar_165 : decode yX12_bar.2.1 165 = .ok (.iinc 6 (-1), 3) := by decide +kernel
theorem dX12_bar_168 : decode yX12_bar.2.1 168 = .ok (.goto (-83), 3) := by decide +kernel
theorem dX12_bar_171 : decode yX12_bar.2.1 171 = .ok (.iinc 5 1, 3) := by decide +kernel
theorem dX12_bar_174 : decode yX12_bar.2.1 174 = .ok (.goto (-106), 3) := by decide +kernel
theorem dX12_bar_177 : decode yX12_bar.2.1 177 = .ok (.sipush 1000, 3) := by decide +kernel
theorem dX12_bar_180 : decode yX12_bar.2.1 180 = .ok (.istore 5, 2) := by decide +kernel
theorem dX12_bar_182 : decode yX12_bar.2.1 182 = .ok (.iconst 0, 1) := by decide +kernel
theorem dX12_bar_183 : decode yX12_bar.2.1 183 = .ok (.istore 6, 2) := by decide +kernel
theorem dX12_bar_185 : decode yX12_bar.2.1 185 = .ok (.iload 6, 2) := by decide +kernel
theorem dX12_bar_187 : decode yX12_bar.2.1 187 = .ok (.iload 4, 2) := by decide +kernel
theorem dX12_bar_189 : decode yX12_bar.2.1 189 = .ok (.if_icmp .ge 35, 3) := by decide +kernel
theorem dX12_bar_192 : decode yX12_bar.2.1 192 = .ok (.aload_n 0, 1) := by decide +kernel
theorem dX12_bar_193 : decode yX12_bar.2.1 193 = .ok (.getfield 63, 3) := by decide +kernel
theorem dX12_bar_196 : decode yX12_bar.2.1 196 = .ok (.iload 6, 2) := by decide +kernel
theorem dX12_bar_198 : decode yX12_bar.2.1 198 = .ok (.iaload, 1) := by decide +kernel
theorem dX12_bar_199 : decode yX12_bar.2.1 199 = .ok (.iload 5, 2) := by decide +kernel
theorem dX12_bar_201 : decode yX12_bar.2.1 201 = .ok (.if_icmp .ge 13, 3) := by decide +kernel
theorem dX12_bar_204 : decode yX12_bar.2.1 204 = .ok (.aload_n 0, 1) := by decide +kernel
theorem dX12_bar_205 : decode yX12_bar.2.1 205 = .ok (.getfield 63, 3) := by decide +kernel
theorem dX12_bar_208 : decode yX12_bar.2.1 208 = .ok (.iload 6, 2) := by decide +kernel
theorem dX12_bar_210 : decode yX12_bar.2.1 210 = .ok (.iaload, 1) := by decide +kernel
theorem dX12_bar_211 : decode yX12_bar.2.1 211 = .ok (.goto 5, 3) := by decide +kernel
theorem dX12_bar_214 : decode yX12_bar.2.1 214 = .ok (.iload 5, 2) := by decide +kernel
theorem dX12_bar_216 : decode yX12_bar.2.1 216 = .ok (.istore 5, 2) := by decide +kernel
theorem dX12_bar_218 : decode yX12_bar.2.1 218 = .ok (.iinc 6 1, 3) := by decide +kernel
theorem dX12_bar_221 : decode yX12_bar.2.1 221 = .ok (.goto (-36), 3) := by decide +kernel
theorem dX12_bar_224 : decode yX12_bar.2.1 224 = .ok (.iload 5, 2) := by decide +kernel
theorem dX12_bar_226 : decode yX12_bar.2.1 226 = .ok (.ireturn, 1) := by decide +kernel
theorem dX12_layInner_0 : decode yX12_layInner.2.1 0 = .ok (.aload_n 0, 1) := by decide +kernel
theorem dX12_layInner_1 : decode yX12_layInner.2.1 1 = .ok (.getfield 29, 3) := by decide +kernel
theorem dX12_layInner_4 : decode yX12_layInner.2.1 4 = .ok (.iload_n 1, 1) := by decide +kernel
theorem dX12_layInner_5 : decode yX12_layInner.2.1 5 = .ok (.iaload, 1) := by decide +kernel
theorem dX12_layInner_6 : decode yX12_layInner.2.1 6 = .ok (.istore_n 2, 1) := by decide +kernel
theorem dX12_layInner_7 : decode yX12_layInner.2.1 7 = .ok (.iload_n 2, 1) := by decide +kernel
theorem dX12_layInner_8 : decode yX12_layInner.2.1 8 = .ok (.istore_n 3, 1) := by decide +kernel
theorem dX12_layInner_9 : decode yX12_layInner.2.1 9 = .ok (.iload_n 3, 1) := by decide +kernel
theorem dX12_layInner_10 : decode yX12_layInner.2.1 10 = .ok (.ifCond .lt 130, 3) := by decide +kernel
theorem dX12_layInner_13 : decode yX12_layInner.2.1 13 = .ok (.iconst 0, 1) := by decide +kernel
theorem dX12_layInner_14 : decode yX12_layInner.2.1 14 = .ok (.istore 4, 2) := by decide +kernel
theorem dX12_layInner_16 : decode yX12_layInner.2.1 16 = .ok (.iload 4, 2) := by decide +kernel
theorem dX12_layInner_18 : decode yX12_layInner.2.1 18 = .ok (.bipush 40, 2) := by decide +kernel
theorem dX12_layInner_20 : decode yX12_layInner.2.1 20 = .ok (.if_icmp .gt 31, 3) := by decide +kernel
theorem dX12_layInner_23 : decode yX12_layInner.2.1 23 = .ok (.aload_n 0, 1) := by decide +kernel
theorem dX12_layInner_24 : decode yX12_layInner.2.1 24 = .ok (.getfield 66, 3) := by decide +kernel
theorem dX12_layInner_27 : decode yX12_layInner.2.1 27 = .ok (.bipush 41, 2) := by decide +kernel
theorem dX12_layInner_29 : decode yX12_layInner.2.1 29 = .ok (.iload_n 3, 1) := by decide +kernel
theorem dX12_layInner_30 : decode yX12_layInner.2.1 30 = .ok (.imul, 1) := by decide +kernel
theorem dX12_layInner_31 : decode yX12_layInner.2.1 31 = .ok (.iload 4, 2) := by decide +kernel
theorem dX12_layInner_33 : decode yX12_layInner.2.1 33 = .ok (.iadd, 1) := by decide +kernel
theorem dX12_layInner_34 : decode yX12_layInner.2.1 34 = .ok (.iload 4, 2) := by decide +kernel
theorem dX12_layInner_36 : decode yX12_layInner.2.1 36 = .ok (.ifCond .ne 7, 3) := by decide +kernel
theorem dX12_layInner_39 : decode yX12_layInner.2.1 39 = .ok (.lconst 1, 1) := by decide +kernel
theorem dX12_layInner_40 : decode yX12_layInner.2.1 40 = .ok (.goto 4, 3) := by decide +kernel
theorem dX12_layInner_43 : decode yX12_layInner.2.1 43 = .ok (.lconst 0, 1) := by decide +kernel
theorem dX12_layInner_44 : decode yX12_layInner.2.1 44 = .ok (.lastore, 1) := by decide +kernel
theorem dX12_layInner_45 : decode yX12_layInner.2.1 45 = .ok (.iinc 4 1, 3) := by decide +kernel
theorem dX12_layInner_48 : decode yX12_layInner.2.1 48 = .ok (.goto (-32), 3) := by decide +kernel
theorem dX12_layInner_51 : decode yX12_layInner.2.1 51 = .ok (.iconst 0, 1) := by decide +kernel
theorem dX12_layInner_52 : decode yX12_layInner.2.1 52 = .ok (.istore 4, 2) := by decide +kernel
theorem dX12_layInner_54 : decode yX12_layInner.2.1 54 = .ok (.iload 4, 2) := by decide +kernel
theorem dX12_layInner_56 : decode yX12_layInner.2.1 56 = .ok (.aload_n 0, 1) := by decide +kernel
theorem dX12_layInner_57 : decode yX12_layInner.2.1 57 = .ok (.getfield 110, 3) := by decide +kernel
theorem dX12_layInner_60 : decode yX12_layInner.2.1 60 = .ok (.if_icmp .ge 74, 3) := by decide +kernel
theorem dX12_layInner_63 : decode yX12_layInner.2.1 63 = .ok (.aload_n 0, 1) := by decide +kernel
theorem dX12_layInner_64 : decode yX12_layInner.2.1 64 = .ok (.iload_n 1, 1) := by decide +kernel
theorem dX12_layInner_65 : decode yX12_layInner.2.1 65 = .ok (.iload_n 3, 1) := by decide +kernel
theorem dX12_layInner_66 : decode yX12_layInner.2.1 66 = .ok (.iload 4, 2) := by decide +kernel
theorem dX12_layInner_68 : decode yX12_layInner.2.1 68 = .ok (.invokevirtual 206, 3) := by decide +kernel
theorem dX12_layInner_71 : decode yX12_layInner.2.1 71 = .ok (.istore 5, 2) := by decide +kernel
theorem dX12_layInner_73 : decode yX12_layInner.2.1 73 = .ok (.iconst 1, 1) := by decide +kernel
theorem dX12_layInner_74 : decode yX12_layInner.2.1 74 = .ok (.istore 6, 2) := by decide +kernel
theorem dX12_layInner_76 : decode yX12_layInner.2.1 76 = .ok (.iload 6, 2) := by decide +kernel
theorem dX12_layInner_78 : decode yX12_layInner.2.1 78 = .ok (.bipush 40, 2) := by decide +kernel
theorem dX12_layInner_80 : decode yX12_layInner.2.1 80 = .ok (.if_icmp .gt 48, 3) := by decide +kernel
theorem dX12_layInner_83 : decode yX12_layInner.2.1 83 = .ok (.iload 5, 2) := by decide +kernel
theorem dX12_layInner_85 : decode yX12_layInner.2.1 85 = .ok (.bipush (-9), 2) := by decide +kernel
theorem dX12_layInner_87 : decode yX12_layInner.2.1 87 = .ok (.if_icmp .eq 41, 3) := by decide +kernel
theorem dX12_layInner_90 : decode yX12_layInner.2.1 90 = .ok (.aload_n 0, 1) := by decide +kernel
theorem dX12_layInner_91 : decode yX12_layInner.2.1 91 = .ok (.getfield 66, 3) := by decide +kernel
theorem dX12_layInner_94 : decode yX12_layInner.2.1 94 = .ok (.bipush 41, 2) := by decide +kernel
theorem dX12_layInner_96 : decode yX12_layInner.2.1 96 = .ok (.iload_n 3, 1) := by decide +kernel
theorem dX12_layInner_97 : decode yX12_layInner.2.1 97 = .ok (.imul, 1) := by decide +kernel
theorem dX12_layInner_98 : decode yX12_layInner.2.1 98 = .ok (.iload 6, 2) := by decide +kernel
theorem dX12_layInner_100 : decode yX12_layInner.2.1 100 = .ok (.iadd, 1) := by decide +kernel
theorem dX12_layInner_101 : decode yX12_layInner.2.1 101 = .ok (.dup2, 1) := by decide +kernel
theorem dX12_layInner_102 : decode yX12_layInner.2.1 102 = .ok (.laload, 1) := by decide +kernel
theorem dX12_layInner_103 : decode yX12_layInner.2.1 103 = .ok (.aload_n 0, 1) := by decide +kernel
theorem dX12_layInner_104 : decode yX12_layInner.2.1 104 = .ok (.getfield 66, 3) := by decide +kernel
theorem dX12_layInner_107 : decode yX12_layInner.2.1 107 = .ok (.bipush 41, 2) := by decide +kernel
theorem dX12_layInner_109 : decode yX12_layInner.2.1 109 = .ok (.iload 5, 2) := by decide +kernel
theorem dX12_layInner_111 : decode yX12_layInner.2.1 111 = .ok (.iconst 1, 1) := by decide +kernel
theorem dX12_layInner_112 : decode yX12_layInner.2.1 112 = .ok (.iadd, 1) := by decide +kernel
theorem dX12_layInner_113 : decode yX12_layInner.2.1 113 = .ok (.imul, 1) := by decide +kernel
theorem dX12_layInner_114 : decode yX12_layInner.2.1 114 = .ok (.iload 6, 2) := by decide +kernel
theorem dX12_layInner_116 : decode yX12_layInner.2.1 116 = .ok (.iadd, 1) := by decide +kernel
theorem dX12_layInner_117 : decode yX12_layInner.2.1 117 = .ok (.iconst 1, 1) := by decide +kernel
theorem dX12_layInner_118 : decode yX12_layInner.2.1 118 = .ok (.isub, 1) := by decide +kernel
theorem dX12_layInner_119 : decode yX12_layInner.2.1 119 = .ok (.laload, 1) := by decide +kernel
theorem dX12_layInner_120 : decode yX12_layInner.2.1 120 = .ok (.ladd, 1) := by decide +kernel
theorem dX12_layInner_121 : decode yX12_layInner.2.1 121 = .ok (.lastore, 1) := by decide +kernel
theorem dX12_layInner_122 : decode yX12_layInner.2.1 122 = .ok (.iinc 6 1, 3) := by decide +kernel
theorem dX12_layInner_125 : decode yX12_layInner.2.1 125 = .ok (.goto (-49), 3) := by decide +kernel
theorem dX12_layInner_128 : decode yX12_layInner.2.1 128 = .ok (.iinc 4 1, 3) := by decide +kernel
theorem dX12_layInner_131 : decode yX12_layInner.2.1 131 = .ok (.goto (-77), 3) := by decide +kernel
theorem dX12_layInner_134 : decode yX12_layInner.2.1 134 = .ok (.iinc 3 (-1), 3) := by decide +kernel
theorem dX12_layInner_137 : decode yX12_layInner.2.1 137 = .ok (.goto (-128), 3) := by decide +kernel
theorem dX12_layInner_140 : decode yX12_layInner.2.1 140 = .ok (.return_, 1) := by decide +kernel
theorem dX12_inner_0 : decode yX12_inner.2.1 0 = .ok (.aload_n 0, 1) := by decide +kernel
theorem dX12_inner_1 : decode yX12_inner.2.1 1 = .ok (.iload_n 2, 1) := by decide +kernel
theorem dX12_inner_2 : decode yX12_inner.2.1 2 = .ok (.bipush (-9), 2) := by decide +kernel
theorem dX12_inner_4 : decode yX12_inner.2.1 4 = .ok (.if_icmp .eq 13, 3) := by decide +kernel
theorem dX12_inner_7 : decode yX12_inner.2.1 7 = .ok (.iload_n 2, 1) := by decide +kernel
theorem dX12_inner_8 : decode yX12_inner.2.1 8 = .ok (.iconst 0, 1) := by decide +kernel
theorem dX12_inner_9 : decode yX12_inner.2.1 9 = .ok (.bipush 40, 2) := by decide +kernel
theorem dX12_inner_11 : decode yX12_inner.2.1 11 = .ok (.invokestatic 117, 3) := by decide +kernel
theorem dX12_inner_14 : decode yX12_inner.2.1 14 = .ok (.ifCond .eq 7, 3) := by decide +kernel
theorem dX12_inner_17 : decode yX12_inner.2.1 17 = .ok (.iconst 1, 1) := by decide +kernel
theorem dX12_inner_18 : decode yX12_inner.2.1 18 = .ok (.goto 4, 3) := by decide +kernel
theorem dX12_inner_21 : decode yX12_inner.2.1 21 = .ok (.iconst 0, 1) := by decide +kernel
theorem dX12_inner_22 : decode yX12_inner.2.1 22 = .ok (.iload_n 1, 1) := by decide +kernel
theorem dX12_inner_23 : decode yX12_inner.2.1 23 = .ok (.invokevirtual 192, 3) := by decide +kernel
theorem dX12_inner_26 : decode yX12_inner.2.1 26 = .ok (.istore_n 3, 1) := by decide +kernel
theorem dX12_inner_27 : decode yX12_inner.2.1 27 = .ok (.iload_n 3, 1) := by decide +kernel
theorem dX12_inner_28 : decode yX12_inner.2.1 28 = .ok (.ifCond .ge 5, 3) := by decide +kernel
theorem dX12_inner_31 : decode yX12_inner.2.1 31 = .ok (.iload_n 3, 1) := by decide +kernel
theorem dX12_inner_32 : decode yX12_inner.2.1 32 = .ok (.ireturn, 1) := by decide +kernel
theorem dX12_inner_33 : decode yX12_inner.2.1 33 = .ok (.aload_n 0, 1) := by decide +kernel
theorem dX12_inner_34 : decode yX12_inner.2.1 34 = .ok (.iload_n 1, 1) := by decide +kernel
theorem dX12_inner_35 : decode yX12_inner.2.1 35 = .ok (.invokevirtual 217, 3) := by decide +kernel
theorem dX12_inner_38 : decode yX12_inner.2.1 38 = .ok (.lconst 0, 1) := by decide +kernel
theorem dX12_inner_39 : decode yX12_inner.2.1 39 = .ok (.lstore 4, 2) := by decide +kernel
theorem dX12_inner_41 : decode yX12_inner.2.1 41 = .ok (.iconst 0, 1) := by decide +kernel
theorem dX12_inner_42 : decode yX12_inner.2.1 42 = .ok (.istore 6, 2) := by decide +kernel
theorem dX12_inner_44 : decode yX12_inner.2.1 44 = .ok (.iload 6, 2) := by decide +kernel
theorem dX12_inner_46 : decode yX12_inner.2.1 46 = .ok (.bipush 40, 2) := by decide +kernel
theorem dX12_inner_48 : decode yX12_inner.2.1 48 = .ok (.if_icmp .gt 37, 3) := by decide +kernel
theorem dX12_inner_51 : decode yX12_inner.2.1 51 = .ok (.lload 4, 2) := by decide +kernel
theorem dX12_inner_53 : decode yX12_inner.2.1 53 = .ok (.iload_n 2, 1) := by decide +kernel
theorem dX12_inner_54 : decode yX12_inner.2.1 54 = .ok (.bipush (-9), 2) := by decide +kernel
theorem dX12_inner_56 : decode yX12_inner.2.1 56 = .ok (.if_icmp .eq 9, 3) := by decide +kernel
theorem dX12_inner_59 : decode yX12_inner.2.1 59 = .ok (.iload_n 2, 1) := by decide +kernel
theorem dX12_inner_60 : decode yX12_inner.2.1 60 = .ok (.iload 6, 2) := by decide +kernel
theorem dX12_inner_62 : decode yX12_inner.2.1 62 = .ok (.if_icmp .ne 13, 3) := by decide +kernel
theorem dX12_inner_65 : decode yX12_inner.2.1 65 = .ok (.aload_n 0, 1) := by decide +kernel
theorem dX12_inner_66 : decode yX12_inner.2.1 66 = .ok (.getfield 66, 3) := by decide +kernel
theorem dX12_inner_69 : decode yX12_inner.2.1 69 = .ok (.iload 6, 2) := by decide +kernel
theorem dX12_inner_71 : decode yX12_inner.2.1 71 = .ok (.laload, 1) := by decide +kernel
theorem dX12_inner_72 : decode yX12_inner.2.1 72 = .ok (.goto 4, 3) := by decide +kernel
theorem dX12_inner_75 : decode yX12_inner.2.1 75 = .ok (.lconst 0, 1) := by decide +kernel
theorem dX12_inner_76 : decode yX12_inner.2.1 76 = .ok (.ladd, 1) := by decide +kernel
theorem dX12_inner_77 : decode yX12_inner.2.1 77 = .ok (.lstore 4, 2) := by decide +kernel
theorem dX12_inner_79 : decode yX12_inner.2.1 79 = .ok (.iinc 6 1, 3) := by decide +kernel
theorem dX12_inner_82 : decode yX12_inner.2.1 82 = .ok (.goto (-38), 3) := by decide +kernel
theorem dX12_inner_85 : decode yX12_inner.2.1 85 = .ok (.aload_n 0, 1) := by decide +kernel
theorem dX12_inner_86 : decode yX12_inner.2.1 86 = .ok (.lload 4, 2) := by decide +kernel
theorem dX12_inner_88 : decode yX12_inner.2.1 88 = .ok (.iconst 1, 1) := by decide +kernel
theorem dX12_inner_89 : decode yX12_inner.2.1 89 = .ok (.invokevirtual 202, 3) := by decide +kernel
theorem dX12_inner_92 : decode yX12_inner.2.1 92 = .ok (.ireturn, 1) := by decide +kernel
theorem dX12_rank_0 : decode yX12_rank.2.1 0 = .ok (.aload_n 0, 1) := by decide +kernel
theorem dX12_rank_1 : decode yX12_rank.2.1 1 = .ok (.iconst 1, 1) := by decide +kernel
theorem dX12_rank_2 : decode yX12_rank.2.1 2 = .ok (.iload_n 1, 1) := by decide +kernel
theorem dX12_rank_3 : decode yX12_rank.2.1 3 = .ok (.iload_n 2, 1) := by decide +kernel
theorem dX12_rank_4 : decode yX12_rank.2.1 4 = .ok (.invokevirtual 188, 3) := by decide +kernel
theorem dX12_rank_7 : decode yX12_rank.2.1 7 = .ok (.istore_n 3, 1) := by decide +kernel
theorem dX12_rank_8 : decode yX12_rank.2.1 8 = .ok (.iload_n 3, 1) := by decide +kernel
theorem dX12_rank_9 : decode yX12_rank.2.1 9 = .ok (.ifCond .ge 5, 3) := by decide +kernel
theorem dX12_rank_12 : decode yX12_rank.2.1 12 = .ok (.iload_n 3, 1) := by decide +kernel
theorem dX12_rank_13 : decode yX12_rank.2.1 13 = .ok (.ireturn, 1) := by decide +kernel
theorem dX12_rank_14 : decode yX12_rank.2.1 14 = .ok (.aload_n 0, 1) := by decide +kernel
theorem dX12_rank_15 : decode yX12_rank.2.1 15 = .ok (.iload_n 1, 1) := by decide +kernel
theorem dX12_rank_16 : decode yX12_rank.2.1 16 = .ok (.invokevirtual 217, 3) := by decide +kernel
theorem dX12_rank_19 : decode yX12_rank.2.1 19 = .ok (.lconst 0, 1) := by decide +kernel
theorem dX12_rank_20 : decode yX12_rank.2.1 20 = .ok (.lstore 4, 2) := by decide +kernel
theorem dX12_rank_22 : decode yX12_rank.2.1 22 = .ok (.iconst 0, 1) := by decide +kernel
theorem dX12_rank_23 : decode yX12_rank.2.1 23 = .ok (.istore 6, 2) := by decide +kernel
theorem dX12_rank_25 : decode yX12_rank.2.1 25 = .ok (.iconst 0, 1) := by decide +kernel
theorem dX12_rank_26 : decode yX12_rank.2.1 26 = .ok (.istore 7, 2) := by decide +kernel
theorem dX12_rank_28 : decode yX12_rank.2.1 28 = .ok (.iload 7, 2) := by decide +kernel
theorem dX12_rank_30 : decode yX12_rank.2.1 30 = .ok (.aload_n 0, 1) := by decide +kernel
theorem dX12_rank_31 : decode yX12_rank.2.1 31 = .ok (.getfield 29, 3) := by decide +kernel
theorem dX12_rank_34 : decode yX12_rank.2.1 34 = .ok (.iload_n 2, 1) := by decide +kernel
theorem dX12_rank_35 : decode yX12_rank.2.1 35 = .ok (.iaload, 1) := by decide +kernel
theorem dX12_rank_36 : decode yX12_rank.2.1 36 = .ok (.if_icmp .ge 117, 3) := by decide +kernel
theorem dX12_rank_39 : decode yX12_rank.2.1 39 = .ok (.aload_n 0, 1) := by decide +kernel
theorem dX12_rank_40 : decode yX12_rank.2.1 40 = .ok (.getfield 29, 3) := by decide +kernel
theorem dX12_rank_43 : decode yX12_rank.2.1 43 = .ok (.iload_n 2, 1) := by decide +kernel
theorem dX12_rank_44 : decode yX12_rank.2.1 44 = .ok (.iaload, 1) := by decide +kernel
theorem dX12_rank_45 : decode yX12_rank.2.1 45 = .ok (.iconst 1, 1) := by decide +kernel
theorem dX12_rank_46 : decode yX12_rank.2.1 46 = .ok (.isub, 1) := by decide +kernel
theorem dX12_rank_47 : decode yX12_rank.2.1 47 = .ok (.iload 7, 2) := by decide +kernel
theorem dX12_rank_49 : decode yX12_rank.2.1 49 = .ok (.isub, 1) := by decide +kernel
theorem dX12_rank_50 : decode yX12_rank.2.1 50 = .ok (.istore 8, 2) := by decide +kernel
theorem dX12_rank_52 : decode yX12_rank.2.1 52 = .ok (.iconst 0, 1) := by decide +kernel
theorem dX12_rank_53 : decode yX12_rank.2.1 53 = .ok (.istore 9, 2) := by decide +kernel
theorem dX12_rank_55 : decode yX12_rank.2.1 55 = .ok (.iload 9, 2) := by decide +kernel
theorem dX12_rank_57 : decode yX12_rank.2.1 57 = .ok (.aload_n 0, 1) := by decide +kernel
theorem dX12_rank_58 : decode yX12_rank.2.1 58 = .ok (.iload_n 2, 1) := by decide +kernel
theorem dX12_rank_59 : decode yX12_rank.2.1 59 = .ok (.iload 7, 2) := by decide +kernel
theorem dX12_rank_61 : decode yX12_rank.2.1 61 = .ok (.invokevirtual 148, 3) := by decide +kernel
theorem dX12_rank_64 : decode yX12_rank.2.1 64 = .ok (.if_icmp .ge 51, 3) := by decide +kernel
theorem dX12_rank_67 : decode yX12_rank.2.1 67 = .ok (.aload_n 0, 1) := by decide +kernel
theorem dX12_rank_68 : decode yX12_rank.2.1 68 = .ok (.iload_n 1, 1) := by decide +kernel
theorem dX12_rank_69 : decode yX12_rank.2.1 69 = .ok (.iload 6, 2) := by decide +kernel
theorem dX12_rank_71 : decode yX12_rank.2.1 71 = .ok (.iload 9, 2) := by decide +kernel
theorem dX12_rank_73 : decode yX12_rank.2.1 73 = .ok (.invokevirtual 206, 3) := by decide +kernel
theorem dX12_rank_76 : decode yX12_rank.2.1 76 = .ok (.istore 10, 2) := by decide +kernel
theorem dX12_rank_78 : decode yX12_rank.2.1 78 = .ok (.lload 4, 2) := by decide +kernel
theorem dX12_rank_80 : decode yX12_rank.2.1 80 = .ok (.iload 10, 2) := by decide +kernel
theorem dX12_rank_82 : decode yX12_rank.2.1 82 = .ok (.bipush (-9), 2) := by decide +kernel
theorem dX12_rank_84 : decode yX12_rank.2.1 84 = .ok (.if_icmp .ne 7, 3) := by decide +kernel
theorem dX12_rank_87 : decode yX12_rank.2.1 87 = .ok (.lconst 0, 1) := by decide +kernel
theorem dX12_rank_88 : decode yX12_rank.2.1 88 = .ok (.goto 18, 3) := by decide +kernel
theorem dX12_rank_91 : decode yX12_rank.2.1 91 = .ok (.aload_n 0, 1) := by decide +kernel
theorem dX12_rank_92 : decode yX12_rank.2.1 92 = .ok (.getfield 66, 3) := by decide +kernel
theorem dX12_rank_95 : decode yX12_rank.2.1 95 = .ok (.bipush 41, 2) := by decide +kernel
theorem dX12_rank_97 : decode yX12_rank.2.1 97 = .ok (.iload 10, 2) := by decide +kernel
theorem dX12_rank_99 : decode yX12_rank.2.1 99 = .ok (.iconst 1, 1) := by decide +kernel
theorem dX12_rank_100 : decode yX12_rank.2.1 100 = .ok (.iadd, 1) := by decide +kernel
theorem dX12_rank_101 : decode yX12_rank.2.1 101 = .ok (.imul, 1) := by decide +kernel
theorem dX12_rank_102 : decode yX12_rank.2.1 102 = .ok (.iload 8, 2) := by decide +kernel
theorem dX12_rank_104 : decode yX12_rank.2.1 104 = .ok (.iadd, 1) := by decide +kernel
theorem dX12_rank_105 : decode yX12_rank.2.1 105 = .ok (.laload, 1) := by decide +kernel
theorem dX12_rank_106 : decode yX12_rank.2.1 106 = .ok (.ladd, 1) := by decide +kernel
theorem dX12_rank_107 : decode yX12_rank.2.1 107 = .ok (.lstore 4, 2) := by decide +kernel
theorem dX12_rank_109 : decode yX12_rank.2.1 109 = .ok (.iinc 9 1, 3) := by decide +kernel
theorem dX12_rank_112 : decode yX12_rank.2.1 112 = .ok (.goto (-57), 3) := by decide +kernel
theorem dX12_rank_115 : decode yX12_rank.2.1 115 = .ok (.aload_n 0, 1) := by decide +kernel
theorem dX12_rank_116 : decode yX12_rank.2.1 116 = .ok (.iload_n 1, 1) := by decide +kernel
theorem dX12_rank_117 : decode yX12_rank.2.1 117 = .ok (.iload 6, 2) := by decide +kernel
theorem dX12_rank_119 : decode yX12_rank.2.1 119 = .ok (.aload_n 0, 1) := by decide +kernel
theorem dX12_rank_120 : decode yX12_rank.2.1 120 = .ok (.iload_n 2, 1) := by decide +kernel
theorem dX12_rank_121 : decode yX12_rank.2.1 121 = .ok (.iload 7, 2) := by decide +kernel
theorem dX12_rank_123 : decode yX12_rank.2.1 123 = .ok (.invokevirtual 148, 3) := by decide +kernel
theorem dX12_rank_126 : decode yX12_rank.2.1 126 = .ok (.invokevirtual 206, 3) := by decide +kernel
theorem dX12_rank_129 : decode yX12_rank.2.1 129 = .ok (.istore 9, 2) := by decide +kernel
theorem dX12_rank_131 : decode yX12_rank.2.1 131 = .ok (.iload 9, 2) := by decide +kernel
theorem dX12_rank_133 : decode yX12_rank.2.1 133 = .ok (.bipush (-9), 2) := by decide +kernel
theorem dX12_rank_135 : decode yX12_rank.2.1 135 = .ok (.if_icmp .ne 6, 3) := by decide +kernel
theorem dX12_rank_138 : decode yX12_rank.2.1 138 = .ok (.bipush (-9), 2) := by decide +kernel
theorem dX12_rank_140 : decode yX12_rank.2.1 140 = .ok (.ireturn, 1) := by decide +kernel
theorem dX12_rank_141 : decode yX12_rank.2.1 141 = .ok (.iload 9, 2) := by decide +kernel
theorem dX12_rank_143 : decode yX12_rank.2.1 143 = .ok (.iconst 1, 1) := by decide +kernel
theorem dX12_rank_144 : decode yX12_rank.2.1 144 = .ok (.iadd, 1) := by decide +kernel
theorem dX12_rank_145 : decode yX12_rank.2.1 145 = .ok (.istore 6, 2) := by decide +kernel
theorem dX12_rank_147 : decode yX12_rank.2.1 147 = .ok (.iinc 7 1, 3) := by decide +kernel
theorem dX12_rank_150 : decode yX12_rank.2.1 150 = .ok (.goto (-122), 3) := by decide +kernel
theorem dX12_rank_153 : decode yX12_rank.2.1 153 = .ok (.aload_n 0, 1) := by decide +kernel
theorem dX12_rank_154 : decode yX12_rank.2.1 154 = .ok (.lload 4, 2) := by decide +kernel
theorem dX12_rank_156 : decode yX12_rank.2.1 156 = .ok (.iconst 1, 1) := by decide +kernel
theorem dX12_rank_157 : decode yX12_rank.2.1 157 = .ok (.invokevirtual 202, 3) := by decide +kernel
theorem dX12_rank_160 : decode yX12_rank.2.1 160 = .ok (.ireturn, 1) := by decide +kernel
theorem dX12_byRank_0 : decode yX12_byRank.2.1 0 = .ok (.aload_n 0, 1) := by decide +kernel
theorem dX12_byRank_1 : decode yX12_byRank.2.1 1 = .ok (.iload_n 2, 1) := by decide +kernel
theorem dX12_byRank_2 : decode yX12_byRank.2.1 2 = .ok (.iconst 0, 1) := by decide +kernel
theorem dX12_byRank_3 : decode yX12_byRank.2.1 3 = .ok (.bipush 40, 2) := by decide +kernel
theorem dX12_byRank_5 : decode yX12_byRank.2.1 5 = .ok (.invokestatic 117, 3) := by decide +kernel
theorem dX12_byRank_8 : decode yX12_byRank.2.1 8 = .ok (.ifCond .eq 19, 3) := by decide +kernel
theorem dX12_byRank_11 : decode yX12_byRank.2.1 11 = .ok (.iload_n 3, 1) := by decide +kernel
theorem dX12_byRank_12 : decode yX12_byRank.2.1 12 = .ok (.ifCond .lt 15, 3) := by decide +kernel
theorem dX12_byRank_15 : decode yX12_byRank.2.1 15 = .ok (.iload 4, 2) := by decide +kernel
theorem dX12_byRank_17 : decode yX12_byRank.2.1 17 = .ok (.invokestatic 130, 3) := by decide +kernel
theorem dX12_byRank_20 : decode yX12_byRank.2.1 20 = .ok (.ifCond .eq 7, 3) := by decide +kernel
theorem dX12_byRank_23 : decode yX12_byRank.2.1 23 = .ok (.iconst 1, 1) := by decide +kernel
theorem dX12_byRank_24 : decode yX12_byRank.2.1 24 = .ok (.goto 4, 3) := by decide +kernel
theorem dX12_byRank_27 : decode yX12_byRank.2.1 27 = .ok (.iconst 0, 1) := by decide +kernel
theorem dX12_byRank_28 : decode yX12_byRank.2.1 28 = .ok (.iload_n 1, 1) := by decide +kernel
theorem dX12_byRank_29 : decode yX12_byRank.2.1 29 = .ok (.invokevirtual 192, 3) := by decide +kernel
theorem dX12_byRank_32 : decode yX12_byRank.2.1 32 = .ok (.istore 5, 2) := by decide +kernel
theorem dX12_byRank_34 : decode yX12_byRank.2.1 34 = .ok (.iload 5, 2) := by decide +kernel
theorem dX12_byRank_36 : decode yX12_byRank.2.1 36 = .ok (.ifCond .ge 6, 3) := by decide +kernel
theorem dX12_byRank_39 : decode yX12_byRank.2.1 39 = .ok (.iload 5, 2) := by decide +kernel
theorem dX12_byRank_41 : decode yX12_byRank.2.1 41 = .ok (.ireturn, 1) := by decide +kernel
theorem dX12_byRank_42 : decode yX12_byRank.2.1 42 = .ok (.aload_n 0, 1) := by decide +kernel
theorem dX12_byRank_43 : decode yX12_byRank.2.1 43 = .ok (.iload_n 1, 1) := by decide +kernel
theorem dX12_byRank_44 : decode yX12_byRank.2.1 44 = .ok (.invokevirtual 217, 3) := by decide +kernel
theorem dX12_byRank_47 : decode yX12_byRank.2.1 47 = .ok (.iload_n 3, 1) := by decide +kernel
theorem dX12_byRank_48 : decode yX12_byRank.2.1 48 = .ok (.i2l, 1) := by decide +kernel
theorem dX12_byRank_49 : decode yX12_byRank.2.1 49 = .ok (.aload_n 0, 1) := by decide +kernel
theorem dX12_byRank_50 : decode yX12_byRank.2.1 50 = .ok (.getfield 66, 3) := by decide +kernel
theorem dX12_byRank_53 : decode yX12_byRank.2.1 53 = .ok (.iload_n 2, 1) := by decide +kernel
theorem dX12_byRank_54 : decode yX12_byRank.2.1 54 = .ok (.laload, 1) := by decide +kernel
theorem dX12_byRank_55 : decode yX12_byRank.2.1 55 = .ok (.lcmp, 1) := by decide +kernel
theorem dX12_byRank_56 : decode yX12_byRank.2.1 56 = .ok (.ifCond .lt 6, 3) := by decide +kernel
theorem dX12_byRank_59 : decode yX12_byRank.2.1 59 = .ok (.bipush (-9), 2) := by decide +kernel
theorem dX12_byRank_61 : decode yX12_byRank.2.1 61 = .ok (.ireturn, 1) := by decide +kernel
theorem dX12_byRank_62 : decode yX12_byRank.2.1 62 = .ok (.iload_n 3, 1) := by decide +kernel
theorem dX12_byRank_63 : decode yX12_byRank.2.1 63 = .ok (.i2l, 1) := by decide +kernel
theorem dX12_byRank_64 : decode yX12_byRank.2.1 64 = .ok (.lstore 6, 2) := by decide +kernel
theorem dX12_byRank_66 : decode yX12_byRank.2.1 66 = .ok (.iconst 0, 1) := by decide +kernel
theorem dX12_byRank_67 : decode yX12_byRank.2.1 67 = .ok (.istore 8, 2) := by decide +kernel
theorem dX12_byRank_69 : decode yX12_byRank.2.1 69 = .ok (.aload_n 0, 1) := by decide +kernel
theorem dX12_byRank_70 : decode yX12_byRank.2.1 70 = .ok (.iconst 0, 1) := by decide +kernel
theorem dX12_byRank_71 : decode yX12_byRank.2.1 71 = .ok (.putfield 151, 3) := by decide +kernel
theorem dX12_byRank_74 : decode yX12_byRank.2.1 74 = .ok (.aload_n 0, 1) := by decide +kernel
theorem dX12_byRank_75 : decode yX12_byRank.2.1 75 = .ok (.getfield 151, 3) := by decide +kernel
theorem dX12_byRank_78 : decode yX12_byRank.2.1 78 = .ok (.iload_n 2, 1) := by decide +kernel
theorem dX12_byRank_79 : decode yX12_byRank.2.1 79 = .ok (.if_icmp .ge 98, 3) := by decide +kernel
theorem dX12_byRank_82 : decode yX12_byRank.2.1 82 = .ok (.iconst 0, 1) := by decide +kernel
theorem dX12_byRank_83 : decode yX12_byRank.2.1 83 = .ok (.istore 9, 2) := by decide +kernel
theorem dX12_byRank_85 : decode yX12_byRank.2.1 85 = .ok (.aload_n 0, 1) := by decide +kernel
theorem dX12_byRank_86 : decode yX12_byRank.2.1 86 = .ok (.iload_n 1, 1) := by decide +kernel
theorem dX12_byRank_87 : decode yX12_byRank.2.1 87 = .ok (.iload 8, 2) := by decide +kernel
theorem dX12_byRank_89 : decode yX12_byRank.2.1 89 = .ok (.iload 9, 2) := by decide +kernel
theorem dX12_byRank_91 : decode yX12_byRank.2.1 91 = .ok (.iload_n 2, 1) := by decide +kernel
theorem dX12_byRank_92 : decode yX12_byRank.2.1 92 = .ok (.aload_n 0, 1) := by decide +kernel
theorem dX12_byRank_93 : decode yX12_byRank.2.1 93 = .ok (.getfield 151, 3) := by decide +kernel
theorem dX12_byRank_96 : decode yX12_byRank.2.1 96 = .ok (.isub, 1) := by decide +kernel
theorem dX12_byRank_97 : decode yX12_byRank.2.1 97 = .ok (.invokevirtual 220, 3) := by decide +kernel
theorem dX12_byRank_100 : decode yX12_byRank.2.1 100 = .ok (.lstore 10, 2) := by decide +kernel
theorem dX12_byRank_102 : decode yX12_byRank.2.1 102 = .ok (.lload 6, 2) := by decide +kernel
theorem dX12_byRank_104 : decode yX12_byRank.2.1 104 = .ok (.lload 10, 2) := by decide +kernel
theorem dX12_byRank_106 : decode yX12_byRank.2.1 106 = .ok (.lcmp, 1) := by decide +kernel
theorem dX12_byRank_107 : decode yX12_byRank.2.1 107 = .ok (.ifCond .lt 33, 3) := by decide +kernel
theorem dX12_byRank_110 : decode yX12_byRank.2.1 110 = .ok (.lload 6, 2) := by decide +kernel
theorem dX12_byRank_112 : decode yX12_byRank.2.1 112 = .ok (.lload 10, 2) := by decide +kernel
theorem dX12_byRank_114 : decode yX12_byRank.2.1 114 = .ok (.lsub, 1) := by decide +kernel
theorem dX12_byRank_115 : decode yX12_byRank.2.1 115 = .ok (.lstore 6, 2) := by decide +kernel
theorem dX12_byRank_117 : decode yX12_byRank.2.1 117 = .ok (.iinc 9 1, 3) := by decide +kernel
theorem dX12_byRank_120 : decode yX12_byRank.2.1 120 = .ok (.aload_n 0, 1) := by decide +kernel
theorem dX12_byRank_121 : decode yX12_byRank.2.1 121 = .ok (.iload_n 1, 1) := by decide +kernel
theorem dX12_byRank_122 : decode yX12_byRank.2.1 122 = .ok (.iload 8, 2) := by decide +kernel
theorem dX12_byRank_124 : decode yX12_byRank.2.1 124 = .ok (.iload 9, 2) := by decide +kernel
theorem dX12_byRank_126 : decode yX12_byRank.2.1 126 = .ok (.iload_n 2, 1) := by decide +kernel
theorem dX12_byRank_127 : decode yX12_byRank.2.1 127 = .ok (.aload_n 0, 1) := by decide +kernel
theorem dX12_byRank_128 : decode yX12_byRank.2.1 128 = .ok (.getfield 151, 3) := by decide +kernel
theorem dX12_byRank_131 : decode yX12_byRank.2.1 131 = .ok (.isub, 1) := by decide +kernel
theorem dX12_byRank_132 : decode yX12_byRank.2.1 132 = .ok (.invokevirtual 220, 3) := by decide +kernel
theorem dX12_byRank_135 : decode yX12_byRank.2.1 135 = .ok (.lstore 10, 2) := by decide +kernel
theorem dX12_byRank_137 : decode yX12_byRank.2.1 137 = .ok (.goto (-35), 3) := by decide +kernel
theorem dX12_byRank_140 : decode yX12_byRank.2.1 140 = .ok (.aload_n 0, 1) := by decide +kernel
theorem dX12_byRank_141 : decode yX12_byRank.2.1 141 = .ok (.iload_n 1, 1) := by decide +kernel
theorem dX12_byRank_142 : decode yX12_byRank.2.1 142 = .ok (.iload 8, 2) := by decide +kernel
theorem dX12_byRank_144 : decode yX12_byRank.2.1 144 = .ok (.iload 9, 2) := by decide +kernel
theorem dX12_byRank_146 : decode yX12_byRank.2.1 146 = .ok (.invokevirtual 206, 3) := by decide +kernel
theorem dX12_byRank_149 : decode yX12_byRank.2.1 149 = .ok (.iconst 1, 1) := by decide +kernel
theorem dX12_byRank_150 : decode yX12_byRank.2.1 150 = .ok (.iadd, 1) := by decide +kernel
theorem dX12_byRank_151 : decode yX12_byRank.2.1 151 = .ok (.istore 8, 2) := by decide +kernel
theorem dX12_byRank_153 : decode yX12_byRank.2.1 153 = .ok (.aload_n 0, 1) := by decide +kernel
theorem dX12_byRank_154 : decode yX12_byRank.2.1 154 = .ok (.getfield 44, 3) := by decide +kernel
theorem dX12_byRank_157 : decode yX12_byRank.2.1 157 = .ok (.aload_n 0, 1) := by decide +kernel
theorem dX12_byRank_158 : decode yX12_byRank.2.1 158 = .ok (.getfield 151, 3) := by decide +kernel
theorem dX12_byRank_161 : decode yX12_byRank.2.1 161 = .ok (.iload 9, 2) := by decide +kernel
theorem dX12_byRank_163 : decode yX12_byRank.2.1 163 = .ok (.iastore, 1) := by decide +kernel
theorem dX12_byRank_164 : decode yX12_byRank.2.1 164 = .ok (.aload_n 0, 1) := by decide +kernel
theorem dX12_byRank_165 : decode yX12_byRank.2.1 165 = .ok (.dup, 1) := by decide +kernel
theorem dX12_byRank_166 : decode yX12_byRank.2.1 166 = .ok (.getfield 151, 3) := by decide +kernel
theorem dX12_byRank_169 : decode yX12_byRank.2.1 169 = .ok (.iconst 1, 1) := by decide +kernel
theorem dX12_byRank_170 : decode yX12_byRank.2.1 170 = .ok (.iadd, 1) := by decide +kernel
theorem dX12_byRank_171 : decode yX12_byRank.2.1 171 = .ok (.putfield 151, 3) := by decide +kernel
theorem dX12_byRank_174 : decode yX12_byRank.2.1 174 = .ok (.goto (-100), 3) := by decide +kernel
theorem dX12_byRank_177 : decode yX12_byRank.2.1 177 = .ok (.aload_n 0, 1) := by decide +kernel
theorem dX12_byRank_178 : decode yX12_byRank.2.1 178 = .ok (.iload 4, 2) := by decide +kernel
theorem dX12_byRank_180 : decode yX12_byRank.2.1 180 = .ok (.invokevirtual 214, 3) := by decide +kernel
theorem dX12_byRank_183 : decode yX12_byRank.2.1 183 = .ok (.iload_n 2, 1) := by decide +kernel
theorem dX12_byRank_184 : decode yX12_byRank.2.1 184 = .ok (.ireturn, 1) := by decide +kernel
theorem dX12_innersBy_0 : decode yX12_innersBy.2.1 0 = .ok (.aload_n 0, 1) := by decide +kernel
theorem dX12_innersBy_1 : decode yX12_innersBy.2.1 1 = .ok (.iload_n 1, 1) := by decide +kernel
theorem dX12_innersBy_2 : decode yX12_innersBy.2.1 2 = .ok (.iload_n 2, 1) := by decide +kernel
theorem dX12_innersBy_3 : decode yX12_innersBy.2.1 3 = .ok (.iload_n 3, 1) := by decide +kernel
theorem dX12_innersBy_4 : decode yX12_innersBy.2.1 4 = .ok (.invokevirtual 206, 3) := by decide +kernel
theorem dX12_innersBy_7 : decode yX12_innersBy.2.1 7 = .ok (.istore 5, 2) := by decide +kernel
theorem dX12_innersBy_9 : decode yX12_innersBy.2.1 9 = .ok (.iload 5, 2) := by decide +kernel
theorem dX12_innersBy_11 : decode yX12_innersBy.2.1 11 = .ok (.bipush (-9), 2) := by decide +kernel
theorem dX12_innersBy_13 : decode yX12_innersBy.2.1 13 = .ok (.if_icmp .ne 7, 3) := by decide +kernel
theorem dX12_innersBy_16 : decode yX12_innersBy.2.1 16 = .ok (.lconst 0, 1) := by decide +kernel
theorem dX12_innersBy_17 : decode yX12_innersBy.2.1 17 = .ok (.goto 20, 3) := by decide +kernel
theorem dX12_innersBy_20 : decode yX12_innersBy.2.1 20 = .ok (.aload_n 0, 1) := by decide +kernel
theorem dX12_innersBy_21 : decode yX12_innersBy.2.1 21 = .ok (.getfield 66, 3) := by decide +kernel
theorem dX12_innersBy_24 : decode yX12_innersBy.2.1 24 = .ok (.bipush 41, 2) := by decide +kernel
theorem dX12_innersBy_26 : decode yX12_innersBy.2.1 26 = .ok (.iload 5, 2) := by decide +kernel
theorem dX12_innersBy_28 : decode yX12_innersBy.2.1 28 = .ok (.iconst 1, 1) := by decide +kernel
theorem dX12_innersBy_29 : decode yX12_innersBy.2.1 29 = .ok (.iadd, 1) := by decide +kernel
theorem dX12_innersBy_30 : decode yX12_innersBy.2.1 30 = .ok (.imul, 1) := by decide +kernel
theorem dX12_innersBy_31 : decode yX12_innersBy.2.1 31 = .ok (.iload 4, 2) := by decide +kernel
theorem dX12_innersBy_33 : decode yX12_innersBy.2.1 33 = .ok (.iadd, 1) := by decide +kernel
theorem dX12_innersBy_34 : decode yX12_innersBy.2.1 34 = .ok (.iconst 1, 1) := by decide +kernel
theorem dX12_innersBy_35 : decode yX12_innersBy.2.1 35 = .ok (.isub, 1) := by decide +kernel
theorem dX12_innersBy_36 : decode yX12_innersBy.2.1 36 = .ok (.laload, 1) := by decide +kernel
theorem dX12_innersBy_37 : decode yX12_innersBy.2.1 37 = .ok (.lreturn, 1) := by decide +kernel
theorem dX12_archesFrom_0 : decode yX12_archesFrom.2.1 0 = .ok (.iconst 0, 1) := by decide +kernel
theorem dX12_archesFrom_1 : decode yX12_archesFrom.2.1 1 = .ok (.istore_n 3, 1) := by decide +kernel
theorem dX12_archesFrom_2 : decode yX12_archesFrom.2.1 2 = .ok (.aload_n 0, 1) := by decide +kernel
theorem dX12_archesFrom_3 : decode yX12_archesFrom.2.1 3 = .ok (.iload_n 2, 1) := by decide +kernel
theorem dX12_archesFrom_4 : decode yX12_archesFrom.2.1 4 = .ok (.putfield 224, 3) := by decide +kernel
theorem dX12_archesFrom_7 : decode yX12_archesFrom.2.1 7 = .ok (.aload_n 0, 1) := by decide +kernel
theorem dX12_archesFrom_8 : decode yX12_archesFrom.2.1 8 = .ok (.iconst 0, 1) := by decide +kernel
theorem dX12_archesFrom_9 : decode yX12_archesFrom.2.1 9 = .ok (.putfield 227, 3) := by decide +kernel
theorem dX12_archesFrom_12 : decode yX12_archesFrom.2.1 12 = .ok (.iload_n 2, 1) := by decide +kernel
theorem dX12_archesFrom_13 : decode yX12_archesFrom.2.1 13 = .ok (.istore 4, 2) := by decide +kernel
theorem dX12_archesFrom_15 : decode yX12_archesFrom.2.1 15 = .ok (.iload 4, 2) := by decide +kernel
theorem dX12_archesFrom_17 : decode yX12_archesFrom.2.1 17 = .ok (.aload_n 0, 1) := by decide +kernel
theorem dX12_archesFrom_18 : decode yX12_archesFrom.2.1 18 = .ok (.getfield 29, 3) := by decide +kernel
theorem dX12_archesFrom_21 : decode yX12_archesFrom.2.1 21 = .ok (.iload_n 1, 1) := by decide +kernel
theorem dX12_archesFrom_22 : decode yX12_archesFrom.2.1 22 = .ok (.iaload, 1) := by decide +kernel
theorem dX12_archesFrom_23 : decode yX12_archesFrom.2.1 23 = .ok (.if_icmp .ge 58, 3) := by decide +kernel
theorem dX12_archesFrom_26 : decode yX12_archesFrom.2.1 26 = .ok (.aload_n 0, 1) := by decide +kernel
theorem dX12_archesFrom_27 : decode yX12_archesFrom.2.1 27 = .ok (.dup, 1) := by decide +kernel
theorem dX12_archesFrom_28 : decode yX12_archesFrom.2.1 28 = .ok (.getfield 227, 3) := by decide +kernel
theorem dX12_archesFrom_31 : decode yX12_archesFrom.2.1 31 = .ok (.iconst 1, 1) := by decide +kernel
theorem dX12_archesFrom_32 : decode yX12_archesFrom.2.1 32 = .ok (.aload_n 0, 1) := by decide +kernel
theorem dX12_archesFrom_33 : decode yX12_archesFrom.2.1 33 = .ok (.iload_n 1, 1) := by decide +kernel
theorem dX12_archesFrom_34 : decode yX12_archesFrom.2.1 34 = .ok (.iload 4, 2) := by decide +kernel
theorem dX12_archesFrom_36 : decode yX12_archesFrom.2.1 36 = .ok (.invokevirtual 148, 3) := by decide +kernel
theorem dX12_archesFrom_39 : decode yX12_archesFrom.2.1 39 = .ok (.ishl, 1) := by decide +kernel
theorem dX12_archesFrom_40 : decode yX12_archesFrom.2.1 40 = .ok (.ior, 1) := by decide +kernel
theorem dX12_archesFrom_41 : decode yX12_archesFrom.2.1 41 = .ok (.putfield 227, 3) := by decide +kernel
theorem dX12_archesFrom_44 : decode yX12_archesFrom.2.1 44 = .ok (.aload_n 0, 1) := by decide +kernel
theorem dX12_archesFrom_45 : decode yX12_archesFrom.2.1 45 = .ok (.getfield 227, 3) := by decide +kernel
theorem dX12_archesFrom_48 : decode yX12_archesFrom.2.1 48 = .ok (.iconst 1, 1) := by decide +kernel
theorem dX12_archesFrom_49 : decode yX12_archesFrom.2.1 49 = .ok (.aload_n 0, 1) := by decide +kernel
theorem dX12_archesFrom_50 : decode yX12_archesFrom.2.1 50 = .ok (.getfield 110, 3) := by decide +kernel
theorem dX12_archesFrom_53 : decode yX12_archesFrom.2.1 53 = .ok (.ishl, 1) := by decide +kernel
theorem dX12_archesFrom_54 : decode yX12_archesFrom.2.1 54 = .ok (.iconst 1, 1) := by decide +kernel
theorem dX12_archesFrom_55 : decode yX12_archesFrom.2.1 55 = .ok (.isub, 1) := by decide +kernel
theorem dX12_archesFrom_56 : decode yX12_archesFrom.2.1 56 = .ok (.if_icmp .ne 19, 3) := by decide +kernel
theorem dX12_archesFrom_59 : decode yX12_archesFrom.2.1 59 = .ok (.iinc 3 1, 3) := by decide +kernel
theorem dX12_archesFrom_62 : decode yX12_archesFrom.2.1 62 = .ok (.aload_n 0, 1) := by decide +kernel
theorem dX12_archesFrom_63 : decode yX12_archesFrom.2.1 63 = .ok (.iload 4, 2) := by decide +kernel
theorem dX12_archesFrom_65 : decode yX12_archesFrom.2.1 65 = .ok (.iconst 1, 1) := by decide +kernel
theorem dX12_archesFrom_66 : decode yX12_archesFrom.2.1 66 = .ok (.iadd, 1) := by decide +kernel
theorem dX12_archesFrom_67 : decode yX12_archesFrom.2.1 67 = .ok (.putfield 224, 3) := by decide +kernel
theorem dX12_archesFrom_70 : decode yX12_archesFrom.2.1 70 = .ok (.aload_n 0, 1) := by decide +kernel
theorem dX12_archesFrom_71 : decode yX12_archesFrom.2.1 71 = .ok (.iconst 0, 1) := by decide +kernel
theorem dX12_archesFrom_72 : decode yX12_archesFrom.2.1 72 = .ok (.putfield 227, 3) := by decide +kernel
theorem dX12_archesFrom_75 : decode yX12_archesFrom.2.1 75 = .ok (.iinc 4 1, 3) := by decide +kernel
theorem dX12_archesFrom_78 : decode yX12_archesFrom.2.1 78 = .ok (.goto (-63), 3) := by decide +kernel
theorem dX12_archesFrom_81 : decode yX12_archesFrom.2.1 81 = .ok (.iload_n 3, 1) := by decide +kernel
theorem dX12_archesFrom_82 : decode yX12_archesFrom.2.1 82 = .ok (.ireturn, 1) := by decide +kernel
theorem dX12_arches_0 : decode yX12_arches.2.1 0 = .ok (.aload_n 0, 1) := by decide +kernel
theorem dX12_arches_1 : decode yX12_arches.2.1 1 = .ok (.iconst 1, 1) := by decide +kernel
theorem dX12_arches_2 : decode yX12_arches.2.1 2 = .ok (.iload_n 1, 1) := by decide +kernel
theorem dX12_arches_3 : decode yX12_arches.2.1 3 = .ok (.invokevirtual 192, 3) := by decide +kernel
theorem dX12_arches_6 : decode yX12_arches.2.1 6 = .ok (.istore_n 2, 1) := by decide +kernel
theorem dX12_arches_7 : decode yX12_arches.2.1 7 = .ok (.iload_n 2, 1) := by decide +kernel
theorem dX12_arches_8 : decode yX12_arches.2.1 8 = .ok (.ifCond .ge 5, 3) := by decide +kernel
theorem dX12_arches_11 : decode yX12_arches.2.1 11 = .ok (.iload_n 2, 1) := by decide +kernel
theorem dX12_arches_12 : decode yX12_arches.2.1 12 = .ok (.ireturn, 1) := by decide +kernel
theorem dX12_arches_13 : decode yX12_arches.2.1 13 = .ok (.aload_n 0, 1) := by decide +kernel
theorem dX12_arches_14 : decode yX12_arches.2.1 14 = .ok (.iload_n 1, 1) := by decide +kernel
theorem dX12_arches_15 : decode yX12_arches.2.1 15 = .ok (.iconst 0, 1) := by decide +kernel
theorem dX12_arches_16 : decode yX12_arches.2.1 16 = .ok (.invokevirtual 230, 3) := by decide +kernel
theorem dX12_arches_19 : decode yX12_arches.2.1 19 = .ok (.istore_n 3, 1) := by decide +kernel
theorem dX12_arches_20 : decode yX12_arches.2.1 20 = .ok (.aload_n 0, 1) := by decide +kernel
theorem dX12_arches_21 : decode yX12_arches.2.1 21 = .ok (.aload_n 0, 1) := by decide +kernel
theorem dX12_arches_22 : decode yX12_arches.2.1 22 = .ok (.getfield 29, 3) := by decide +kernel
theorem dX12_arches_25 : decode yX12_arches.2.1 25 = .ok (.iload_n 1, 1) := by decide +kernel
theorem dX12_arches_26 : decode yX12_arches.2.1 26 = .ok (.iaload, 1) := by decide +kernel
theorem dX12_arches_27 : decode yX12_arches.2.1 27 = .ok (.aload_n 0, 1) := by decide +kernel
theorem dX12_arches_28 : decode yX12_arches.2.1 28 = .ok (.getfield 224, 3) := by decide +kernel
theorem dX12_arches_31 : decode yX12_arches.2.1 31 = .ok (.isub, 1) := by decide +kernel
theorem dX12_arches_32 : decode yX12_arches.2.1 32 = .ok (.iload_n 3, 1) := by decide +kernel
theorem dX12_arches_33 : decode yX12_arches.2.1 33 = .ok (.invokevirtual 142, 3) := by decide +kernel
theorem dX12_arches_36 : decode yX12_arches.2.1 36 = .ok (.ireturn, 1) := by decide +kernel
theorem dX12_powerOf_0 : decode yX12_powerOf.2.1 0 = .ok (.lconst 1, 1) := by decide +kernel
theorem dX12_powerOf_1 : decode yX12_powerOf.2.1 1 = .ok (.lstore_n 3, 1) := by decide +kernel
theorem dX12_powerOf_2 : decode yX12_powerOf.2.1 2 = .ok (.iconst 0, 1) := by decide +kernel
theorem dX12_powerOf_3 : decode yX12_powerOf.2.1 3 = .ok (.istore 5, 2) := by decide +kernel
theorem dX12_powerOf_5 : decode yX12_powerOf.2.1 5 = .ok (.iload 5, 2) := by decide +kernel
theorem dX12_powerOf_7 : decode yX12_powerOf.2.1 7 = .ok (.iload_n 2, 1) := by decide +kernel
theorem dX12_powerOf_8 : decode yX12_powerOf.2.1 8 = .ok (.if_icmp .ge 13, 3) := by decide +kernel
theorem dX12_powerOf_11 : decode yX12_powerOf.2.1 11 = .ok (.lload_n 3, 1) := by decide +kernel
theorem dX12_powerOf_12 : decode yX12_powerOf.2.1 12 = .ok (.lload_n 0, 1) := by decide +kernel
theorem dX12_powerOf_13 : decode yX12_powerOf.2.1 13 = .ok (.lmul, 1) := by decide +kernel
theorem dX12_powerOf_14 : decode yX12_powerOf.2.1 14 = .ok (.lstore_n 3, 1) := by decide +kernel
theorem dX12_powerOf_15 : decode yX12_powerOf.2.1 15 = .ok (.iinc 5 1, 3) := by decide +kernel
theorem dX12_powerOf_18 : decode yX12_powerOf.2.1 18 = .ok (.goto (-13), 3) := by decide +kernel
theorem dX12_powerOf_21 : decode yX12_powerOf.2.1 21 = .ok (.lload_n 3, 1) := by decide +kernel
theorem dX12_powerOf_22 : decode yX12_powerOf.2.1 22 = .ok (.lreturn, 1) := by decide +kernel
theorem dX12_hasAll_0 : decode yX12_hasAll.2.1 0 = .ok (.iload_n 2, 1) := by decide +kernel
theorem dX12_hasAll_1 : decode yX12_hasAll.2.1 1 = .ok (.bipush (-9), 2) := by decide +kernel
theorem dX12_hasAll_3 : decode yX12_hasAll.2.1 3 = .ok (.if_icmp .eq 19, 3) := by decide +kernel
theorem dX12_hasAll_6 : decode yX12_hasAll.2.1 6 = .ok (.aload_n 0, 1) := by decide +kernel
theorem dX12_hasAll_7 : decode yX12_hasAll.2.1 7 = .ok (.iload_n 1, 1) := by decide +kernel
theorem dX12_hasAll_8 : decode yX12_hasAll.2.1 8 = .ok (.iload_n 2, 1) := by decide +kernel
theorem dX12_hasAll_9 : decode yX12_hasAll.2.1 9 = .ok (.iconst 1, 1) := by decide +kernel
theorem dX12_hasAll_10 : decode yX12_hasAll.2.1 10 = .ok (.iadd, 1) := by decide +kernel
theorem dX12_hasAll_11 : decode yX12_hasAll.2.1 11 = .ok (.invokevirtual 230, 3) := by decide +kernel
theorem dX12_hasAll_14 : decode yX12_hasAll.2.1 14 = .ok (.iload_n 3, 1) := by decide +kernel
theorem dX12_hasAll_15 : decode yX12_hasAll.2.1 15 = .ok (.if_icmp .lt 7, 3) := by decide +kernel
theorem dX12_hasAll_18 : decode yX12_hasAll.2.1 18 = .ok (.iconst 1, 1) := by decide +kernel
theorem dX12_hasAll_19 : decode yX12_hasAll.2.1 19 = .ok (.goto 4, 3) := by decide +kernel
theorem dX12_hasAll_22 : decode yX12_hasAll.2.1 22 = .ok (.iconst 0, 1) := by decide +kernel
theorem dX12_hasAll_23 : decode yX12_hasAll.2.1 23 = .ok (.ireturn, 1) := by decide +kernel
theorem dX12_layAbsent_0 : decode yX12_layAbsent.2.1 0 = .ok (.iconst 0, 1) := by decide +kernel
theorem dX12_layAbsent_1 : decode yX12_layAbsent.2.1 1 = .ok (.istore_n 3, 1) := by decide +kernel
theorem dX12_layAbsent_2 : decode yX12_layAbsent.2.1 2 = .ok (.iconst 0, 1) := by decide +kernel
theorem dX12_layAbsent_3 : decode yX12_layAbsent.2.1 3 = .ok (.istore 4, 2) := by decide +kernel
theorem dX12_layAbsent_5 : decode yX12_layAbsent.2.1 5 = .ok (.aload_n 0, 1) := by decide +kernel
theorem dX12_layAbsent_6 : decode yX12_layAbsent.2.1 6 = .ok (.iconst 0, 1) := by decide +kernel
theorem dX12_layAbsent_7 : decode yX12_layAbsent.2.1 7 = .ok (.putfield 151, 3) := by decide +kernel
theorem dX12_layAbsent_10 : decode yX12_layAbsent.2.1 10 = .ok (.aload_n 0, 1) := by decide +kernel
theorem dX12_layAbsent_11 : decode yX12_layAbsent.2.1 11 = .ok (.getfield 151, 3) := by decide +kernel
theorem dX12_layAbsent_14 : decode yX12_layAbsent.2.1 14 = .ok (.iload_n 2, 1) := by decide +kernel
theorem dX12_layAbsent_15 : decode yX12_layAbsent.2.1 15 = .ok (.if_icmp .ge 122, 3) := by decide +kernel
theorem dX12_layAbsent_18 : decode yX12_layAbsent.2.1 18 = .ok (.iconst 0, 1) := by decide +kernel
theorem dX12_layAbsent_19 : decode yX12_layAbsent.2.1 19 = .ok (.istore 5, 2) := by decide +kernel
theorem dX12_layAbsent_21 : decode yX12_layAbsent.2.1 21 = .ok (.iload 4, 2) := by decide +kernel
theorem dX12_layAbsent_23 : decode yX12_layAbsent.2.1 23 = .ok (.ifCond .ne 33, 3) := by decide +kernel
theorem dX12_layAbsent_26 : decode yX12_layAbsent.2.1 26 = .ok (.aload_n 0, 1) := by decide +kernel
theorem dX12_layAbsent_27 : decode yX12_layAbsent.2.1 27 = .ok (.iload_n 1, 1) := by decide +kernel
theorem dX12_layAbsent_28 : decode yX12_layAbsent.2.1 28 = .ok (.aload_n 0, 1) := by decide +kernel
theorem dX12_layAbsent_29 : decode yX12_layAbsent.2.1 29 = .ok (.iload_n 1, 1) := by decide +kernel
theorem dX12_layAbsent_30 : decode yX12_layAbsent.2.1 30 = .ok (.iload_n 3, 1) := by decide +kernel
theorem dX12_layAbsent_31 : decode yX12_layAbsent.2.1 31 = .ok (.iload 5, 2) := by decide +kernel
theorem dX12_layAbsent_33 : decode yX12_layAbsent.2.1 33 = .ok (.invokevirtual 206, 3) := by decide +kernel
theorem dX12_layAbsent_36 : decode yX12_layAbsent.2.1 36 = .ok (.iload_n 2, 1) := by decide +kernel
theorem dX12_layAbsent_37 : decode yX12_layAbsent.2.1 37 = .ok (.iconst 1, 1) := by decide +kernel
theorem dX12_layAbsent_38 : decode yX12_layAbsent.2.1 38 = .ok (.isub, 1) := by decide +kernel
theorem dX12_layAbsent_39 : decode yX12_layAbsent.2.1 39 = .ok (.aload_n 0, 1) := by decide +kernel
theorem dX12_layAbsent_40 : decode yX12_layAbsent.2.1 40 = .ok (.getfield 151, 3) := by decide +kernel
theorem dX12_layAbsent_43 : decode yX12_layAbsent.2.1 43 = .ok (.isub, 1) := by decide +kernel
theorem dX12_layAbsent_44 : decode yX12_layAbsent.2.1 44 = .ok (.invokevirtual 233, 3) := by decide +kernel
theorem dX12_layAbsent_47 : decode yX12_layAbsent.2.1 47 = .ok (.ifCond .eq 9, 3) := by decide +kernel
theorem dX12_layAbsent_50 : decode yX12_layAbsent.2.1 50 = .ok (.iinc 5 1, 3) := by decide +kernel
theorem dX12_layAbsent_53 : decode yX12_layAbsent.2.1 53 = .ok (.goto (-32), 3) := by decide +kernel
theorem dX12_layAbsent_56 : decode yX12_layAbsent.2.1 56 = .ok (.iload 4, 2) := by decide +kernel
theorem dX12_layAbsent_58 : decode yX12_layAbsent.2.1 58 = .ok (.ifCond .eq 8, 3) := by decide +kernel
theorem dX12_layAbsent_61 : decode yX12_layAbsent.2.1 61 = .ok (.bipush (-9), 2) := by decide +kernel
theorem dX12_layAbsent_63 : decode yX12_layAbsent.2.1 63 = .ok (.goto 11, 3) := by decide +kernel
theorem dX12_layAbsent_66 : decode yX12_layAbsent.2.1 66 = .ok (.aload_n 0, 1) := by decide +kernel
theorem dX12_layAbsent_67 : decode yX12_layAbsent.2.1 67 = .ok (.iload_n 1, 1) := by decide +kernel
theorem dX12_layAbsent_68 : decode yX12_layAbsent.2.1 68 = .ok (.iload_n 3, 1) := by decide +kernel
theorem dX12_layAbsent_69 : decode yX12_layAbsent.2.1 69 = .ok (.iload 5, 2) := by decide +kernel
theorem dX12_layAbsent_71 : decode yX12_layAbsent.2.1 71 = .ok (.invokevirtual 206, 3) := by decide +kernel
theorem dX12_layAbsent_74 : decode yX12_layAbsent.2.1 74 = .ok (.istore 6, 2) := by decide +kernel
theorem dX12_layAbsent_76 : decode yX12_layAbsent.2.1 76 = .ok (.iload 6, 2) := by decide +kernel
theorem dX12_layAbsent_78 : decode yX12_layAbsent.2.1 78 = .ok (.bipush (-9), 2) := by decide +kernel
theorem dX12_layAbsent_80 : decode yX12_layAbsent.2.1 80 = .ok (.if_icmp .ne 7, 3) := by decide +kernel
theorem dX12_layAbsent_83 : decode yX12_layAbsent.2.1 83 = .ok (.iconst 1, 1) := by decide +kernel
theorem dX12_layAbsent_84 : decode yX12_layAbsent.2.1 84 = .ok (.goto 4, 3) := by decide +kernel
theorem dX12_layAbsent_87 : decode yX12_layAbsent.2.1 87 = .ok (.iconst 0, 1) := by decide +kernel
theorem dX12_layAbsent_88 : decode yX12_layAbsent.2.1 88 = .ok (.istore 4, 2) := by decide +kernel
theorem dX12_layAbsent_90 : decode yX12_layAbsent.2.1 90 = .ok (.iload 4, 2) := by decide +kernel
theorem dX12_layAbsent_92 : decode yX12_layAbsent.2.1 92 = .ok (.ifCond .eq 7, 3) := by decide +kernel
theorem dX12_layAbsent_95 : decode yX12_layAbsent.2.1 95 = .ok (.iload_n 3, 1) := by decide +kernel
theorem dX12_layAbsent_96 : decode yX12_layAbsent.2.1 96 = .ok (.goto 7, 3) := by decide +kernel
theorem dX12_layAbsent_99 : decode yX12_layAbsent.2.1 99 = .ok (.iload 6, 2) := by decide +kernel
theorem dX12_layAbsent_101 : decode yX12_layAbsent.2.1 101 = .ok (.iconst 1, 1) := by decide +kernel
theorem dX12_layAbsent_102 : decode yX12_layAbsent.2.1 102 = .ok (.iadd, 1) := by decide +kernel
theorem dX12_layAbsent_103 : decode yX12_layAbsent.2.1 103 = .ok (.istore_n 3, 1) := by decide +kernel
theorem dX12_layAbsent_104 : decode yX12_layAbsent.2.1 104 = .ok (.aload_n 0, 1) := by decide +kernel
theorem dX12_layAbsent_105 : decode yX12_layAbsent.2.1 105 = .ok (.getfield 151, 3) := by decide +kernel
theorem dX12_layAbsent_108 : decode yX12_layAbsent.2.1 108 = .ok (.bipush 40, 2) := by decide +kernel
theorem dX12_layAbsent_110 : decode yX12_layAbsent.2.1 110 = .ok (.if_icmp .ge 14, 3) := by decide +kernel
theorem dX12_layAbsent_113 : decode yX12_layAbsent.2.1 113 = .ok (.aload_n 0, 1) := by decide +kernel
theorem dX12_layAbsent_114 : decode yX12_layAbsent.2.1 114 = .ok (.getfield 44, 3) := by decide +kernel
theorem dX12_layAbsent_117 : decode yX12_layAbsent.2.1 117 = .ok (.aload_n 0, 1) := by decide +kernel
theorem dX12_layAbsent_118 : decode yX12_layAbsent.2.1 118 = .ok (.getfield 151, 3) := by decide +kernel
theorem dX12_layAbsent_121 : decode yX12_layAbsent.2.1 121 = .ok (.iload 5, 2) := by decide +kernel
theorem dX12_layAbsent_123 : decode yX12_layAbsent.2.1 123 = .ok (.iastore, 1) := by decide +kernel
theorem dX12_layAbsent_124 : decode yX12_layAbsent.2.1 124 = .ok (.aload_n 0, 1) := by decide +kernel
theorem dX12_layAbsent_125 : decode yX12_layAbsent.2.1 125 = .ok (.dup, 1) := by decide +kernel
theorem dX12_layAbsent_126 : decode yX12_layAbsent.2.1 126 = .ok (.getfield 151, 3) := by decide +kernel
theorem dX12_layAbsent_129 : decode yX12_layAbsent.2.1 129 = .ok (.iconst 1, 1) := by decide +kernel
theorem dX12_layAbsent_130 : decode yX12_layAbsent.2.1 130 = .ok (.iadd, 1) := by decide +kernel
theorem dX12_layAbsent_131 : decode yX12_layAbsent.2.1 131 = .ok (.putfield 151, 3) := by decide +kernel
theorem dX12_layAbsent_134 : decode yX12_layAbsent.2.1 134 = .ok (.goto (-124), 3) := by decide +kernel
theorem dX12_layAbsent_137 : decode yX12_layAbsent.2.1 137 = .ok (.return_, 1) := by decide +kernel
theorem dX12_absent_0 : decode yX12_absent.2.1 0 = .ok (.aload_n 0, 1) := by decide +kernel
theorem dX12_absent_1 : decode yX12_absent.2.1 1 = .ok (.iload_n 2, 1) := by decide +kernel
theorem dX12_absent_2 : decode yX12_absent.2.1 2 = .ok (.invokestatic 130, 3) := by decide +kernel
theorem dX12_absent_5 : decode yX12_absent.2.1 5 = .ok (.iload_n 1, 1) := by decide +kernel
theorem dX12_absent_6 : decode yX12_absent.2.1 6 = .ok (.invokevirtual 192, 3) := by decide +kernel
theorem dX12_absent_9 : decode yX12_absent.2.1 9 = .ok (.istore_n 3, 1) := by decide +kernel
theorem dX12_absent_10 : decode yX12_absent.2.1 10 = .ok (.iload_n 3, 1) := by decide +kernel
theorem dX12_absent_11 : decode yX12_absent.2.1 11 = .ok (.ifCond .ge 5, 3) := by decide +kernel
theorem dX12_absent_14 : decode yX12_absent.2.1 14 = .ok (.iload_n 3, 1) := by decide +kernel
theorem dX12_absent_15 : decode yX12_absent.2.1 15 = .ok (.ireturn, 1) := by decide +kernel
theorem dX12_absent_16 : decode yX12_absent.2.1 16 = .ok (.aload_n 0, 1) := by decide +kernel
theorem dX12_absent_17 : decode yX12_absent.2.1 17 = .ok (.iload_n 1, 1) := by decide +kernel
theorem dX12_absent_18 : decode yX12_absent.2.1 18 = .ok (.iconst 0, 1) := by decide +kernel
theorem dX12_absent_19 : decode yX12_absent.2.1 19 = .ok (.invokevirtual 230, 3) := by decide +kernel
theorem dX12_absent_22 : decode yX12_absent.2.1 22 = .ok (.iconst 1, 1) := by decide +kernel
theorem dX12_absent_23 : decode yX12_absent.2.1 23 = .ok (.iadd, 1) := by decide +kernel
theorem dX12_absent_24 : decode yX12_absent.2.1 24 = .ok (.istore 4, 2) := by decide +kernel
theorem dX12_absent_26 : decode yX12_absent.2.1 26 = .ok (.aload_n 0, 1) := by decide +kernel
theorem dX12_absent_27 : decode yX12_absent.2.1 27 = .ok (.iload_n 1, 1) := by decide +kernel
theorem dX12_absent_28 : decode yX12_absent.2.1 28 = .ok (.invokevirtual 217, 3) := by decide +kernel
theorem dX12_absent_31 : decode yX12_absent.2.1 31 = .ok (.iload 4, 2) := by decide +kernel
theorem dX12_absent_33 : decode yX12_absent.2.1 33 = .ok (.bipush 40, 2) := by decide +kernel
theorem dX12_absent_35 : decode yX12_absent.2.1 35 = .ok (.if_icmp .le 7, 3) := by decide +kernel
theorem dX12_absent_38 : decode yX12_absent.2.1 38 = .ok (.lconst 0, 1) := by decide +kernel
theorem dX12_absent_39 : decode yX12_absent.2.1 39 = .ok (.goto 10, 3) := by decide +kernel
theorem dX12_absent_42 : decode yX12_absent.2.1 42 = .ok (.aload_n 0, 1) := by decide +kernel
theorem dX12_absent_43 : decode yX12_absent.2.1 43 = .ok (.getfield 66, 3) := by decide +kernel
theorem dX12_absent_46 : decode yX12_absent.2.1 46 = .ok (.iload 4, 2) := by decide +kernel
theorem dX12_absent_48 : decode yX12_absent.2.1 48 = .ok (.laload, 1) := by decide +kernel
theorem dX12_absent_49 : decode yX12_absent.2.1 49 = .ok (.lstore 5, 2) := by decide +kernel
theorem dX12_absent_51 : decode yX12_absent.2.1 51 = .ok (.aload_n 0, 1) := by decide +kernel
theorem dX12_absent_52 : decode yX12_absent.2.1 52 = .ok (.iload_n 1, 1) := by decide +kernel
theorem dX12_absent_53 : decode yX12_absent.2.1 53 = .ok (.iload 4, 2) := by decide +kernel
theorem dX12_absent_55 : decode yX12_absent.2.1 55 = .ok (.invokevirtual 236, 3) := by decide +kernel
theorem dX12_absent_58 : decode yX12_absent.2.1 58 = .ok (.aload_n 0, 1) := by decide +kernel
theorem dX12_absent_59 : decode yX12_absent.2.1 59 = .ok (.iload 4, 2) := by decide +kernel
theorem dX12_absent_61 : decode yX12_absent.2.1 61 = .ok (.bipush 40, 2) := by decide +kernel
theorem dX12_absent_63 : decode yX12_absent.2.1 63 = .ok (.if_icmp .le 8, 3) := by decide +kernel
theorem dX12_absent_66 : decode yX12_absent.2.1 66 = .ok (.bipush 40, 2) := by decide +kernel
theorem dX12_absent_68 : decode yX12_absent.2.1 68 = .ok (.goto 5, 3) := by decide +kernel
theorem dX12_absent_71 : decode yX12_absent.2.1 71 = .ok (.iload 4, 2) := by decide +kernel
theorem dX12_absent_73 : decode yX12_absent.2.1 73 = .ok (.putfield 151, 3) := by decide +kernel
theorem dX12_absent_76 : decode yX12_absent.2.1 76 = .ok (.aload_n 0, 1) := by decide +kernel
theorem dX12_absent_77 : decode yX12_absent.2.1 77 = .ok (.iload_n 2, 1) := by decide +kernel
theorem dX12_absent_78 : decode yX12_absent.2.1 78 = .ok (.invokevirtual 214, 3) := by decide +kernel
theorem dX12_absent_81 : decode yX12_absent.2.1 81 = .ok (.aload_n 0, 1) := by decide +kernel
theorem dX12_absent_82 : decode yX12_absent.2.1 82 = .ok (.aload_n 0, 1) := by decide +kernel
theorem dX12_absent_83 : decode yX12_absent.2.1 83 = .ok (.getfield 110, 3) := by decide +kernel
theorem dX12_absent_86 : decode yX12_absent.2.1 86 = .ok (.i2l, 1) := by decide +kernel
theorem dX12_absent_87 : decode yX12_absent.2.1 87 = .ok (.iload 4, 2) := by decide +kernel
theorem dX12_absent_89 : decode yX12_absent.2.1 89 = .ok (.invokestatic 239, 3) := by decide +kernel
theorem dX12_absent_92 : decode yX12_absent.2.1 92 = .ok (.lload 5, 2) := by decide +kernel
theorem dX12_absent_94 : decode yX12_absent.2.1 94 = .ok (.lsub, 1) := by decide +kernel
theorem dX12_absent_95 : decode yX12_absent.2.1 95 = .ok (.iload 4, 2) := by decide +kernel
theorem dX12_absent_97 : decode yX12_absent.2.1 97 = .ok (.invokevirtual 202, 3) := by decide +kernel
theorem dX12_absent_100 : decode yX12_absent.2.1 100 = .ok (.ireturn, 1) := by decide +kernel
theorem dX12_added_0 : decode yX12_added.2.1 0 = .ok (.aload_n 0, 1) := by decide +kernel
theorem dX12_added_1 : decode yX12_added.2.1 1 = .ok (.iload_n 2, 1) := by decide +kernel
theorem dX12_added_2 : decode yX12_added.2.1 2 = .ok (.iconst 0, 1) := by decide +kernel
theorem dX12_added_3 : decode yX12_added.2.1 3 = .ok (.bipush 40, 2) := by decide +kernel
theorem dX12_added_5 : decode yX12_added.2.1 5 = .ok (.invokestatic 117, 3) := by decide +kernel
theorem dX12_added_8 : decode yX12_added.2.1 8 = .ok (.iload_n 1, 1) := by decide +kernel
theorem dX12_added_9 : decode yX12_added.2.1 9 = .ok (.invokevirtual 192, 3) := by decide +kernel
theorem dX12_added_12 : decode yX12_added.2.1 12 = .ok (.istore_n 3, 1) := by decide +kernel
theorem dX12_added_13 : decode yX12_added.2.1 13 = .ok (.iload_n 3, 1) := by decide +kernel
theorem dX12_added_14 : decode yX12_added.2.1 14 = .ok (.ifCond .ge 5, 3) := by decide +kernel
theorem dX12_added_17 : decode yX12_added.2.1 17 = .ok (.iload_n 3, 1) := by decide +kernel
theorem dX12_added_18 : decode yX12_added.2.1 18 = .ok (.ireturn, 1) := by decide +kernel
theorem dX12_added_19 : decode yX12_added.2.1 19 = .ok (.aload_n 0, 1) := by decide +kernel
theorem dX12_added_20 : decode yX12_added.2.1 20 = .ok (.iload_n 1, 1) := by decide +kernel
theorem dX12_added_21 : decode yX12_added.2.1 21 = .ok (.iconst 0, 1) := by decide +kernel
theorem dX12_added_22 : decode yX12_added.2.1 22 = .ok (.invokevirtual 230, 3) := by decide +kernel
theorem dX12_added_25 : decode yX12_added.2.1 25 = .ok (.istore 4, 2) := by decide +kernel
theorem dX12_added_27 : decode yX12_added.2.1 27 = .ok (.aload_n 0, 1) := by decide +kernel
theorem dX12_added_28 : decode yX12_added.2.1 28 = .ok (.getfield 110, 3) := by decide +kernel
theorem dX12_added_31 : decode yX12_added.2.1 31 = .ok (.istore 5, 2) := by decide +kernel
theorem dX12_added_33 : decode yX12_added.2.1 33 = .ok (.iconst 0, 1) := by decide +kernel
theorem dX12_added_34 : decode yX12_added.2.1 34 = .ok (.istore 6, 2) := by decide +kernel
theorem dX12_added_36 : decode yX12_added.2.1 36 = .ok (.iload 6, 2) := by decide +kernel
theorem dX12_added_38 : decode yX12_added.2.1 38 = .ok (.aload_n 0, 1) := by decide +kernel
theorem dX12_added_39 : decode yX12_added.2.1 39 = .ok (.getfield 110, 3) := by decide +kernel
theorem dX12_added_42 : decode yX12_added.2.1 42 = .ok (.if_icmp .ge 31, 3) := by decide +kernel
theorem dX12_added_45 : decode yX12_added.2.1 45 = .ok (.iload 5, 2) := by decide +kernel
theorem dX12_added_47 : decode yX12_added.2.1 47 = .ok (.aload_n 0, 1) := by decide +kernel
theorem dX12_added_48 : decode yX12_added.2.1 48 = .ok (.getfield 227, 3) := by decide +kernel
theorem dX12_added_51 : decode yX12_added.2.1 51 = .ok (.iload 6, 2) := by decide +kernel
theorem dX12_added_53 : decode yX12_added.2.1 53 = .ok (.invokestatic 243, 3) := by decide +kernel
theorem dX12_added_56 : decode yX12_added.2.1 56 = .ok (.ifCond .eq 7, 3) := by decide +kernel
theorem dX12_added_59 : decode yX12_added.2.1 59 = .ok (.iconst 1, 1) := by decide +kernel
theorem dX12_added_60 : decode yX12_added.2.1 60 = .ok (.goto 4, 3) := by decide +kernel
theorem dX12_added_63 : decode yX12_added.2.1 63 = .ok (.iconst 0, 1) := by decide +kernel
theorem dX12_added_64 : decode yX12_added.2.1 64 = .ok (.isub, 1) := by decide +kernel
theorem dX12_added_65 : decode yX12_added.2.1 65 = .ok (.istore 5, 2) := by decide +kernel
theorem dX12_added_67 : decode yX12_added.2.1 67 = .ok (.iinc 6 1, 3) := by decide +kernel
theorem dX12_added_70 : decode yX12_added.2.1 70 = .ok (.goto (-34), 3) := by decide +kernel
theorem dX12_added_73 : decode yX12_added.2.1 73 = .ok (.iload 4, 2) := by decide +kernel
theorem dX12_added_75 : decode yX12_added.2.1 75 = .ok (.iload_n 2, 1) := by decide +kernel
theorem dX12_added_76 : decode yX12_added.2.1 76 = .ok (.if_icmp .lt 7, 3) := by decide +kernel
theorem dX12_added_79 : decode yX12_added.2.1 79 = .ok (.iconst 0, 1) := by decide +kernel
theorem dX12_added_80 : decode yX12_added.2.1 80 = .ok (.goto 17, 3) := by decide +kernel
theorem dX12_added_83 : decode yX12_added.2.1 83 = .ok (.iload 5, 2) := by decide +kernel
theorem dX12_added_85 : decode yX12_added.2.1 85 = .ok (.iload_n 2, 1) := by decide +kernel
theorem dX12_added_86 : decode yX12_added.2.1 86 = .ok (.iload 4, 2) := by decide +kernel
theorem dX12_added_88 : decode yX12_added.2.1 88 = .ok (.isub, 1) := by decide +kernel
theorem dX12_added_89 : decode yX12_added.2.1 89 = .ok (.iconst 1, 1) := by decide +kernel
theorem dX12_added_90 : decode yX12_added.2.1 90 = .ok (.isub, 1) := by decide +kernel
theorem dX12_added_91 : decode yX12_added.2.1 91 = .ok (.aload_n 0, 1) := by decide +kernel
theorem dX12_added_92 : decode yX12_added.2.1 92 = .ok (.getfield 110, 3) := by decide +kernel
theorem dX12_added_95 : decode yX12_added.2.1 95 = .ok (.imul, 1) := by decide +kernel
theorem dX12_added_96 : decode yX12_added.2.1 96 = .ok (.iadd, 1) := by decide +kernel
theorem dX12_added_97 : decode yX12_added.2.1 97 = .ok (.ireturn, 1) := by decide +kernel
theorem dX12_nextOther_0 : decode yX12_nextOther.2.1 0 = .ok (.iload_n 1, 1) := by decide +kernel
theorem dX12_nextOther_1 : decode yX12_nextOther.2.1 1 = .ok (.istore_n 3, 1) := by decide +kernel
theorem dX12_nextOther_2 : decode yX12_nextOther.2.1 2 = .ok (.iload_n 3, 1) := by decide +kernel
theorem dX12_nextOther_3 : decode yX12_nextOther.2.1 3 = .ok (.aload_n 0, 1) := by decide +kernel
theorem dX12_nextOther_4 : decode yX12_nextOther.2.1 4 = .ok (.getfield 246, 3) := by decide +kernel
theorem dX12_nextOther_7 : decode yX12_nextOther.2.1 7 = .ok (.if_icmp .ge 21, 3) := by decide +kernel
theorem dX12_nextOther_10 : decode yX12_nextOther.2.1 10 = .ok (.aload_n 0, 1) := by decide +kernel
theorem dX12_nextOther_11 : decode yX12_nextOther.2.1 11 = .ok (.getfield 82, 3) := by decide +kernel
theorem dX12_nextOther_14 : decode yX12_nextOther.2.1 14 = .ok (.iload_n 3, 1) := by decide +kernel
theorem dX12_nextOther_15 : decode yX12_nextOther.2.1 15 = .ok (.iaload, 1) := by decide +kernel
theorem dX12_nextOther_16 : decode yX12_nextOther.2.1 16 = .ok (.iload_n 2, 1) := by decide +kernel
theorem dX12_nextOther_17 : decode yX12_nextOther.2.1 17 = .ok (.if_icmp .ne 5, 3) := by decide +kernel
theorem dX12_nextOther_20 : decode yX12_nextOther.2.1 20 = .ok (.iload_n 3, 1) := by decide +kernel
theorem dX12_nextOther_21 : decode yX12_nextOther.2.1 21 = .ok (.ireturn, 1) := by decide +kernel
theorem dX12_nextOther_22 : decode yX12_nextOther.2.1 22 = .ok (.iinc 3 1, 3) := by decide +kernel
theorem dX12_nextOther_25 : decode yX12_nextOther.2.1 25 = .ok (.goto (-23), 3) := by decide +kernel
theorem dX12_nextOther_28 : decode yX12_nextOther.2.1 28 = .ok (.bipush (-9), 2) := by decide +kernel
theorem dX12_nextOther_30 : decode yX12_nextOther.2.1 30 = .ok (.ireturn, 1) := by decide +kernel
theorem dX12_layOther_0 : decode yX12_layOther.2.1 0 = .ok (.aload_n 0, 1) := by decide +kernel
theorem dX12_layOther_1 : decode yX12_layOther.2.1 1 = .ok (.aload_n 0, 1) := by decide +kernel
theorem dX12_layOther_2 : decode yX12_layOther.2.1 2 = .ok (.getfield 29, 3) := by decide +kernel
theorem dX12_layOther_5 : decode yX12_layOther.2.1 5 = .ok (.iload_n 1, 1) := by decide +kernel
theorem dX12_layOther_6 : decode yX12_layOther.2.1 6 = .ok (.iaload, 1) := by decide +kernel
theorem dX12_layOther_7 : decode yX12_layOther.2.1 7 = .ok (.putfield 246, 3) := by decide +kernel
theorem dX12_layOther_10 : decode yX12_layOther.2.1 10 = .ok (.iconst 0, 1) := by decide +kernel
theorem dX12_layOther_11 : decode yX12_layOther.2.1 11 = .ok (.istore_n 2, 1) := by decide +kernel
theorem dX12_layOther_12 : decode yX12_layOther.2.1 12 = .ok (.iload_n 2, 1) := by decide +kernel
theorem dX12_layOther_13 : decode yX12_layOther.2.1 13 = .ok (.aload_n 0, 1) := by decide +kernel
theorem dX12_layOther_14 : decode yX12_layOther.2.1 14 = .ok (.getfield 246, 3) := by decide +kernel
theorem dX12_layOther_17 : decode yX12_layOther.2.1 17 = .ok (.if_icmp .ge 21, 3) := by decide +kernel
theorem dX12_layOther_20 : decode yX12_layOther.2.1 20 = .ok (.aload_n 0, 1) := by decide +kernel
theorem dX12_layOther_21 : decode yX12_layOther.2.1 21 = .ok (.getfield 82, 3) := by decide +kernel
theorem dX12_layOther_24 : decode yX12_layOther.2.1 24 = .ok (.iload_n 2, 1) := by decide +kernel
theorem dX12_layOther_25 : decode yX12_layOther.2.1 25 = .ok (.aload_n 0, 1) := by decide +kernel
theorem dX12_layOther_26 : decode yX12_layOther.2.1 26 = .ok (.iload_n 1, 1) := by decide +kernel
theorem dX12_layOther_27 : decode yX12_layOther.2.1 27 = .ok (.iload_n 2, 1) := by decide +kernel
theorem dX12_layOther_28 : decode yX12_layOther.2.1 28 = .ok (.invokevirtual 148, 3) := by decide +kernel
theorem dX12_layOther_31 : decode yX12_layOther.2.1 31 = .ok (.iastore, 1) := by decide +kernel
theorem dX12_layOther_32 : decode yX12_layOther.2.1 32 = .ok (.iinc 2 1, 3) := by decide +kernel
theorem dX12_layOther_35 : decode yX12_layOther.2.1 35 = .ok (.goto (-23), 3) := by decide +kernel
theorem dX12_layOther_38 : decode yX12_layOther.2.1 38 = .ok (.return_, 1) := by decide +kernel
theorem dX12_partsFrom_0 : decode yX12_partsFrom.2.1 0 = .ok (.iconst 0, 1) := by decide +kernel
theorem dX12_partsFrom_1 : decode yX12_partsFrom.2.1 1 = .ok (.istore_n 2, 1) := by decide +kernel
theorem dX12_partsFrom_2 : decode yX12_partsFrom.2.1 2 = .ok (.iload_n 2, 1) := by decide +kernel
theorem dX12_partsFrom_3 : decode yX12_partsFrom.2.1 3 = .ok (.sipush 1700, 3) := by decide +kernel
theorem dX12_partsFrom_6 : decode yX12_partsFrom.2.1 6 = .ok (.if_icmp .ge 16, 3) := by decide +kernel
theorem dX12_partsFrom_9 : decode yX12_partsFrom.2.1 9 = .ok (.aload_n 0, 1) := by decide +kernel
theorem dX12_partsFrom_10 : decode yX12_partsFrom.2.1 10 = .ok (.getfield 78, 3) := by decide +kernel
theorem dX12_partsFrom_13 : decode yX12_partsFrom.2.1 13 = .ok (.iload_n 2, 1) := by decide +kernel
theorem dX12_partsFrom_14 : decode yX12_partsFrom.2.1 14 = .ok (.iconst 0, 1) := by decide +kernel
theorem dX12_partsFrom_15 : decode yX12_partsFrom.2.1 15 = .ok (.bastore, 1) := by decide +kernel
theorem dX12_partsFrom_16 : decode yX12_partsFrom.2.1 16 = .ok (.iinc 2 1, 3) := by decide +kernel
theorem dX12_partsFrom_19 : decode yX12_partsFrom.2.1 19 = .ok (.goto (-17), 3) := by decide +kernel
theorem dX12_partsFrom_22 : decode yX12_partsFrom.2.1 22 = .ok (.iconst 1, 1) := by decide +kernel
theorem dX12_partsFrom_23 : decode yX12_partsFrom.2.1 23 = .ok (.istore_n 2, 1) := by decide +kernel
theorem dX12_partsFrom_24 : decode yX12_partsFrom.2.1 24 = .ok (.aload_n 0, 1) := by decide +kernel
theorem dX12_partsFrom_25 : decode yX12_partsFrom.2.1 25 = .ok (.getfield 69, 3) := by decide +kernel
theorem dX12_partsFrom_28 : decode yX12_partsFrom.2.1 28 = .ok (.iconst 0, 1) := by decide +kernel
theorem dX12_partsFrom_29 : decode yX12_partsFrom.2.1 29 = .ok (.iconst 0, 1) := by decide +kernel
theorem dX12_partsFrom_30 : decode yX12_partsFrom.2.1 30 = .ok (.iastore, 1) := by decide +kernel
theorem dX12_partsFrom_31 : decode yX12_partsFrom.2.1 31 = .ok (.aload_n 0, 1) := by decide +kernel
theorem dX12_partsFrom_32 : decode yX12_partsFrom.2.1 32 = .ok (.getfield 72, 3) := by decide +kernel
theorem dX12_partsFrom_35 : decode yX12_partsFrom.2.1 35 = .ok (.iconst 0, 1) := by decide +kernel
theorem dX12_partsFrom_36 : decode yX12_partsFrom.2.1 36 = .ok (.bipush (-9), 2) := by decide +kernel
theorem dX12_partsFrom_38 : decode yX12_partsFrom.2.1 38 = .ok (.iastore, 1) := by decide +kernel
theorem dX12_partsFrom_39 : decode yX12_partsFrom.2.1 39 = .ok (.aload_n 0, 1) := by decide +kernel
theorem dX12_partsFrom_40 : decode yX12_partsFrom.2.1 40 = .ok (.getfield 78, 3) := by decide +kernel
theorem dX12_partsFrom_43 : decode yX12_partsFrom.2.1 43 = .ok (.iconst 0, 1) := by decide +kernel
theorem dX12_partsFrom_44 : decode yX12_partsFrom.2.1 44 = .ok (.iconst 1, 1) := by decide +kernel
theorem dX12_partsFrom_45 : decode yX12_partsFrom.2.1 45 = .ok (.bastore, 1) := by decide +kernel
theorem dX12_partsFrom_46 : decode yX12_partsFrom.2.1 46 = .ok (.iconst 0, 1) := by decide +kernel
theorem dX12_partsFrom_47 : decode yX12_partsFrom.2.1 47 = .ok (.istore_n 3, 1) := by decide +kernel
theorem dX12_partsFrom_48 : decode yX12_partsFrom.2.1 48 = .ok (.iload_n 3, 1) := by decide +kernel
theorem dX12_partsFrom_49 : decode yX12_partsFrom.2.1 49 = .ok (.iload_n 2, 1) := by decide +kernel
theorem dX12_partsFrom_50 : decode yX12_partsFrom.2.1 50 = .ok (.if_icmp .ge 181, 3) := by decide +kernel
theorem dX12_partsFrom_53 : decode yX12_partsFrom.2.1 53 = .ok (.aload_n 0, 1) := by decide +kernel
theorem dX12_partsFrom_54 : decode yX12_partsFrom.2.1 54 = .ok (.getfield 69, 3) := by decide +kernel
theorem dX12_partsFrom_57 : decode yX12_partsFrom.2.1 57 = .ok (.iload_n 3, 1) := by decide +kernel
theorem dX12_partsFrom_58 : decode yX12_partsFrom.2.1 58 = .ok (.iaload, 1) := by decide +kernel
theorem dX12_partsFrom_59 : decode yX12_partsFrom.2.1 59 = .ok (.bipush 41, 2) := by decide +kernel
theorem dX12_partsFrom_61 : decode yX12_partsFrom.2.1 61 = .ok (.idiv, 1) := by decide +kernel
theorem dX12_partsFrom_62 : decode yX12_partsFrom.2.1 62 = .ok (.istore 4, 2) := by decide +kernel
theorem dX12_partsFrom_64 : decode yX12_partsFrom.2.1 64 = .ok (.aload_n 0, 1) := by decide +kernel
theorem dX12_partsFrom_65 : decode yX12_partsFrom.2.1 65 = .ok (.getfield 69, 3) := by decide +kernel
theorem dX12_partsFrom_68 : decode yX12_partsFrom.2.1 68 = .ok (.iload_n 3, 1) := by decide +kernel
theorem dX12_partsFrom_69 : decode yX12_partsFrom.2.1 69 = .ok (.iaload, 1) := by decide +kernel
theorem dX12_partsFrom_70 : decode yX12_partsFrom.2.1 70 = .ok (.bipush 41, 2) := by decide +kernel
theorem dX12_partsFrom_72 : decode yX12_partsFrom.2.1 72 = .ok (.irem, 1) := by decide +kernel
theorem dX12_partsFrom_73 : decode yX12_partsFrom.2.1 73 = .ok (.istore 5, 2) := by decide +kernel
theorem dX12_partsFrom_75 : decode yX12_partsFrom.2.1 75 = .ok (.iconst 0, 1) := by decide +kernel
theorem dX12_partsFrom_76 : decode yX12_partsFrom.2.1 76 = .ok (.istore 6, 2) := by decide +kernel
theorem dX12_partsFrom_78 : decode yX12_partsFrom.2.1 78 = .ok (.iload 6, 2) := by decide +kernel
theorem dX12_partsFrom_80 : decode yX12_partsFrom.2.1 80 = .ok (.aload_n 0, 1) := by decide +kernel
theorem dX12_partsFrom_81 : decode yX12_partsFrom.2.1 81 = .ok (.getfield 110, 3) := by decide +kernel
theorem dX12_partsFrom_84 : decode yX12_partsFrom.2.1 84 = .ok (.if_icmp .ge 141, 3) := by decide +kernel
theorem dX12_partsFrom_87 : decode yX12_partsFrom.2.1 87 = .ok (.aload_n 0, 1) := by decide +kernel
theorem dX12_partsFrom_88 : decode yX12_partsFrom.2.1 88 = .ok (.iload_n 1, 1) := by decide +kernel
theorem dX12_partsFrom_89 : decode yX12_partsFrom.2.1 89 = .ok (.iload 4, 2) := by decide +kernel
theorem dX12_partsFrom_91 : decode yX12_partsFrom.2.1 91 = .ok (.iload 6, 2) := by decide +kernel
theorem dX12_partsFrom_93 : decode yX12_partsFrom.2.1 93 = .ok (.invokevirtual 206, 3) := by decide +kernel
theorem dX12_partsFrom_96 : decode yX12_partsFrom.2.1 96 = .ok (.istore 7, 2) := by decide +kernel
theorem dX12_partsFrom_98 : decode yX12_partsFrom.2.1 98 = .ok (.aload_n 0, 1) := by decide +kernel
theorem dX12_partsFrom_99 : decode yX12_partsFrom.2.1 99 = .ok (.iload 5, 2) := by decide +kernel
theorem dX12_partsFrom_101 : decode yX12_partsFrom.2.1 101 = .ok (.iload 6, 2) := by decide +kernel
theorem dX12_partsFrom_103 : decode yX12_partsFrom.2.1 103 = .ok (.invokevirtual 249, 3) := by decide +kernel
theorem dX12_partsFrom_106 : decode yX12_partsFrom.2.1 106 = .ok (.istore 8, 2) := by decide +kernel
theorem dX12_partsFrom_108 : decode yX12_partsFrom.2.1 108 = .ok (.iload 7, 2) := by decide +kernel
theorem dX12_partsFrom_110 : decode yX12_partsFrom.2.1 110 = .ok (.bipush (-9), 2) := by decide +kernel
theorem dX12_partsFrom_112 : decode yX12_partsFrom.2.1 112 = .ok (.if_icmp .ne 7, 3) := by decide +kernel
theorem dX12_partsFrom_115 : decode yX12_partsFrom.2.1 115 = .ok (.iconst 1, 1) := by decide +kernel
theorem dX12_partsFrom_116 : decode yX12_partsFrom.2.1 116 = .ok (.goto 4, 3) := by decide +kernel
theorem dX12_partsFrom_119 : decode yX12_partsFrom.2.1 119 = .ok (.iconst 0, 1) := by decide +kernel
theorem dX12_partsFrom_120 : decode yX12_partsFrom.2.1 120 = .ok (.iload 8, 2) := by decide +kernel
theorem dX12_partsFrom_122 : decode yX12_partsFrom.2.1 122 = .ok (.bipush (-9), 2) := by decide +kernel
theorem dX12_partsFrom_124 : decode yX12_partsFrom.2.1 124 = .ok (.if_icmp .ne 7, 3) := by decide +kernel
theorem dX12_partsFrom_127 : decode yX12_partsFrom.2.1 127 = .ok (.iconst 1, 1) := by decide +kernel
theorem dX12_partsFrom_128 : decode yX12_partsFrom.2.1 128 = .ok (.goto 4, 3) := by decide +kernel
theorem dX12_partsFrom_131 : decode yX12_partsFrom.2.1 131 = .ok (.iconst 0, 1) := by decide +kernel
theorem dX12_partsFrom_132 : decode yX12_partsFrom.2.1 132 = .ok (.if_icmp .eq 11, 3) := by decide +kernel
theorem dX12_partsFrom_135 : decode yX12_partsFrom.2.1 135 = .ok (.aload_n 0, 1) := by decide +kernel
theorem dX12_partsFrom_136 : decode yX12_partsFrom.2.1 136 = .ok (.iload_n 3, 1) := by decide +kernel
theorem dX12_partsFrom_137 : decode yX12_partsFrom.2.1 137 = .ok (.iload 6, 2) := by decide +kernel
theorem dX12_partsFrom_139 : decode yX12_partsFrom.2.1 139 = .ok (.invokevirtual 252, 3) := by decide +kernel
theorem dX12_partsFrom_142 : decode yX12_partsFrom.2.1 142 = .ok (.ireturn, 1) := by decide +kernel
theorem dX12_partsFrom_143 : decode yX12_partsFrom.2.1 143 = .ok (.iload 7, 2) := by decide +kernel
theorem dX12_partsFrom_145 : decode yX12_partsFrom.2.1 145 = .ok (.bipush (-9), 2) := by decide +kernel
theorem dX12_partsFrom_147 : decode yX12_partsFrom.2.1 147 = .ok (.if_icmp .ne 7, 3) := by decide +kernel
theorem dX12_partsFrom_150 : decode yX12_partsFrom.2.1 150 = .ok (.iconst 0, 1) := by decide +kernel
theorem dX12_partsFrom_151 : decode yX12_partsFrom.2.1 151 = .ok (.goto 15, 3) := by decide +kernel
theorem dX12_partsFrom_154 : decode yX12_partsFrom.2.1 154 = .ok (.bipush 41, 2) := by decide +kernel
theorem dX12_partsFrom_156 : decode yX12_partsFrom.2.1 156 = .ok (.iload 7, 2) := by decide +kernel
theorem dX12_partsFrom_158 : decode yX12_partsFrom.2.1 158 = .ok (.iconst 1, 1) := by decide +kernel
theorem dX12_partsFrom_159 : decode yX12_partsFrom.2.1 159 = .ok (.iadd, 1) := by decide +kernel
theorem dX12_partsFrom_160 : decode yX12_partsFrom.2.1 160 = .ok (.imul, 1) := by decide +kernel
theorem dX12_partsFrom_161 : decode yX12_partsFrom.2.1 161 = .ok (.iload 8, 2) := by decide +kernel
theorem dX12_partsFrom_163 : decode yX12_partsFrom.2.1 163 = .ok (.iadd, 1) := by decide +kernel
theorem dX12_partsFrom_164 : decode yX12_partsFrom.2.1 164 = .ok (.iconst 1, 1) := by decide +kernel
theorem dX12_partsFrom_165 : decode yX12_partsFrom.2.1 165 = .ok (.iadd, 1) := by decide +kernel
theorem dX12_partsFrom_166 : decode yX12_partsFrom.2.1 166 = .ok (.istore 9, 2) := by decide +kernel
theorem dX12_partsFrom_168 : decode yX12_partsFrom.2.1 168 = .ok (.iload 7, 2) := by decide +kernel
theorem dX12_partsFrom_170 : decode yX12_partsFrom.2.1 170 = .ok (.bipush (-9), 2) := by decide +kernel
theorem dX12_partsFrom_172 : decode yX12_partsFrom.2.1 172 = .ok (.if_icmp .eq 47, 3) := by decide +kernel
theorem dX12_partsFrom_175 : decode yX12_partsFrom.2.1 175 = .ok (.aload_n 0, 1) := by decide +kernel
theorem dX12_partsFrom_176 : decode yX12_partsFrom.2.1 176 = .ok (.getfield 78, 3) := by decide +kernel
theorem dX12_partsFrom_179 : decode yX12_partsFrom.2.1 179 = .ok (.iload 9, 2) := by decide +kernel
theorem dX12_partsFrom_181 : decode yX12_partsFrom.2.1 181 = .ok (.baload, 1) := by decide +kernel
theorem dX12_partsFrom_182 : decode yX12_partsFrom.2.1 182 = .ok (.ifCond .ne 37, 3) := by decide +kernel
theorem dX12_partsFrom_185 : decode yX12_partsFrom.2.1 185 = .ok (.aload_n 0, 1) := by decide +kernel
theorem dX12_partsFrom_186 : decode yX12_partsFrom.2.1 186 = .ok (.getfield 78, 3) := by decide +kernel
theorem dX12_partsFrom_189 : decode yX12_partsFrom.2.1 189 = .ok (.iload 9, 2) := by decide +kernel
theorem dX12_partsFrom_191 : decode yX12_partsFrom.2.1 191 = .ok (.iconst 1, 1) := by decide +kernel
theorem dX12_partsFrom_192 : decode yX12_partsFrom.2.1 192 = .ok (.bastore, 1) := by decide +kernel
theorem dX12_partsFrom_193 : decode yX12_partsFrom.2.1 193 = .ok (.aload_n 0, 1) := by decide +kernel
theorem dX12_partsFrom_194 : decode yX12_partsFrom.2.1 194 = .ok (.getfield 69, 3) := by decide +kernel
theorem dX12_partsFrom_197 : decode yX12_partsFrom.2.1 197 = .ok (.iload_n 2, 1) := by decide +kernel
theorem dX12_partsFrom_198 : decode yX12_partsFrom.2.1 198 = .ok (.iload 9, 2) := by decide +kernel
theorem dX12_partsFrom_200 : decode yX12_partsFrom.2.1 200 = .ok (.iastore, 1) := by decide +kernel
theorem dX12_partsFrom_201 : decode yX12_partsFrom.2.1 201 = .ok (.aload_n 0, 1) := by decide +kernel
theorem dX12_partsFrom_202 : decode yX12_partsFrom.2.1 202 = .ok (.getfield 72, 3) := by decide +kernel
theorem dX12_partsFrom_205 : decode yX12_partsFrom.2.1 205 = .ok (.iload_n 2, 1) := by decide +kernel
theorem dX12_partsFrom_206 : decode yX12_partsFrom.2.1 206 = .ok (.iload_n 3, 1) := by decide +kernel
theorem dX12_partsFrom_207 : decode yX12_partsFrom.2.1 207 = .ok (.iastore, 1) := by decide +kernel
theorem dX12_partsFrom_208 : decode yX12_partsFrom.2.1 208 = .ok (.aload_n 0, 1) := by decide +kernel
theorem dX12_partsFrom_209 : decode yX12_partsFrom.2.1 209 = .ok (.getfield 75, 3) := by decide +kernel
theorem dX12_partsFrom_212 : decode yX12_partsFrom.2.1 212 = .ok (.iload_n 2, 1) := by decide +kernel
theorem dX12_partsFrom_213 : decode yX12_partsFrom.2.1 213 = .ok (.iload 6, 2) := by decide +kernel
theorem dX12_partsFrom_215 : decode yX12_partsFrom.2.1 215 = .ok (.iastore, 1) := by decide +kernel
theorem dX12_partsFrom_216 : decode yX12_partsFrom.2.1 216 = .ok (.iinc 2 1, 3) := by decide +kernel
theorem dX12_partsFrom_219 : decode yX12_partsFrom.2.1 219 = .ok (.iinc 6 1, 3) := by decide +kernel
theorem dX12_partsFrom_222 : decode yX12_partsFrom.2.1 222 = .ok (.goto (-144), 3) := by decide +kernel
theorem dX12_partsFrom_225 : decode yX12_partsFrom.2.1 225 = .ok (.iinc 3 1, 3) := by decide +kernel
theorem dX12_partsFrom_228 : decode yX12_partsFrom.2.1 228 = .ok (.goto (-180), 3) := by decide +kernel
theorem dX12_partsFrom_231 : decode yX12_partsFrom.2.1 231 = .ok (.bipush (-9), 2) := by decide +kernel
theorem dX12_partsFrom_233 : decode yX12_partsFrom.2.1 233 = .ok (.ireturn, 1) := by decide +kernel
theorem dX12_layPart_0 : decode yX12_layPart.2.1 0 = .ok (.iconst 1, 1) := by decide +kernel
theorem dX12_layPart_1 : decode yX12_layPart.2.1 1 = .ok (.istore_n 3, 1) := by decide +kernel
theorem dX12_layPart_2 : decode yX12_layPart.2.1 2 = .ok (.iload_n 1, 1) := by decide +kernel
theorem dX12_layPart_3 : decode yX12_layPart.2.1 3 = .ok (.istore 4, 2) := by decide +kernel
theorem dX12_layPart_5 : decode yX12_layPart.2.1 5 = .ok (.aload_n 0, 1) := by decide +kernel
theorem dX12_layPart_6 : decode yX12_layPart.2.1 6 = .ok (.getfield 72, 3) := by decide +kernel
theorem dX12_layPart_9 : decode yX12_layPart.2.1 9 = .ok (.iload 4, 2) := by decide +kernel
theorem dX12_layPart_11 : decode yX12_layPart.2.1 11 = .ok (.iaload, 1) := by decide +kernel
theorem dX12_layPart_12 : decode yX12_layPart.2.1 12 = .ok (.bipush (-9), 2) := by decide +kernel
theorem dX12_layPart_14 : decode yX12_layPart.2.1 14 = .ok (.if_icmp .eq 18, 3) := by decide +kernel
theorem dX12_layPart_17 : decode yX12_layPart.2.1 17 = .ok (.iinc 3 1, 3) := by decide +kernel
theorem dX12_layPart_20 : decode yX12_layPart.2.1 20 = .ok (.aload_n 0, 1) := by decide +kernel
theorem dX12_layPart_21 : decode yX12_layPart.2.1 21 = .ok (.getfield 72, 3) := by decide +kernel
theorem dX12_layPart_24 : decode yX12_layPart.2.1 24 = .ok (.iload 4, 2) := by decide +kernel
theorem dX12_layPart_26 : decode yX12_layPart.2.1 26 = .ok (.iaload, 1) := by decide +kernel
theorem dX12_layPart_27 : decode yX12_layPart.2.1 27 = .ok (.istore 4, 2) := by decide +kernel
theorem dX12_layPart_29 : decode yX12_layPart.2.1 29 = .ok (.goto (-24), 3) := by decide +kernel
theorem dX12_layPart_32 : decode yX12_layPart.2.1 32 = .ok (.aload_n 0, 1) := by decide +kernel
theorem dX12_layPart_33 : decode yX12_layPart.2.1 33 = .ok (.iload_n 3, 1) := by decide +kernel
theorem dX12_layPart_34 : decode yX12_layPart.2.1 34 = .ok (.putfield 151, 3) := by decide +kernel
theorem dX12_layPart_37 : decode yX12_layPart.2.1 37 = .ok (.iload_n 3, 1) := by decide +kernel
theorem dX12_layPart_38 : decode yX12_layPart.2.1 38 = .ok (.iconst 1, 1) := by decide +kernel
theorem dX12_layPart_39 : decode yX12_layPart.2.1 39 = .ok (.isub, 1) := by decide +kernel
theorem dX12_layPart_40 : decode yX12_layPart.2.1 40 = .ok (.istore 4, 2) := by decide +kernel
theorem dX12_layPart_42 : decode yX12_layPart.2.1 42 = .ok (.iload 4, 2) := by decide +kernel
theorem dX12_layPart_44 : decode yX12_layPart.2.1 44 = .ok (.bipush 40, 2) := by decide +kernel
theorem dX12_layPart_46 : decode yX12_layPart.2.1 46 = .ok (.if_icmp .ge 11, 3) := by decide +kernel
theorem dX12_layPart_49 : decode yX12_layPart.2.1 49 = .ok (.aload_n 0, 1) := by decide +kernel
theorem dX12_layPart_50 : decode yX12_layPart.2.1 50 = .ok (.getfield 44, 3) := by decide +kernel
theorem dX12_layPart_53 : decode yX12_layPart.2.1 53 = .ok (.iload 4, 2) := by decide +kernel
theorem dX12_layPart_55 : decode yX12_layPart.2.1 55 = .ok (.iload_n 2, 1) := by decide +kernel
theorem dX12_layPart_56 : decode yX12_layPart.2.1 56 = .ok (.iastore, 1) := by decide +kernel
theorem dX12_layPart_57 : decode yX12_layPart.2.1 57 = .ok (.iload_n 1, 1) := by decide +kernel
theorem dX12_layPart_58 : decode yX12_layPart.2.1 58 = .ok (.istore 5, 2) := by decide +kernel
theorem dX12_layPart_60 : decode yX12_layPart.2.1 60 = .ok (.aload_n 0, 1) := by decide +kernel
theorem dX12_layPart_61 : decode yX12_layPart.2.1 61 = .ok (.getfield 72, 3) := by decide +kernel
theorem dX12_layPart_64 : decode yX12_layPart.2.1 64 = .ok (.iload 5, 2) := by decide +kernel
theorem dX12_layPart_66 : decode yX12_layPart.2.1 66 = .ok (.iaload, 1) := by decide +kernel
theorem dX12_layPart_67 : decode yX12_layPart.2.1 67 = .ok (.bipush (-9), 2) := by decide +kernel
theorem dX12_layPart_69 : decode yX12_layPart.2.1 69 = .ok (.if_icmp .eq 32, 3) := by decide +kernel
theorem dX12_layPart_72 : decode yX12_layPart.2.1 72 = .ok (.iinc 4 (-1), 3) := by decide +kernel
theorem dX12_layPart_75 : decode yX12_layPart.2.1 75 = .ok (.aload_n 0, 1) := by decide +kernel
theorem dX12_layPart_76 : decode yX12_layPart.2.1 76 = .ok (.getfield 44, 3) := by decide +kernel
theorem dX12_layPart_79 : decode yX12_layPart.2.1 79 = .ok (.iload 4, 2) := by decide +kernel
theorem dX12_layPart_81 : decode yX12_layPart.2.1 81 = .ok (.aload_n 0, 1) := by decide +kernel
theorem dX12_layPart_82 : decode yX12_layPart.2.1 82 = .ok (.getfield 75, 3) := by decide +kernel
theorem dX12_layPart_85 : decode yX12_layPart.2.1 85 = .ok (.iload 5, 2) := by decide +kernel
theorem dX12_layPart_87 : decode yX12_layPart.2.1 87 = .ok (.iaload, 1) := by decide +kernel
theorem dX12_layPart_88 : decode yX12_layPart.2.1 88 = .ok (.iastore, 1) := by decide +kernel
theorem dX12_layPart_89 : decode yX12_layPart.2.1 89 = .ok (.aload_n 0, 1) := by decide +kernel
theorem dX12_layPart_90 : decode yX12_layPart.2.1 90 = .ok (.getfield 72, 3) := by decide +kernel
theorem dX12_layPart_93 : decode yX12_layPart.2.1 93 = .ok (.iload 5, 2) := by decide +kernel
theorem dX12_layPart_95 : decode yX12_layPart.2.1 95 = .ok (.iaload, 1) := by decide +kernel
theorem dX12_layPart_96 : decode yX12_layPart.2.1 96 = .ok (.istore 5, 2) := by decide +kernel
theorem dX12_layPart_98 : decode yX12_layPart.2.1 98 = .ok (.goto (-38), 3) := by decide +kernel
theorem dX12_layPart_101 : decode yX12_layPart.2.1 101 = .ok (.iload_n 3, 1) := by decide +kernel
theorem dX12_layPart_102 : decode yX12_layPart.2.1 102 = .ok (.ireturn, 1) := by decide +kernel
theorem dX12_alike_0 : decode yX12_alike.2.1 0 = .ok (.aload_n 0, 1) := by decide +kernel
theorem dX12_alike_1 : decode yX12_alike.2.1 1 = .ok (.iload_n 3, 1) := by decide +kernel
theorem dX12_alike_2 : decode yX12_alike.2.1 2 = .ok (.iconst 0, 1) := by decide +kernel
theorem dX12_alike_3 : decode yX12_alike.2.1 3 = .ok (.bipush 40, 2) := by decide +kernel
theorem dX12_alike_5 : decode yX12_alike.2.1 5 = .ok (.invokestatic 117, 3) := by decide +kernel
theorem dX12_alike_8 : decode yX12_alike.2.1 8 = .ok (.iload_n 1, 1) := by decide +kernel
theorem dX12_alike_9 : decode yX12_alike.2.1 9 = .ok (.iload_n 2, 1) := by decide +kernel
theorem dX12_alike_10 : decode yX12_alike.2.1 10 = .ok (.invokevirtual 188, 3) := by decide +kernel
theorem dX12_alike_13 : decode yX12_alike.2.1 13 = .ok (.istore 4, 2) := by decide +kernel
theorem dX12_alike_15 : decode yX12_alike.2.1 15 = .ok (.iload 4, 2) := by decide +kernel
theorem dX12_alike_17 : decode yX12_alike.2.1 17 = .ok (.ifCond .ge 6, 3) := by decide +kernel
theorem dX12_alike_20 : decode yX12_alike.2.1 20 = .ok (.iload 4, 2) := by decide +kernel
theorem dX12_alike_22 : decode yX12_alike.2.1 22 = .ok (.ireturn, 1) := by decide +kernel
theorem dX12_alike_23 : decode yX12_alike.2.1 23 = .ok (.aload_n 0, 1) := by decide +kernel
theorem dX12_alike_24 : decode yX12_alike.2.1 24 = .ok (.iload_n 2, 1) := by decide +kernel
theorem dX12_alike_25 : decode yX12_alike.2.1 25 = .ok (.invokevirtual 255, 3) := by decide +kernel
theorem dX12_alike_28 : decode yX12_alike.2.1 28 = .ok (.aload_n 0, 1) := by decide +kernel
theorem dX12_alike_29 : decode yX12_alike.2.1 29 = .ok (.iload_n 1, 1) := by decide +kernel
theorem dX12_alike_30 : decode yX12_alike.2.1 30 = .ok (.invokevirtual 258, 3) := by decide +kernel
theorem dX12_alike_33 : decode yX12_alike.2.1 33 = .ok (.istore 5, 2) := by decide +kernel
theorem dX12_alike_35 : decode yX12_alike.2.1 35 = .ok (.iload 5, 2) := by decide +kernel
theorem dX12_alike_37 : decode yX12_alike.2.1 37 = .ok (.bipush (-9), 2) := by decide +kernel
theorem dX12_alike_39 : decode yX12_alike.2.1 39 = .ok (.if_icmp .eq 9, 3) := by decide +kernel
theorem dX12_alike_42 : decode yX12_alike.2.1 42 = .ok (.iload 5, 2) := by decide +kernel
theorem dX12_alike_44 : decode yX12_alike.2.1 44 = .ok (.iload_n 3, 1) := by decide +kernel
theorem dX12_alike_45 : decode yX12_alike.2.1 45 = .ok (.if_icmp .le 7, 3) := by decide +kernel
theorem dX12_alike_48 : decode yX12_alike.2.1 48 = .ok (.iconst 1, 1) := by decide +kernel
theorem dX12_alike_49 : decode yX12_alike.2.1 49 = .ok (.goto 4, 3) := by decide +kernel
theorem dX12_alike_52 : decode yX12_alike.2.1 52 = .ok (.iconst 0, 1) := by decide +kernel
theorem dX12_alike_53 : decode yX12_alike.2.1 53 = .ok (.ireturn, 1) := by decide +kernel
theorem dX12_parting_0 : decode yX12_parting.2.1 0 = .ok (.aload_n 0, 1) := by decide +kernel
theorem dX12_parting_1 : decode yX12_parting.2.1 1 = .ok (.iload_n 3, 1) := by decide +kernel
theorem dX12_parting_2 : decode yX12_parting.2.1 2 = .ok (.invokestatic 130, 3) := by decide +kernel
theorem dX12_parting_5 : decode yX12_parting.2.1 5 = .ok (.iload_n 1, 1) := by decide +kernel
theorem dX12_parting_6 : decode yX12_parting.2.1 6 = .ok (.iload_n 2, 1) := by decide +kernel
theorem dX12_parting_7 : decode yX12_parting.2.1 7 = .ok (.invokevirtual 188, 3) := by decide +kernel
theorem dX12_parting_10 : decode yX12_parting.2.1 10 = .ok (.istore 4, 2) := by decide +kernel
theorem dX12_parting_12 : decode yX12_parting.2.1 12 = .ok (.iload 4, 2) := by decide +kernel
theorem dX12_parting_14 : decode yX12_parting.2.1 14 = .ok (.ifCond .ge 6, 3) := by decide +kernel
theorem dX12_parting_17 : decode yX12_parting.2.1 17 = .ok (.iload 4, 2) := by decide +kernel
theorem dX12_parting_19 : decode yX12_parting.2.1 19 = .ok (.ireturn, 1) := by decide +kernel
theorem dX12_parting_20 : decode yX12_parting.2.1 20 = .ok (.aload_n 0, 1) := by decide +kernel
theorem dX12_parting_21 : decode yX12_parting.2.1 21 = .ok (.iload_n 2, 1) := by decide +kernel
theorem dX12_parting_22 : decode yX12_parting.2.1 22 = .ok (.invokevirtual 255, 3) := by decide +kernel
theorem dX12_parting_25 : decode yX12_parting.2.1 25 = .ok (.aload_n 0, 1) := by decide +kernel
theorem dX12_parting_26 : decode yX12_parting.2.1 26 = .ok (.iload_n 1, 1) := by decide +kernel
theorem dX12_parting_27 : decode yX12_parting.2.1 27 = .ok (.invokevirtual 258, 3) := by decide +kernel
theorem dX12_parting_30 : decode yX12_parting.2.1 30 = .ok (.istore 5, 2) := by decide +kernel
theorem dX12_parting_32 : decode yX12_parting.2.1 32 = .ok (.iload 5, 2) := by decide +kernel
theorem dX12_parting_34 : decode yX12_parting.2.1 34 = .ok (.bipush (-9), 2) := by decide +kernel
theorem dX12_parting_36 : decode yX12_parting.2.1 36 = .ok (.if_icmp .ne 6, 3) := by decide +kernel
theorem dX12_parting_39 : decode yX12_parting.2.1 39 = .ok (.bipush (-9), 2) := by decide +kernel
theorem dX12_parting_41 : decode yX12_parting.2.1 41 = .ok (.ireturn, 1) := by decide +kernel
theorem dX12_parting_42 : decode yX12_parting.2.1 42 = .ok (.aload_n 0, 1) := by decide +kernel
theorem dX12_parting_43 : decode yX12_parting.2.1 43 = .ok (.iload 5, 2) := by decide +kernel
theorem dX12_parting_45 : decode yX12_parting.2.1 45 = .ok (.bipush 40, 2) := by decide +kernel
theorem dX12_parting_47 : decode yX12_parting.2.1 47 = .ok (.if_icmp .le 8, 3) := by decide +kernel
theorem dX12_parting_50 : decode yX12_parting.2.1 50 = .ok (.bipush 40, 2) := by decide +kernel
theorem dX12_parting_52 : decode yX12_parting.2.1 52 = .ok (.goto 5, 3) := by decide +kernel
theorem dX12_parting_55 : decode yX12_parting.2.1 55 = .ok (.iload 5, 2) := by decide +kernel
theorem dX12_parting_57 : decode yX12_parting.2.1 57 = .ok (.putfield 151, 3) := by decide +kernel
theorem dX12_parting_60 : decode yX12_parting.2.1 60 = .ok (.aload_n 0, 1) := by decide +kernel
theorem dX12_parting_61 : decode yX12_parting.2.1 61 = .ok (.iload_n 3, 1) := by decide +kernel
theorem dX12_parting_62 : decode yX12_parting.2.1 62 = .ok (.invokevirtual 214, 3) := by decide +kernel
theorem dX12_parting_65 : decode yX12_parting.2.1 65 = .ok (.iload 5, 2) := by decide +kernel
theorem dX12_parting_67 : decode yX12_parting.2.1 67 = .ok (.ireturn, 1) := by decide +kernel
theorem dX12_drop_0 : decode yX12_drop.2.1 0 = .ok (.aload_n 0, 1) := by decide +kernel
theorem dX12_drop_1 : decode yX12_drop.2.1 1 = .ok (.iload_n 1, 1) := by decide +kernel
theorem dX12_drop_2 : decode yX12_drop.2.1 2 = .ok (.invokestatic 154, 3) := by decide +kernel
theorem dX12_drop_5 : decode yX12_drop.2.1 5 = .ok (.ifCond .eq 17, 3) := by decide +kernel
theorem dX12_drop_8 : decode yX12_drop.2.1 8 = .ok (.iload_n 3, 1) := by decide +kernel
theorem dX12_drop_9 : decode yX12_drop.2.1 9 = .ok (.iconst 0, 1) := by decide +kernel
theorem dX12_drop_10 : decode yX12_drop.2.1 10 = .ok (.bipush 40, 2) := by decide +kernel
theorem dX12_drop_12 : decode yX12_drop.2.1 12 = .ok (.invokestatic 117, 3) := by decide +kernel
theorem dX12_drop_15 : decode yX12_drop.2.1 15 = .ok (.ifCond .eq 7, 3) := by decide +kernel
theorem dX12_drop_18 : decode yX12_drop.2.1 18 = .ok (.iconst 1, 1) := by decide +kernel
theorem dX12_drop_19 : decode yX12_drop.2.1 19 = .ok (.goto 4, 3) := by decide +kernel
theorem dX12_drop_22 : decode yX12_drop.2.1 22 = .ok (.iconst 0, 1) := by decide +kernel
theorem dX12_drop_23 : decode yX12_drop.2.1 23 = .ok (.iload_n 2, 1) := by decide +kernel
theorem dX12_drop_24 : decode yX12_drop.2.1 24 = .ok (.invokevirtual 192, 3) := by decide +kernel
theorem dX12_drop_27 : decode yX12_drop.2.1 27 = .ok (.istore 4, 2) := by decide +kernel
theorem dX12_drop_29 : decode yX12_drop.2.1 29 = .ok (.iload 4, 2) := by decide +kernel
theorem dX12_drop_31 : decode yX12_drop.2.1 31 = .ok (.ifCond .ge 6, 3) := by decide +kernel
theorem dX12_drop_34 : decode yX12_drop.2.1 34 = .ok (.iload 4, 2) := by decide +kernel
theorem dX12_drop_36 : decode yX12_drop.2.1 36 = .ok (.ireturn, 1) := by decide +kernel
theorem dX12_drop_37 : decode yX12_drop.2.1 37 = .ok (.aload_n 0, 1) := by decide +kernel
theorem dX12_drop_38 : decode yX12_drop.2.1 38 = .ok (.iload_n 2, 1) := by decide +kernel
theorem dX12_drop_39 : decode yX12_drop.2.1 39 = .ok (.invokevirtual 255, 3) := by decide +kernel
theorem dX12_drop_42 : decode yX12_drop.2.1 42 = .ok (.iconst 0, 1) := by decide +kernel
theorem dX12_drop_43 : decode yX12_drop.2.1 43 = .ok (.istore 5, 2) := by decide +kernel
theorem dX12_drop_45 : decode yX12_drop.2.1 45 = .ok (.iload 5, 2) := by decide +kernel
theorem dX12_drop_47 : decode yX12_drop.2.1 47 = .ok (.aload_n 0, 1) := by decide +kernel
theorem dX12_drop_48 : decode yX12_drop.2.1 48 = .ok (.getfield 246, 3) := by decide +kernel
theorem dX12_drop_51 : decode yX12_drop.2.1 51 = .ok (.if_icmp .ge 52, 3) := by decide +kernel
theorem dX12_drop_54 : decode yX12_drop.2.1 54 = .ok (.aload_n 0, 1) := by decide +kernel
theorem dX12_drop_55 : decode yX12_drop.2.1 55 = .ok (.getfield 82, 3) := by decide +kernel
theorem dX12_drop_58 : decode yX12_drop.2.1 58 = .ok (.iload 5, 2) := by decide +kernel
theorem dX12_drop_60 : decode yX12_drop.2.1 60 = .ok (.iaload, 1) := by decide +kernel
theorem dX12_drop_61 : decode yX12_drop.2.1 61 = .ok (.istore 6, 2) := by decide +kernel
theorem dX12_drop_63 : decode yX12_drop.2.1 63 = .ok (.aload_n 0, 1) := by decide +kernel
theorem dX12_drop_64 : decode yX12_drop.2.1 64 = .ok (.iload 5, 2) := by decide +kernel
theorem dX12_drop_66 : decode yX12_drop.2.1 66 = .ok (.invokevirtual 261, 3) := by decide +kernel
theorem dX12_drop_69 : decode yX12_drop.2.1 69 = .ok (.aload_n 0, 1) := by decide +kernel
theorem dX12_drop_70 : decode yX12_drop.2.1 70 = .ok (.iload_n 2, 1) := by decide +kernel
theorem dX12_drop_71 : decode yX12_drop.2.1 71 = .ok (.invokevirtual 258, 3) := by decide +kernel
theorem dX12_drop_74 : decode yX12_drop.2.1 74 = .ok (.istore 7, 2) := by decide +kernel
theorem dX12_drop_76 : decode yX12_drop.2.1 76 = .ok (.iload 7, 2) := by decide +kernel
theorem dX12_drop_78 : decode yX12_drop.2.1 78 = .ok (.bipush (-9), 2) := by decide +kernel
theorem dX12_drop_80 : decode yX12_drop.2.1 80 = .ok (.if_icmp .eq 20, 3) := by decide +kernel
theorem dX12_drop_83 : decode yX12_drop.2.1 83 = .ok (.iload 7, 2) := by decide +kernel
theorem dX12_drop_85 : decode yX12_drop.2.1 85 = .ok (.iload_n 3, 1) := by decide +kernel
theorem dX12_drop_86 : decode yX12_drop.2.1 86 = .ok (.if_icmp .gt 14, 3) := by decide +kernel
theorem dX12_drop_89 : decode yX12_drop.2.1 89 = .ok (.aload_n 0, 1) := by decide +kernel
theorem dX12_drop_90 : decode yX12_drop.2.1 90 = .ok (.iload 5, 2) := by decide +kernel
theorem dX12_drop_92 : decode yX12_drop.2.1 92 = .ok (.iload 6, 2) := by decide +kernel
theorem dX12_drop_94 : decode yX12_drop.2.1 94 = .ok (.invokevirtual 264, 3) := by decide +kernel
theorem dX12_drop_97 : decode yX12_drop.2.1 97 = .ok (.iinc 5 1, 3) := by decide +kernel
theorem dX12_drop_100 : decode yX12_drop.2.1 100 = .ok (.goto (-55), 3) := by decide +kernel
theorem dX12_drop_103 : decode yX12_drop.2.1 103 = .ok (.aload_n 0, 1) := by decide +kernel
theorem dX12_drop_104 : decode yX12_drop.2.1 104 = .ok (.aload_n 0, 1) := by decide +kernel
theorem dX12_drop_105 : decode yX12_drop.2.1 105 = .ok (.getfield 246, 3) := by decide +kernel
theorem dX12_drop_108 : decode yX12_drop.2.1 108 = .ok (.putfield 151, 3) := by decide +kernel
theorem dX12_drop_111 : decode yX12_drop.2.1 111 = .ok (.iconst 0, 1) := by decide +kernel
theorem dX12_drop_112 : decode yX12_drop.2.1 112 = .ok (.istore 6, 2) := by decide +kernel
theorem dX12_drop_114 : decode yX12_drop.2.1 114 = .ok (.iload 6, 2) := by decide +kernel
theorem dX12_drop_116 : decode yX12_drop.2.1 116 = .ok (.aload_n 0, 1) := by decide +kernel
theorem dX12_drop_117 : decode yX12_drop.2.1 117 = .ok (.getfield 246, 3) := by decide +kernel
theorem dX12_drop_120 : decode yX12_drop.2.1 120 = .ok (.if_icmp .ge 23, 3) := by decide +kernel
theorem dX12_drop_123 : decode yX12_drop.2.1 123 = .ok (.aload_n 0, 1) := by decide +kernel
theorem dX12_drop_124 : decode yX12_drop.2.1 124 = .ok (.getfield 44, 3) := by decide +kernel
theorem dX12_drop_127 : decode yX12_drop.2.1 127 = .ok (.iload 6, 2) := by decide +kernel
theorem dX12_drop_129 : decode yX12_drop.2.1 129 = .ok (.aload_n 0, 1) := by decide +kernel
theorem dX12_drop_130 : decode yX12_drop.2.1 130 = .ok (.getfield 82, 3) := by decide +kernel
theorem dX12_drop_133 : decode yX12_drop.2.1 133 = .ok (.iload 6, 2) := by decide +kernel
theorem dX12_drop_135 : decode yX12_drop.2.1 135 = .ok (.iaload, 1) := by decide +kernel
theorem dX12_drop_136 : decode yX12_drop.2.1 136 = .ok (.iastore, 1) := by decide +kernel
theorem dX12_drop_137 : decode yX12_drop.2.1 137 = .ok (.iinc 6 1, 3) := by decide +kernel
theorem dX12_drop_140 : decode yX12_drop.2.1 140 = .ok (.goto (-26), 3) := by decide +kernel
theorem dX12_drop_143 : decode yX12_drop.2.1 143 = .ok (.aload_n 0, 1) := by decide +kernel
theorem dX12_drop_144 : decode yX12_drop.2.1 144 = .ok (.iload_n 1, 1) := by decide +kernel
theorem dX12_drop_145 : decode yX12_drop.2.1 145 = .ok (.iconst 4, 1) := by decide +kernel
theorem dX12_drop_146 : decode yX12_drop.2.1 146 = .ok (.iload_n 2, 1) := by decide +kernel
theorem dX12_drop_147 : decode yX12_drop.2.1 147 = .ok (.iload_n 3, 1) := by decide +kernel
theorem dX12_drop_148 : decode yX12_drop.2.1 148 = .ok (.invokevirtual 160, 3) := by decide +kernel
theorem dX12_drop_151 : decode yX12_drop.2.1 151 = .ok (.ireturn, 1) := by decide +kernel
theorem dX12_dropOther_0 : decode yX12_dropOther.2.1 0 = .ok (.aload_n 0, 1) := by decide +kernel
theorem dX12_dropOther_1 : decode yX12_dropOther.2.1 1 = .ok (.dup, 1) := by decide +kernel
theorem dX12_dropOther_2 : decode yX12_dropOther.2.1 2 = .ok (.getfield 246, 3) := by decide +kernel
theorem dX12_dropOther_5 : decode yX12_dropOther.2.1 5 = .ok (.iconst 1, 1) := by decide +kernel
theorem dX12_dropOther_6 : decode yX12_dropOther.2.1 6 = .ok (.isub, 1) := by decide +kernel
theorem dX12_dropOther_7 : decode yX12_dropOther.2.1 7 = .ok (.putfield 246, 3) := by decide +kernel
theorem dX12_dropOther_10 : decode yX12_dropOther.2.1 10 = .ok (.iload_n 1, 1) := by decide +kernel
theorem dX12_dropOther_11 : decode yX12_dropOther.2.1 11 = .ok (.istore_n 2, 1) := by decide +kernel
theorem dX12_dropOther_12 : decode yX12_dropOther.2.1 12 = .ok (.iload_n 2, 1) := by decide +kernel
theorem dX12_dropOther_13 : decode yX12_dropOther.2.1 13 = .ok (.aload_n 0, 1) := by decide +kernel
theorem dX12_dropOther_14 : decode yX12_dropOther.2.1 14 = .ok (.getfield 246, 3) := by decide +kernel
theorem dX12_dropOther_17 : decode yX12_dropOther.2.1 17 = .ok (.if_icmp .ge 23, 3) := by decide +kernel
theorem dX12_dropOther_20 : decode yX12_dropOther.2.1 20 = .ok (.aload_n 0, 1) := by decide +kernel
theorem dX12_dropOther_21 : decode yX12_dropOther.2.1 21 = .ok (.getfield 82, 3) := by decide +kernel
theorem dX12_dropOther_24 : decode yX12_dropOther.2.1 24 = .ok (.iload_n 2, 1) := by decide +kernel
theorem dX12_dropOther_25 : decode yX12_dropOther.2.1 25 = .ok (.aload_n 0, 1) := by decide +kernel
theorem dX12_dropOther_26 : decode yX12_dropOther.2.1 26 = .ok (.getfield 82, 3) := by decide +kernel
theorem dX12_dropOther_29 : decode yX12_dropOther.2.1 29 = .ok (.iload_n 2, 1) := by decide +kernel
theorem dX12_dropOther_30 : decode yX12_dropOther.2.1 30 = .ok (.iconst 1, 1) := by decide +kernel
theorem dX12_dropOther_31 : decode yX12_dropOther.2.1 31 = .ok (.iadd, 1) := by decide +kernel
theorem dX12_dropOther_32 : decode yX12_dropOther.2.1 32 = .ok (.iaload, 1) := by decide +kernel
theorem dX12_dropOther_33 : decode yX12_dropOther.2.1 33 = .ok (.iastore, 1) := by decide +kernel
theorem dX12_dropOther_34 : decode yX12_dropOther.2.1 34 = .ok (.iinc 2 1, 3) := by decide +kernel
theorem dX12_dropOther_37 : decode yX12_dropOther.2.1 37 = .ok (.goto (-25), 3) := by decide +kernel
theorem dX12_dropOther_40 : decode yX12_dropOther.2.1 40 = .ok (.return_, 1) := by decide +kernel
theorem dX12_backOther_0 : decode yX12_backOther.2.1 0 = .ok (.aload_n 0, 1) := by decide +kernel
theorem dX12_backOther_1 : decode yX12_backOther.2.1 1 = .ok (.getfield 246, 3) := by decide +kernel
theorem dX12_backOther_4 : decode yX12_backOther.2.1 4 = .ok (.istore_n 3, 1) := by decide +kernel
theorem dX12_backOther_5 : decode yX12_backOther.2.1 5 = .ok (.iload_n 3, 1) := by decide +kernel
theorem dX12_backOther_6 : decode yX12_backOther.2.1 6 = .ok (.iload_n 1, 1) := by decide +kernel
theorem dX12_backOther_7 : decode yX12_backOther.2.1 7 = .ok (.if_icmp .le 23, 3) := by decide +kernel
theorem dX12_backOther_10 : decode yX12_backOther.2.1 10 = .ok (.aload_n 0, 1) := by decide +kernel
theorem dX12_backOther_11 : decode yX12_backOther.2.1 11 = .ok (.getfield 82, 3) := by decide +kernel
theorem dX12_backOther_14 : decode yX12_backOther.2.1 14 = .ok (.iload_n 3, 1) := by decide +kernel
theorem dX12_backOther_15 : decode yX12_backOther.2.1 15 = .ok (.aload_n 0, 1) := by decide +kernel
theorem dX12_backOther_16 : decode yX12_backOther.2.1 16 = .ok (.getfield 82, 3) := by decide +kernel
theorem dX12_backOther_19 : decode yX12_backOther.2.1 19 = .ok (.iload_n 3, 1) := by decide +kernel
theorem dX12_backOther_20 : decode yX12_backOther.2.1 20 = .ok (.iconst 1, 1) := by decide +kernel
theorem dX12_backOther_21 : decode yX12_backOther.2.1 21 = .ok (.isub, 1) := by decide +kernel
theorem dX12_backOther_22 : decode yX12_backOther.2.1 22 = .ok (.iaload, 1) := by decide +kernel
theorem dX12_backOther_23 : decode yX12_backOther.2.1 23 = .ok (.iastore, 1) := by decide +kernel
theorem dX12_backOther_24 : decode yX12_backOther.2.1 24 = .ok (.iinc 3 (-1), 3) := by decide +kernel
theorem dX12_backOther_27 : decode yX12_backOther.2.1 27 = .ok (.goto (-22), 3) := by decide +kernel
theorem dX12_backOther_30 : decode yX12_backOther.2.1 30 = .ok (.aload_n 0, 1) := by decide +kernel
theorem dX12_backOther_31 : decode yX12_backOther.2.1 31 = .ok (.getfield 82, 3) := by decide +kernel
theorem dX12_backOther_34 : decode yX12_backOther.2.1 34 = .ok (.iload_n 1, 1) := by decide +kernel
theorem dX12_backOther_35 : decode yX12_backOther.2.1 35 = .ok (.iload_n 2, 1) := by decide +kernel
theorem dX12_backOther_36 : decode yX12_backOther.2.1 36 = .ok (.iastore, 1) := by decide +kernel
theorem dX12_backOther_37 : decode yX12_backOther.2.1 37 = .ok (.aload_n 0, 1) := by decide +kernel
theorem dX12_backOther_38 : decode yX12_backOther.2.1 38 = .ok (.dup, 1) := by decide +kernel
theorem dX12_backOther_39 : decode yX12_backOther.2.1 39 = .ok (.getfield 246, 3) := by decide +kernel
theorem dX12_backOther_42 : decode yX12_backOther.2.1 42 = .ok (.iconst 1, 1) := by decide +kernel
theorem dX12_backOther_43 : decode yX12_backOther.2.1 43 = .ok (.iadd, 1) := by decide +kernel
theorem dX12_backOther_44 : decode yX12_backOther.2.1 44 = .ok (.putfield 246, 3) := by decide +kernel
theorem dX12_backOther_47 : decode yX12_backOther.2.1 47 = .ok (.return_, 1) := by decide +kernel
theorem dX12_bits_0 : decode yX12_bits.2.1 0 = .ok (.iconst 0, 1) := by decide +kernel
theorem dX12_bits_1 : decode yX12_bits.2.1 1 = .ok (.istore_n 1, 1) := by decide +kernel
theorem dX12_bits_2 : decode yX12_bits.2.1 2 = .ok (.iconst 0, 1) := by decide +kernel
theorem dX12_bits_3 : decode yX12_bits.2.1 3 = .ok (.istore_n 2, 1) := by decide +kernel
theorem dX12_bits_4 : decode yX12_bits.2.1 4 = .ok (.iload_n 2, 1) := by decide +kernel
theorem dX12_bits_5 : decode yX12_bits.2.1 5 = .ok (.bipush 8, 2) := by decide +kernel
theorem dX12_bits_7 : decode yX12_bits.2.1 7 = .ok (.if_icmp .ge 17, 3) := by decide +kernel
theorem dX12_bits_10 : decode yX12_bits.2.1 10 = .ok (.iload_n 1, 1) := by decide +kernel
theorem dX12_bits_11 : decode yX12_bits.2.1 11 = .ok (.iload_n 0, 1) := by decide +kernel
theorem dX12_bits_12 : decode yX12_bits.2.1 12 = .ok (.iload_n 2, 1) := by decide +kernel
theorem dX12_bits_13 : decode yX12_bits.2.1 13 = .ok (.ishr, 1) := by decide +kernel
theorem dX12_bits_14 : decode yX12_bits.2.1 14 = .ok (.iconst 1, 1) := by decide +kernel
theorem dX12_bits_15 : decode yX12_bits.2.1 15 = .ok (.iand, 1) := by decide +kernel
theorem dX12_bits_16 : decode yX12_bits.2.1 16 = .ok (.iadd, 1) := by decide +kernel
theorem dX12_bits_17 : decode yX12_bits.2.1 17 = .ok (.istore_n 1, 1) := by decide +kernel
theorem dX12_bits_18 : decode yX12_bits.2.1 18 = .ok (.iinc 2 1, 3) := by decide +kernel
theorem dX12_bits_21 : decode yX12_bits.2.1 21 = .ok (.goto (-17), 3) := by decide +kernel
theorem dX12_bits_24 : decode yX12_bits.2.1 24 = .ok (.iload_n 1, 1) := by decide +kernel
theorem dX12_bits_25 : decode yX12_bits.2.1 25 = .ok (.ireturn, 1) := by decide +kernel
theorem dX12_needSeveral_0 : decode yX12_needSeveral.2.1 0 = .ok (.iload_n 1, 1) := by decide +kernel
theorem dX12_needSeveral_1 : decode yX12_needSeveral.2.1 1 = .ok (.iconst 1, 1) := by decide +kernel
theorem dX12_needSeveral_2 : decode yX12_needSeveral.2.1 2 = .ok (.sipush 255, 3) := by decide +kernel
theorem dX12_needSeveral_5 : decode yX12_needSeveral.2.1 5 = .ok (.invokestatic 117, 3) := by decide +kernel
theorem dX12_needSeveral_8 : decode yX12_needSeveral.2.1 8 = .ok (.ifCond .eq 18, 3) := by decide +kernel
theorem dX12_needSeveral_11 : decode yX12_needSeveral.2.1 11 = .ok (.iload_n 1, 1) := by decide +kernel
theorem dX12_needSeveral_12 : decode yX12_needSeveral.2.1 12 = .ok (.invokestatic 267, 3) := by decide +kernel
theorem dX12_needSeveral_15 : decode yX12_needSeveral.2.1 15 = .ok (.iconst 4, 1) := by decide +kernel
theorem dX12_needSeveral_16 : decode yX12_needSeveral.2.1 16 = .ok (.if_icmp .gt 10, 3) := by decide +kernel
theorem dX12_needSeveral_19 : decode yX12_needSeveral.2.1 19 = .ok (.iload_n 2, 1) := by decide +kernel
theorem dX12_needSeveral_20 : decode yX12_needSeveral.2.1 20 = .ok (.invokestatic 130, 3) := by decide +kernel
theorem dX12_needSeveral_23 : decode yX12_needSeveral.2.1 23 = .ok (.ifCond .ne 5, 3) := by decide +kernel
theorem dX12_needSeveral_26 : decode yX12_needSeveral.2.1 26 = .ok (.iconst (-1), 1) := by decide +kernel
theorem dX12_needSeveral_27 : decode yX12_needSeveral.2.1 27 = .ok (.ireturn, 1) := by decide +kernel
theorem dX12_needSeveral_28 : decode yX12_needSeveral.2.1 28 = .ok (.aload_n 0, 1) := by decide +kernel
theorem dX12_needSeveral_29 : decode yX12_needSeveral.2.1 29 = .ok (.iconst 0, 1) := by decide +kernel
theorem dX12_needSeveral_30 : decode yX12_needSeveral.2.1 30 = .ok (.putfield 270, 3) := by decide +kernel
theorem dX12_needSeveral_33 : decode yX12_needSeveral.2.1 33 = .ok (.iconst 1, 1) := by decide +kernel
theorem dX12_needSeveral_34 : decode yX12_needSeveral.2.1 34 = .ok (.istore_n 3, 1) := by decide +kernel
theorem dX12_needSeveral_35 : decode yX12_needSeveral.2.1 35 = .ok (.iconst 1, 1) := by decide +kernel
theorem dX12_needSeveral_36 : decode yX12_needSeveral.2.1 36 = .ok (.istore 4, 2) := by decide +kernel
theorem dX12_needSeveral_38 : decode yX12_needSeveral.2.1 38 = .ok (.iconst 0, 1) := by decide +kernel
theorem dX12_needSeveral_39 : decode yX12_needSeveral.2.1 39 = .ok (.istore 5, 2) := by decide +kernel
theorem dX12_needSeveral_41 : decode yX12_needSeveral.2.1 41 = .ok (.iload 5, 2) := by decide +kernel
theorem dX12_needSeveral_43 : decode yX12_needSeveral.2.1 43 = .ok (.bipush 8, 2) := by decide +kernel
theorem dX12_needSeveral_45 : decode yX12_needSeveral.2.1 45 = .ok (.if_icmp .ge 72, 3) := by decide +kernel
theorem dX12_needSeveral_48 : decode yX12_needSeveral.2.1 48 = .ok (.iload_n 1, 1) := by decide +kernel
theorem dX12_needSeveral_49 : decode yX12_needSeveral.2.1 49 = .ok (.iload 5, 2) := by decide +kernel
theorem dX12_needSeveral_51 : decode yX12_needSeveral.2.1 51 = .ok (.invokestatic 243, 3) := by decide +kernel
theorem dX12_needSeveral_54 : decode yX12_needSeveral.2.1 54 = .ok (.ifCond .eq 57, 3) := by decide +kernel
theorem dX12_needSeveral_57 : decode yX12_needSeveral.2.1 57 = .ok (.iload 4, 2) := by decide +kernel
theorem dX12_needSeveral_59 : decode yX12_needSeveral.2.1 59 = .ok (.ifCond .eq 16, 3) := by decide +kernel
theorem dX12_needSeveral_62 : decode yX12_needSeveral.2.1 62 = .ok (.aload_n 0, 1) := by decide +kernel
theorem dX12_needSeveral_63 : decode yX12_needSeveral.2.1 63 = .ok (.iload 5, 2) := by decide +kernel
theorem dX12_needSeveral_65 : decode yX12_needSeveral.2.1 65 = .ok (.invokevirtual 185, 3) := by decide +kernel
theorem dX12_needSeveral_68 : decode yX12_needSeveral.2.1 68 = .ok (.ifCond .eq 7, 3) := by decide +kernel
theorem dX12_needSeveral_71 : decode yX12_needSeveral.2.1 71 = .ok (.iconst 1, 1) := by decide +kernel
theorem dX12_needSeveral_72 : decode yX12_needSeveral.2.1 72 = .ok (.goto 4, 3) := by decide +kernel
theorem dX12_needSeveral_75 : decode yX12_needSeveral.2.1 75 = .ok (.iconst 0, 1) := by decide +kernel
theorem dX12_needSeveral_76 : decode yX12_needSeveral.2.1 76 = .ok (.istore 4, 2) := by decide +kernel
theorem dX12_needSeveral_78 : decode yX12_needSeveral.2.1 78 = .ok (.aload_n 0, 1) := by decide +kernel
theorem dX12_needSeveral_79 : decode yX12_needSeveral.2.1 79 = .ok (.getfield 85, 3) := by decide +kernel
theorem dX12_needSeveral_82 : decode yX12_needSeveral.2.1 82 = .ok (.aload_n 0, 1) := by decide +kernel
theorem dX12_needSeveral_83 : decode yX12_needSeveral.2.1 83 = .ok (.getfield 270, 3) := by decide +kernel
theorem dX12_needSeveral_86 : decode yX12_needSeveral.2.1 86 = .ok (.iload 5, 2) := by decide +kernel
theorem dX12_needSeveral_88 : decode yX12_needSeveral.2.1 88 = .ok (.iastore, 1) := by decide +kernel
theorem dX12_needSeveral_89 : decode yX12_needSeveral.2.1 89 = .ok (.iload_n 3, 1) := by decide +kernel
theorem dX12_needSeveral_90 : decode yX12_needSeveral.2.1 90 = .ok (.aload_n 0, 1) := by decide +kernel
theorem dX12_needSeveral_91 : decode yX12_needSeveral.2.1 91 = .ok (.getfield 29, 3) := by decide +kernel
theorem dX12_needSeveral_94 : decode yX12_needSeveral.2.1 94 = .ok (.iload 5, 2) := by decide +kernel
theorem dX12_needSeveral_96 : decode yX12_needSeveral.2.1 96 = .ok (.iaload, 1) := by decide +kernel
theorem dX12_needSeveral_97 : decode yX12_needSeveral.2.1 97 = .ok (.iconst 1, 1) := by decide +kernel
theorem dX12_needSeveral_98 : decode yX12_needSeveral.2.1 98 = .ok (.iadd, 1) := by decide +kernel
theorem dX12_needSeveral_99 : decode yX12_needSeveral.2.1 99 = .ok (.imul, 1) := by decide +kernel
theorem dX12_needSeveral_100 : decode yX12_needSeveral.2.1 100 = .ok (.istore_n 3, 1) := by decide +kernel
theorem dX12_needSeveral_101 : decode yX12_needSeveral.2.1 101 = .ok (.aload_n 0, 1) := by decide +kernel
theorem dX12_needSeveral_102 : decode yX12_needSeveral.2.1 102 = .ok (.dup, 1) := by decide +kernel
theorem dX12_needSeveral_103 : decode yX12_needSeveral.2.1 103 = .ok (.getfield 270, 3) := by decide +kernel
theorem dX12_needSeveral_106 : decode yX12_needSeveral.2.1 106 = .ok (.iconst 1, 1) := by decide +kernel
theorem dX12_needSeveral_107 : decode yX12_needSeveral.2.1 107 = .ok (.iadd, 1) := by decide +kernel
theorem dX12_needSeveral_108 : decode yX12_needSeveral.2.1 108 = .ok (.putfield 270, 3) := by decide +kernel
theorem dX12_needSeveral_111 : decode yX12_needSeveral.2.1 111 = .ok (.iinc 5 1, 3) := by decide +kernel
theorem dX12_needSeveral_114 : decode yX12_needSeveral.2.1 114 = .ok (.goto (-73), 3) := by decide +kernel
theorem dX12_needSeveral_117 : decode yX12_needSeveral.2.1 117 = .ok (.iload 4, 2) := by decide +kernel
theorem dX12_needSeveral_119 : decode yX12_needSeveral.2.1 119 = .ok (.ifCond .ne 11, 3) := by decide +kernel
theorem dX12_needSeveral_122 : decode yX12_needSeveral.2.1 122 = .ok (.aload_n 0, 1) := by decide +kernel
theorem dX12_needSeveral_123 : decode yX12_needSeveral.2.1 123 = .ok (.iconst 1, 1) := by decide +kernel
theorem dX12_needSeveral_124 : decode yX12_needSeveral.2.1 124 = .ok (.invokevirtual 134, 3) := by decide +kernel
theorem dX12_needSeveral_127 : decode yX12_needSeveral.2.1 127 = .ok (.goto 16, 3) := by decide +kernel
theorem dX12_needSeveral_130 : decode yX12_needSeveral.2.1 130 = .ok (.iload_n 3, 1) := by decide +kernel
theorem dX12_needSeveral_131 : decode yX12_needSeveral.2.1 131 = .ok (.sipush 20000, 3) := by decide +kernel
theorem dX12_needSeveral_134 : decode yX12_needSeveral.2.1 134 = .ok (.if_icmp .le 8, 3) := by decide +kernel
theorem dX12_needSeveral_137 : decode yX12_needSeveral.2.1 137 = .ok (.bipush (-6), 2) := by decide +kernel
theorem dX12_needSeveral_139 : decode yX12_needSeveral.2.1 139 = .ok (.goto 4, 3) := by decide +kernel
theorem dX12_needSeveral_142 : decode yX12_needSeveral.2.1 142 = .ok (.iconst 0, 1) := by decide +kernel
theorem dX12_needSeveral_143 : decode yX12_needSeveral.2.1 143 = .ok (.ireturn, 1) := by decide +kernel
theorem dX12_code_0 : decode yX12_code.2.1 0 = .ok (.iconst 0, 1) := by decide +kernel
theorem dX12_code_1 : decode yX12_code.2.1 1 = .ok (.istore_n 1, 1) := by decide +kernel
theorem dX12_code_2 : decode yX12_code.2.1 2 = .ok (.iconst 0, 1) := by decide +kernel
theorem dX12_code_3 : decode yX12_code.2.1 3 = .ok (.istore_n 2, 1) := by decide +kernel
theorem dX12_code_4 : decode yX12_code.2.1 4 = .ok (.iload_n 2, 1) := by decide +kernel
theorem dX12_code_5 : decode yX12_code.2.1 5 = .ok (.aload_n 0, 1) := by decide +kernel
theorem dX12_code_6 : decode yX12_code.2.1 6 = .ok (.getfield 270, 3) := by decide +kernel
theorem dX12_code_9 : decode yX12_code.2.1 9 = .ok (.if_icmp .ge 32, 3) := by decide +kernel
theorem dX12_code_12 : decode yX12_code.2.1 12 = .ok (.iload_n 1, 1) := by decide +kernel
theorem dX12_code_13 : decode yX12_code.2.1 13 = .ok (.aload_n 0, 1) := by decide +kernel
theorem dX12_code_14 : decode yX12_code.2.1 14 = .ok (.getfield 29, 3) := by decide +kernel
theorem dX12_code_17 : decode yX12_code.2.1 17 = .ok (.aload_n 0, 1) := by decide +kernel
theorem dX12_code_18 : decode yX12_code.2.1 18 = .ok (.getfield 85, 3) := by decide +kernel
theorem dX12_code_21 : decode yX12_code.2.1 21 = .ok (.iload_n 2, 1) := by decide +kernel
theorem dX12_code_22 : decode yX12_code.2.1 22 = .ok (.iaload, 1) := by decide +kernel
theorem dX12_code_23 : decode yX12_code.2.1 23 = .ok (.iaload, 1) := by decide +kernel
theorem dX12_code_24 : decode yX12_code.2.1 24 = .ok (.iconst 1, 1) := by decide +kernel
theorem dX12_code_25 : decode yX12_code.2.1 25 = .ok (.iadd, 1) := by decide +kernel
theorem dX12_code_26 : decode yX12_code.2.1 26 = .ok (.imul, 1) := by decide +kernel
theorem dX12_code_27 : decode yX12_code.2.1 27 = .ok (.aload_n 0, 1) := by decide +kernel
theorem dX12_code_28 : decode yX12_code.2.1 28 = .ok (.getfield 91, 3) := by decide +kernel
theorem dX12_code_31 : decode yX12_code.2.1 31 = .ok (.iload_n 2, 1) := by decide +kernel
theorem dX12_code_32 : decode yX12_code.2.1 32 = .ok (.iaload, 1) := by decide +kernel
theorem dX12_code_33 : decode yX12_code.2.1 33 = .ok (.iadd, 1) := by decide +kernel
theorem dX12_code_34 : decode yX12_code.2.1 34 = .ok (.istore_n 1, 1) := by decide +kernel
theorem dX12_code_35 : decode yX12_code.2.1 35 = .ok (.iinc 2 1, 3) := by decide +kernel
theorem dX12_code_38 : decode yX12_code.2.1 38 = .ok (.goto (-34), 3) := by decide +kernel
theorem dX12_code_41 : decode yX12_code.2.1 41 = .ok (.iload_n 1, 1) := by decide +kernel
theorem dX12_code_42 : decode yX12_code.2.1 42 = .ok (.ireturn, 1) := by decide +kernel
theorem dX12_allCodes_0 : decode yX12_allCodes.2.1 0 = .ok (.iconst 1, 1) := by decide +kernel
theorem dX12_allCodes_1 : decode yX12_allCodes.2.1 1 = .ok (.istore_n 1, 1) := by decide +kernel
theorem dX12_allCodes_2 : decode yX12_allCodes.2.1 2 = .ok (.iconst 0, 1) := by decide +kernel
theorem dX12_allCodes_3 : decode yX12_allCodes.2.1 3 = .ok (.istore_n 2, 1) := by decide +kernel
theorem dX12_allCodes_4 : decode yX12_allCodes.2.1 4 = .ok (.iload_n 2, 1) := by decide +kernel
theorem dX12_allCodes_5 : decode yX12_allCodes.2.1 5 = .ok (.aload_n 0, 1) := by decide +kernel
theorem dX12_allCodes_6 : decode yX12_allCodes.2.1 6 = .ok (.getfield 270, 3) := by decide +kernel
theorem dX12_allCodes_9 : decode yX12_allCodes.2.1 9 = .ok (.if_icmp .ge 25, 3) := by decide +kernel
theorem dX12_allCodes_12 : decode yX12_allCodes.2.1 12 = .ok (.iload_n 1, 1) := by decide +kernel
theorem dX12_allCodes_13 : decode yX12_allCodes.2.1 13 = .ok (.aload_n 0, 1) := by decide +kernel
theorem dX12_allCodes_14 : decode yX12_allCodes.2.1 14 = .ok (.getfield 29, 3) := by decide +kernel
theorem dX12_allCodes_17 : decode yX12_allCodes.2.1 17 = .ok (.aload_n 0, 1) := by decide +kernel
theorem dX12_allCodes_18 : decode yX12_allCodes.2.1 18 = .ok (.getfield 85, 3) := by decide +kernel
theorem dX12_allCodes_21 : decode yX12_allCodes.2.1 21 = .ok (.iload_n 2, 1) := by decide +kernel
theorem dX12_allCodes_22 : decode yX12_allCodes.2.1 22 = .ok (.iaload, 1) := by decide +kernel
theorem dX12_allCodes_23 : decode yX12_allCodes.2.1 23 = .ok (.iaload, 1) := by decide +kernel
theorem dX12_allCodes_24 : decode yX12_allCodes.2.1 24 = .ok (.iconst 1, 1) := by decide +kernel
theorem dX12_allCodes_25 : decode yX12_allCodes.2.1 25 = .ok (.iadd, 1) := by decide +kernel
theorem dX12_allCodes_26 : decode yX12_allCodes.2.1 26 = .ok (.imul, 1) := by decide +kernel
theorem dX12_allCodes_27 : decode yX12_allCodes.2.1 27 = .ok (.istore_n 1, 1) := by decide +kernel
theorem dX12_allCodes_28 : decode yX12_allCodes.2.1 28 = .ok (.iinc 2 1, 3) := by decide +kernel
theorem dX12_allCodes_31 : decode yX12_allCodes.2.1 31 = .ok (.goto (-27), 3) := by decide +kernel
theorem dX12_allCodes_34 : decode yX12_allCodes.2.1 34 = .ok (.iload_n 1, 1) := by decide +kernel
theorem dX12_allCodes_35 : decode yX12_allCodes.2.1 35 = .ok (.ireturn, 1) := by decide +kernel
theorem dX12_layAt_0 : decode yX12_layAt.2.1 0 = .ok (.iload_n 1, 1) := by decide +kernel
theorem dX12_layAt_1 : decode yX12_layAt.2.1 1 = .ok (.istore_n 2, 1) := by decide +kernel
theorem dX12_layAt_2 : decode yX12_layAt.2.1 2 = .ok (.aload_n 0, 1) := by decide +kernel
theorem dX12_layAt_3 : decode yX12_layAt.2.1 3 = .ok (.getfield 270, 3) := by decide +kernel
theorem dX12_layAt_6 : decode yX12_layAt.2.1 6 = .ok (.iconst 1, 1) := by decide +kernel
theorem dX12_layAt_7 : decode yX12_layAt.2.1 7 = .ok (.isub, 1) := by decide +kernel
theorem dX12_layAt_8 : decode yX12_layAt.2.1 8 = .ok (.istore_n 3, 1) := by decide +kernel
theorem dX12_layAt_9 : decode yX12_layAt.2.1 9 = .ok (.iload_n 3, 1) := by decide +kernel
theorem dX12_layAt_10 : decode yX12_layAt.2.1 10 = .ok (.ifCond .lt 46, 3) := by decide +kernel
theorem dX12_layAt_13 : decode yX12_layAt.2.1 13 = .ok (.aload_n 0, 1) := by decide +kernel
theorem dX12_layAt_14 : decode yX12_layAt.2.1 14 = .ok (.getfield 91, 3) := by decide +kernel
theorem dX12_layAt_17 : decode yX12_layAt.2.1 17 = .ok (.iload_n 3, 1) := by decide +kernel
theorem dX12_layAt_18 : decode yX12_layAt.2.1 18 = .ok (.iload_n 2, 1) := by decide +kernel
theorem dX12_layAt_19 : decode yX12_layAt.2.1 19 = .ok (.aload_n 0, 1) := by decide +kernel
theorem dX12_layAt_20 : decode yX12_layAt.2.1 20 = .ok (.getfield 29, 3) := by decide +kernel
theorem dX12_layAt_23 : decode yX12_layAt.2.1 23 = .ok (.aload_n 0, 1) := by decide +kernel
theorem dX12_layAt_24 : decode yX12_layAt.2.1 24 = .ok (.getfield 85, 3) := by decide +kernel
theorem dX12_layAt_27 : decode yX12_layAt.2.1 27 = .ok (.iload_n 3, 1) := by decide +kernel
theorem dX12_layAt_28 : decode yX12_layAt.2.1 28 = .ok (.iaload, 1) := by decide +kernel
theorem dX12_layAt_29 : decode yX12_layAt.2.1 29 = .ok (.iaload, 1) := by decide +kernel
theorem dX12_layAt_30 : decode yX12_layAt.2.1 30 = .ok (.iconst 1, 1) := by decide +kernel
theorem dX12_layAt_31 : decode yX12_layAt.2.1 31 = .ok (.iadd, 1) := by decide +kernel
theorem dX12_layAt_32 : decode yX12_layAt.2.1 32 = .ok (.irem, 1) := by decide +kernel
theorem dX12_layAt_33 : decode yX12_layAt.2.1 33 = .ok (.iastore, 1) := by decide +kernel
theorem dX12_layAt_34 : decode yX12_layAt.2.1 34 = .ok (.iload_n 2, 1) := by decide +kernel
theorem dX12_layAt_35 : decode yX12_layAt.2.1 35 = .ok (.aload_n 0, 1) := by decide +kernel
theorem dX12_layAt_36 : decode yX12_layAt.2.1 36 = .ok (.getfield 29, 3) := by decide +kernel
theorem dX12_layAt_39 : decode yX12_layAt.2.1 39 = .ok (.aload_n 0, 1) := by decide +kernel
theorem dX12_layAt_40 : decode yX12_layAt.2.1 40 = .ok (.getfield 85, 3) := by decide +kernel
theorem dX12_layAt_43 : decode yX12_layAt.2.1 43 = .ok (.iload_n 3, 1) := by decide +kernel
theorem dX12_layAt_44 : decode yX12_layAt.2.1 44 = .ok (.iaload, 1) := by decide +kernel
theorem dX12_layAt_45 : decode yX12_layAt.2.1 45 = .ok (.iaload, 1) := by decide +kernel
theorem dX12_layAt_46 : decode yX12_layAt.2.1 46 = .ok (.iconst 1, 1) := by decide +kernel
theorem dX12_layAt_47 : decode yX12_layAt.2.1 47 = .ok (.iadd, 1) := by decide +kernel
theorem dX12_layAt_48 : decode yX12_layAt.2.1 48 = .ok (.idiv, 1) := by decide +kernel
theorem dX12_layAt_49 : decode yX12_layAt.2.1 49 = .ok (.istore_n 2, 1) := by decide +kernel
theorem dX12_layAt_50 : decode yX12_layAt.2.1 50 = .ok (.iinc 3 (-1), 3) := by decide +kernel
theorem dX12_layAt_53 : decode yX12_layAt.2.1 53 = .ok (.goto (-44), 3) := by decide +kernel
theorem dX12_layAt_56 : decode yX12_layAt.2.1 56 = .ok (.return_, 1) := by decide +kernel
theorem dX12_behindNext_0 : decode yX12_behindNext.2.1 0 = .ok (.aload_n 0, 1) := by decide +kernel
theorem dX12_behindNext_1 : decode yX12_behindNext.2.1 1 = .ok (.iload_n 1, 1) := by decide +kernel
theorem dX12_behindNext_2 : decode yX12_behindNext.2.1 2 = .ok (.invokevirtual 273, 3) := by decide +kernel
theorem dX12_behindNext_5 : decode yX12_behindNext.2.1 5 = .ok (.iconst 1, 1) := by decide +kernel
theorem dX12_behindNext_6 : decode yX12_behindNext.2.1 6 = .ok (.istore_n 3, 1) := by decide +kernel
theorem dX12_behindNext_7 : decode yX12_behindNext.2.1 7 = .ok (.iconst 0, 1) := by decide +kernel
theorem dX12_behindNext_8 : decode yX12_behindNext.2.1 8 = .ok (.istore 4, 2) := by decide +kernel
theorem dX12_behindNext_10 : decode yX12_behindNext.2.1 10 = .ok (.iload 4, 2) := by decide +kernel
theorem dX12_behindNext_12 : decode yX12_behindNext.2.1 12 = .ok (.aload_n 0, 1) := by decide +kernel
theorem dX12_behindNext_13 : decode yX12_behindNext.2.1 13 = .ok (.getfield 270, 3) := by decide +kernel
theorem dX12_behindNext_16 : decode yX12_behindNext.2.1 16 = .ok (.if_icmp .ge 58, 3) := by decide +kernel
theorem dX12_behindNext_19 : decode yX12_behindNext.2.1 19 = .ok (.iload_n 3, 1) := by decide +kernel
theorem dX12_behindNext_20 : decode yX12_behindNext.2.1 20 = .ok (.ifCond .eq 54, 3) := by decide +kernel
theorem dX12_behindNext_23 : decode yX12_behindNext.2.1 23 = .ok (.aload_n 0, 1) := by decide +kernel
theorem dX12_behindNext_24 : decode yX12_behindNext.2.1 24 = .ok (.aload_n 0, 1) := by decide +kernel
theorem dX12_behindNext_25 : decode yX12_behindNext.2.1 25 = .ok (.getfield 85, 3) := by decide +kernel
theorem dX12_behindNext_28 : decode yX12_behindNext.2.1 28 = .ok (.iload 4, 2) := by decide +kernel
theorem dX12_behindNext_30 : decode yX12_behindNext.2.1 30 = .ok (.iaload, 1) := by decide +kernel
theorem dX12_behindNext_31 : decode yX12_behindNext.2.1 31 = .ok (.aload_n 0, 1) := by decide +kernel
theorem dX12_behindNext_32 : decode yX12_behindNext.2.1 32 = .ok (.getfield 91, 3) := by decide +kernel
theorem dX12_behindNext_35 : decode yX12_behindNext.2.1 35 = .ok (.iload 4, 2) := by decide +kernel
theorem dX12_behindNext_37 : decode yX12_behindNext.2.1 37 = .ok (.iaload, 1) := by decide +kernel
theorem dX12_behindNext_38 : decode yX12_behindNext.2.1 38 = .ok (.iload_n 2, 1) := by decide +kernel
theorem dX12_behindNext_39 : decode yX12_behindNext.2.1 39 = .ok (.invokevirtual 206, 3) := by decide +kernel
theorem dX12_behindNext_42 : decode yX12_behindNext.2.1 42 = .ok (.istore 5, 2) := by decide +kernel
theorem dX12_behindNext_44 : decode yX12_behindNext.2.1 44 = .ok (.iload 5, 2) := by decide +kernel
theorem dX12_behindNext_46 : decode yX12_behindNext.2.1 46 = .ok (.bipush (-9), 2) := by decide +kernel
theorem dX12_behindNext_48 : decode yX12_behindNext.2.1 48 = .ok (.if_icmp .eq 7, 3) := by decide +kernel
theorem dX12_behindNext_51 : decode yX12_behindNext.2.1 51 = .ok (.iconst 1, 1) := by decide +kernel
theorem dX12_behindNext_52 : decode yX12_behindNext.2.1 52 = .ok (.goto 4, 3) := by decide +kernel
theorem dX12_behindNext_55 : decode yX12_behindNext.2.1 55 = .ok (.iconst 0, 1) := by decide +kernel
theorem dX12_behindNext_56 : decode yX12_behindNext.2.1 56 = .ok (.istore_n 3, 1) := by decide +kernel
theorem dX12_behindNext_57 : decode yX12_behindNext.2.1 57 = .ok (.aload_n 0, 1) := by decide +kernel
theorem dX12_behindNext_58 : decode yX12_behindNext.2.1 58 = .ok (.getfield 91, 3) := by decide +kernel
theorem dX12_behindNext_61 : decode yX12_behindNext.2.1 61 = .ok (.iload 4, 2) := by decide +kernel
theorem dX12_behindNext_63 : decode yX12_behindNext.2.1 63 = .ok (.iload 5, 2) := by decide +kernel
theorem dX12_behindNext_65 : decode yX12_behindNext.2.1 65 = .ok (.iconst 1, 1) := by decide +kernel
theorem dX12_behindNext_66 : decode yX12_behindNext.2.1 66 = .ok (.iadd, 1) := by decide +kernel
theorem dX12_behindNext_67 : decode yX12_behindNext.2.1 67 = .ok (.iastore, 1) := by decide +kernel
theorem dX12_behindNext_68 : decode yX12_behindNext.2.1 68 = .ok (.iinc 4 1, 3) := by decide +kernel
theorem dX12_behindNext_71 : decode yX12_behindNext.2.1 71 = .ok (.goto (-61), 3) := by decide +kernel
theorem dX12_behindNext_74 : decode yX12_behindNext.2.1 74 = .ok (.iload_n 3, 1) := by decide +kernel
theorem dX12_behindNext_75 : decode yX12_behindNext.2.1 75 = .ok (.ifCond .eq 10, 3) := by decide +kernel
theorem dX12_behindNext_78 : decode yX12_behindNext.2.1 78 = .ok (.aload_n 0, 1) := by decide +kernel
theorem dX12_behindNext_79 : decode yX12_behindNext.2.1 79 = .ok (.invokevirtual 276, 3) := by decide +kernel
theorem dX12_behindNext_82 : decode yX12_behindNext.2.1 82 = .ok (.goto 4, 3) := by decide +kernel
theorem dX12_behindNext_85 : decode yX12_behindNext.2.1 85 = .ok (.iconst (-1), 1) := by decide +kernel
theorem dX12_behindNext_86 : decode yX12_behindNext.2.1 86 = .ok (.ireturn, 1) := by decide +kernel
theorem dX12_behindHere_0 : decode yX12_behindHere.2.1 0 = .ok (.aload_n 0, 1) := by decide +kernel
theorem dX12_behindHere_1 : decode yX12_behindHere.2.1 1 = .ok (.iload_n 1, 1) := by decide +kernel
theorem dX12_behindHere_2 : decode yX12_behindHere.2.1 2 = .ok (.invokevirtual 273, 3) := by decide +kernel
theorem dX12_behindHere_5 : decode yX12_behindHere.2.1 5 = .ok (.iconst 0, 1) := by decide +kernel
theorem dX12_behindHere_6 : decode yX12_behindHere.2.1 6 = .ok (.istore_n 3, 1) := by decide +kernel
theorem dX12_behindHere_7 : decode yX12_behindHere.2.1 7 = .ok (.iconst 0, 1) := by decide +kernel
theorem dX12_behindHere_8 : decode yX12_behindHere.2.1 8 = .ok (.istore 4, 2) := by decide +kernel
theorem dX12_behindHere_10 : decode yX12_behindHere.2.1 10 = .ok (.iload 4, 2) := by decide +kernel
theorem dX12_behindHere_12 : decode yX12_behindHere.2.1 12 = .ok (.aload_n 0, 1) := by decide +kernel
theorem dX12_behindHere_13 : decode yX12_behindHere.2.1 13 = .ok (.getfield 270, 3) := by decide +kernel
theorem dX12_behindHere_16 : decode yX12_behindHere.2.1 16 = .ok (.if_icmp .ge 95, 3) := by decide +kernel
theorem dX12_behindHere_19 : decode yX12_behindHere.2.1 19 = .ok (.aload_n 0, 1) := by decide +kernel
theorem dX12_behindHere_20 : decode yX12_behindHere.2.1 20 = .ok (.getfield 91, 3) := by decide +kernel
theorem dX12_behindHere_23 : decode yX12_behindHere.2.1 23 = .ok (.iload 4, 2) := by decide +kernel
theorem dX12_behindHere_25 : decode yX12_behindHere.2.1 25 = .ok (.iaload, 1) := by decide +kernel
theorem dX12_behindHere_26 : decode yX12_behindHere.2.1 26 = .ok (.aload_n 0, 1) := by decide +kernel
theorem dX12_behindHere_27 : decode yX12_behindHere.2.1 27 = .ok (.getfield 29, 3) := by decide +kernel
theorem dX12_behindHere_30 : decode yX12_behindHere.2.1 30 = .ok (.aload_n 0, 1) := by decide +kernel
theorem dX12_behindHere_31 : decode yX12_behindHere.2.1 31 = .ok (.getfield 85, 3) := by decide +kernel
theorem dX12_behindHere_34 : decode yX12_behindHere.2.1 34 = .ok (.iload 4, 2) := by decide +kernel
theorem dX12_behindHere_36 : decode yX12_behindHere.2.1 36 = .ok (.iaload, 1) := by decide +kernel
theorem dX12_behindHere_37 : decode yX12_behindHere.2.1 37 = .ok (.iaload, 1) := by decide +kernel
theorem dX12_behindHere_38 : decode yX12_behindHere.2.1 38 = .ok (.if_icmp .ge 29, 3) := by decide +kernel
theorem dX12_behindHere_41 : decode yX12_behindHere.2.1 41 = .ok (.aload_n 0, 1) := by decide +kernel
theorem dX12_behindHere_42 : decode yX12_behindHere.2.1 42 = .ok (.aload_n 0, 1) := by decide +kernel
theorem dX12_behindHere_43 : decode yX12_behindHere.2.1 43 = .ok (.getfield 85, 3) := by decide +kernel
theorem dX12_behindHere_46 : decode yX12_behindHere.2.1 46 = .ok (.iload 4, 2) := by decide +kernel
theorem dX12_behindHere_48 : decode yX12_behindHere.2.1 48 = .ok (.iaload, 1) := by decide +kernel
theorem dX12_behindHere_49 : decode yX12_behindHere.2.1 49 = .ok (.aload_n 0, 1) := by decide +kernel
theorem dX12_behindHere_50 : decode yX12_behindHere.2.1 50 = .ok (.getfield 91, 3) := by decide +kernel
theorem dX12_behindHere_53 : decode yX12_behindHere.2.1 53 = .ok (.iload 4, 2) := by decide +kernel
theorem dX12_behindHere_55 : decode yX12_behindHere.2.1 55 = .ok (.iaload, 1) := by decide +kernel
theorem dX12_behindHere_56 : decode yX12_behindHere.2.1 56 = .ok (.invokevirtual 148, 3) := by decide +kernel
theorem dX12_behindHere_59 : decode yX12_behindHere.2.1 59 = .ok (.iload_n 2, 1) := by decide +kernel
theorem dX12_behindHere_60 : decode yX12_behindHere.2.1 60 = .ok (.if_icmp .ne 7, 3) := by decide +kernel
theorem dX12_behindHere_63 : decode yX12_behindHere.2.1 63 = .ok (.iconst 1, 1) := by decide +kernel
theorem dX12_behindHere_64 : decode yX12_behindHere.2.1 64 = .ok (.goto 4, 3) := by decide +kernel
theorem dX12_behindHere_67 : decode yX12_behindHere.2.1 67 = .ok (.iconst 0, 1) := by decide +kernel
theorem dX12_behindHere_68 : decode yX12_behindHere.2.1 68 = .ok (.istore 5, 2) := by decide +kernel
theorem dX12_behindHere_70 : decode yX12_behindHere.2.1 70 = .ok (.aload_n 0, 1) := by decide +kernel
theorem dX12_behindHere_71 : decode yX12_behindHere.2.1 71 = .ok (.getfield 91, 3) := by decide +kernel
theorem dX12_behindHere_74 : decode yX12_behindHere.2.1 74 = .ok (.iload 4, 2) := by decide +kernel
theorem dX12_behindHere_76 : decode yX12_behindHere.2.1 76 = .ok (.dup2, 1) := by decide +kernel
theorem dX12_behindHere_77 : decode yX12_behindHere.2.1 77 = .ok (.iaload, 1) := by decide +kernel
theorem dX12_behindHere_78 : decode yX12_behindHere.2.1 78 = .ok (.iload 5, 2) := by decide +kernel
theorem dX12_behindHere_80 : decode yX12_behindHere.2.1 80 = .ok (.ifCond .eq 7, 3) := by decide +kernel
theorem dX12_behindHere_83 : decode yX12_behindHere.2.1 83 = .ok (.iconst 1, 1) := by decide +kernel
theorem dX12_behindHere_84 : decode yX12_behindHere.2.1 84 = .ok (.goto 4, 3) := by decide +kernel
theorem dX12_behindHere_87 : decode yX12_behindHere.2.1 87 = .ok (.iconst 0, 1) := by decide +kernel
theorem dX12_behindHere_88 : decode yX12_behindHere.2.1 88 = .ok (.iadd, 1) := by decide +kernel
theorem dX12_behindHere_89 : decode yX12_behindHere.2.1 89 = .ok (.iastore, 1) := by decide +kernel
theorem dX12_behindHere_90 : decode yX12_behindHere.2.1 90 = .ok (.iload_n 3, 1) := by decide +kernel
theorem dX12_behindHere_91 : decode yX12_behindHere.2.1 91 = .ok (.ifCond .ne 8, 3) := by decide +kernel
theorem dX12_behindHere_94 : decode yX12_behindHere.2.1 94 = .ok (.iload 5, 2) := by decide +kernel
theorem dX12_behindHere_96 : decode yX12_behindHere.2.1 96 = .ok (.ifCond .eq 7, 3) := by decide +kernel
theorem dX12_behindHere_99 : decode yX12_behindHere.2.1 99 = .ok (.iconst 1, 1) := by decide +kernel
theorem dX12_behindHere_100 : decode yX12_behindHere.2.1 100 = .ok (.goto 4, 3) := by decide +kernel
theorem dX12_behindHere_103 : decode yX12_behindHere.2.1 103 = .ok (.iconst 0, 1) := by decide +kernel
theorem dX12_behindHere_104 : decode yX12_behindHere.2.1 104 = .ok (.istore_n 3, 1) := by decide +kernel
theorem dX12_behindHere_105 : decode yX12_behindHere.2.1 105 = .ok (.iinc 4 1, 3) := by decide +kernel
theorem dX12_behindHere_108 : decode yX12_behindHere.2.1 108 = .ok (.goto (-98), 3) := by decide +kernel
theorem dX12_behindHere_111 : decode yX12_behindHere.2.1 111 = .ok (.iload_n 3, 1) := by decide +kernel
theorem dX12_behindHere_112 : decode yX12_behindHere.2.1 112 = .ok (.ifCond .eq 10, 3) := by decide +kernel
theorem dX12_behindHere_115 : decode yX12_behindHere.2.1 115 = .ok (.aload_n 0, 1) := by decide +kernel
theorem dX12_behindHere_116 : decode yX12_behindHere.2.1 116 = .ok (.invokevirtual 276, 3) := by decide +kernel
theorem dX12_behindHere_119 : decode yX12_behindHere.2.1 119 = .ok (.goto 4, 3) := by decide +kernel
theorem dX12_behindHere_122 : decode yX12_behindHere.2.1 122 = .ok (.iconst (-1), 1) := by decide +kernel
theorem dX12_behindHere_123 : decode yX12_behindHere.2.1 123 = .ok (.ireturn, 1) := by decide +kernel
theorem dX12_common_0 : decode yX12_common.2.1 0 = .ok (.aload_n 0, 1) := by decide +kernel
theorem dX12_common_1 : decode yX12_common.2.1 1 = .ok (.iload_n 1, 1) := by decide +kernel
theorem dX12_common_2 : decode yX12_common.2.1 2 = .ok (.iload_n 2, 1) := by decide +kernel
theorem dX12_common_3 : decode yX12_common.2.1 3 = .ok (.invokevirtual 280, 3) := by decide +kernel
theorem dX12_common_6 : decode yX12_common.2.1 6 = .ok (.istore_n 3, 1) := by decide +kernel
theorem dX12_common_7 : decode yX12_common.2.1 7 = .ok (.iload_n 3, 1) := by decide +kernel
theorem dX12_common_8 : decode yX12_common.2.1 8 = .ok (.ifCond .ge 5, 3) := by decide +kernel
theorem dX12_common_11 : decode yX12_common.2.1 11 = .ok (.iload_n 3, 1) := by decide +kernel
theorem dX12_common_12 : decode yX12_common.2.1 12 = .ok (.ireturn, 1) := by decide +kernel
theorem dX12_common_13 : decode yX12_common.2.1 13 = .ok (.aload_n 0, 1) := by decide +kernel
theorem dX12_common_14 : decode yX12_common.2.1 14 = .ok (.invokevirtual 283, 3) := by decide +kernel
theorem dX12_common_17 : decode yX12_common.2.1 17 = .ok (.iconst 1, 1) := by decide +kernel
theorem dX12_common_18 : decode yX12_common.2.1 18 = .ok (.isub, 1) := by decide +kernel
theorem dX12_common_19 : decode yX12_common.2.1 19 = .ok (.istore 4, 2) := by decide +kernel
theorem dX12_common_21 : decode yX12_common.2.1 21 = .ok (.iload 4, 2) := by decide +kernel
theorem dX12_common_23 : decode yX12_common.2.1 23 = .ok (.ifCond .lt 95, 3) := by decide +kernel
theorem dX12_common_26 : decode yX12_common.2.1 26 = .ok (.aload_n 0, 1) := by decide +kernel
theorem dX12_common_27 : decode yX12_common.2.1 27 = .ok (.getfield 88, 3) := by decide +kernel
theorem dX12_common_30 : decode yX12_common.2.1 30 = .ok (.iload 4, 2) := by decide +kernel
theorem dX12_common_32 : decode yX12_common.2.1 32 = .ok (.iconst 0, 1) := by decide +kernel
theorem dX12_common_33 : decode yX12_common.2.1 33 = .ok (.iastore, 1) := by decide +kernel
theorem dX12_common_34 : decode yX12_common.2.1 34 = .ok (.iconst 0, 1) := by decide +kernel
theorem dX12_common_35 : decode yX12_common.2.1 35 = .ok (.istore 5, 2) := by decide +kernel
theorem dX12_common_37 : decode yX12_common.2.1 37 = .ok (.iload 5, 2) := by decide +kernel
theorem dX12_common_39 : decode yX12_common.2.1 39 = .ok (.aload_n 0, 1) := by decide +kernel
theorem dX12_common_40 : decode yX12_common.2.1 40 = .ok (.getfield 110, 3) := by decide +kernel
theorem dX12_common_43 : decode yX12_common.2.1 43 = .ok (.if_icmp .ge 69, 3) := by decide +kernel
theorem dX12_common_46 : decode yX12_common.2.1 46 = .ok (.aload_n 0, 1) := by decide +kernel
theorem dX12_common_47 : decode yX12_common.2.1 47 = .ok (.iload 4, 2) := by decide +kernel
theorem dX12_common_49 : decode yX12_common.2.1 49 = .ok (.iload 5, 2) := by decide +kernel
theorem dX12_common_51 : decode yX12_common.2.1 51 = .ok (.invokevirtual 286, 3) := by decide +kernel
theorem dX12_common_54 : decode yX12_common.2.1 54 = .ok (.istore 6, 2) := by decide +kernel
theorem dX12_common_56 : decode yX12_common.2.1 56 = .ok (.aload_n 0, 1) := by decide +kernel
theorem dX12_common_57 : decode yX12_common.2.1 57 = .ok (.getfield 88, 3) := by decide +kernel
theorem dX12_common_60 : decode yX12_common.2.1 60 = .ok (.iload 4, 2) := by decide +kernel
theorem dX12_common_62 : decode yX12_common.2.1 62 = .ok (.iload 6, 2) := by decide +kernel
theorem dX12_common_64 : decode yX12_common.2.1 64 = .ok (.ifCond .lt 34, 3) := by decide +kernel
theorem dX12_common_67 : decode yX12_common.2.1 67 = .ok (.aload_n 0, 1) := by decide +kernel
theorem dX12_common_68 : decode yX12_common.2.1 68 = .ok (.getfield 88, 3) := by decide +kernel
theorem dX12_common_71 : decode yX12_common.2.1 71 = .ok (.iload 6, 2) := by decide +kernel
theorem dX12_common_73 : decode yX12_common.2.1 73 = .ok (.iaload, 1) := by decide +kernel
theorem dX12_common_74 : decode yX12_common.2.1 74 = .ok (.iconst 1, 1) := by decide +kernel
theorem dX12_common_75 : decode yX12_common.2.1 75 = .ok (.iadd, 1) := by decide +kernel
theorem dX12_common_76 : decode yX12_common.2.1 76 = .ok (.aload_n 0, 1) := by decide +kernel
theorem dX12_common_77 : decode yX12_common.2.1 77 = .ok (.getfield 88, 3) := by decide +kernel
theorem dX12_common_80 : decode yX12_common.2.1 80 = .ok (.iload 4, 2) := by decide +kernel
theorem dX12_common_82 : decode yX12_common.2.1 82 = .ok (.iaload, 1) := by decide +kernel
theorem dX12_common_83 : decode yX12_common.2.1 83 = .ok (.if_icmp .le 15, 3) := by decide +kernel
theorem dX12_common_86 : decode yX12_common.2.1 86 = .ok (.aload_n 0, 1) := by decide +kernel
theorem dX12_common_87 : decode yX12_common.2.1 87 = .ok (.getfield 88, 3) := by decide +kernel
theorem dX12_common_90 : decode yX12_common.2.1 90 = .ok (.iload 6, 2) := by decide +kernel
theorem dX12_common_92 : decode yX12_common.2.1 92 = .ok (.iaload, 1) := by decide +kernel
theorem dX12_common_93 : decode yX12_common.2.1 93 = .ok (.iconst 1, 1) := by decide +kernel
theorem dX12_common_94 : decode yX12_common.2.1 94 = .ok (.iadd, 1) := by decide +kernel
theorem dX12_common_95 : decode yX12_common.2.1 95 = .ok (.goto 10, 3) := by decide +kernel
theorem dX12_common_98 : decode yX12_common.2.1 98 = .ok (.aload_n 0, 1) := by decide +kernel
theorem dX12_common_99 : decode yX12_common.2.1 99 = .ok (.getfield 88, 3) := by decide +kernel
theorem dX12_common_102 : decode yX12_common.2.1 102 = .ok (.iload 4, 2) := by decide +kernel
theorem dX12_common_104 : decode yX12_common.2.1 104 = .ok (.iaload, 1) := by decide +kernel
theorem dX12_common_105 : decode yX12_common.2.1 105 = .ok (.iastore, 1) := by decide +kernel
theorem dX12_common_106 : decode yX12_common.2.1 106 = .ok (.iinc 5 1, 3) := by decide +kernel
theorem dX12_common_109 : decode yX12_common.2.1 109 = .ok (.goto (-72), 3) := by decide +kernel
theorem dX12_common_112 : decode yX12_common.2.1 112 = .ok (.iinc 4 (-1), 3) := by decide +kernel
theorem dX12_common_115 : decode yX12_common.2.1 115 = .ok (.goto (-94), 3) := by decide +kernel
theorem dX12_common_118 : decode yX12_common.2.1 118 = .ok (.aload_n 0, 1) := by decide +kernel
theorem dX12_common_119 : decode yX12_common.2.1 119 = .ok (.getfield 88, 3) := by decide +kernel
theorem dX12_common_122 : decode yX12_common.2.1 122 = .ok (.iconst 0, 1) := by decide +kernel
theorem dX12_common_123 : decode yX12_common.2.1 123 = .ok (.iaload, 1) := by decide +kernel
theorem dX12_common_124 : decode yX12_common.2.1 124 = .ok (.istore 4, 2) := by decide +kernel
theorem dX12_common_126 : decode yX12_common.2.1 126 = .ok (.iconst 0, 1) := by decide +kernel
theorem dX12_common_127 : decode yX12_common.2.1 127 = .ok (.istore 5, 2) := by decide +kernel
theorem dX12_common_129 : decode yX12_common.2.1 129 = .ok (.aload_n 0, 1) := by decide +kernel
theorem dX12_common_130 : decode yX12_common.2.1 130 = .ok (.iconst 0, 1) := by decide +kernel
theorem dX12_common_131 : decode yX12_common.2.1 131 = .ok (.putfield 151, 3) := by decide +kernel
theorem dX12_common_134 : decode yX12_common.2.1 134 = .ok (.aload_n 0, 1) := by decide +kernel
theorem dX12_common_135 : decode yX12_common.2.1 135 = .ok (.getfield 151, 3) := by decide +kernel
theorem dX12_common_138 : decode yX12_common.2.1 138 = .ok (.iload 4, 2) := by decide +kernel
theorem dX12_common_140 : decode yX12_common.2.1 140 = .ok (.if_icmp .ge 84, 3) := by decide +kernel
theorem dX12_common_143 : decode yX12_common.2.1 143 = .ok (.iconst 0, 1) := by decide +kernel
theorem dX12_common_144 : decode yX12_common.2.1 144 = .ok (.istore 6, 2) := by decide +kernel
theorem dX12_common_146 : decode yX12_common.2.1 146 = .ok (.aload_n 0, 1) := by decide +kernel
theorem dX12_common_147 : decode yX12_common.2.1 147 = .ok (.iload 5, 2) := by decide +kernel
theorem dX12_common_149 : decode yX12_common.2.1 149 = .ok (.iload 6, 2) := by decide +kernel
theorem dX12_common_151 : decode yX12_common.2.1 151 = .ok (.invokevirtual 286, 3) := by decide +kernel
theorem dX12_common_154 : decode yX12_common.2.1 154 = .ok (.istore 7, 2) := by decide +kernel
theorem dX12_common_156 : decode yX12_common.2.1 156 = .ok (.iload 7, 2) := by decide +kernel
theorem dX12_common_158 : decode yX12_common.2.1 158 = .ok (.ifCond .lt 22, 3) := by decide +kernel
theorem dX12_common_161 : decode yX12_common.2.1 161 = .ok (.aload_n 0, 1) := by decide +kernel
theorem dX12_common_162 : decode yX12_common.2.1 162 = .ok (.getfield 88, 3) := by decide +kernel
theorem dX12_common_165 : decode yX12_common.2.1 165 = .ok (.iload 7, 2) := by decide +kernel
theorem dX12_common_167 : decode yX12_common.2.1 167 = .ok (.iaload, 1) := by decide +kernel
theorem dX12_common_168 : decode yX12_common.2.1 168 = .ok (.iconst 1, 1) := by decide +kernel
theorem dX12_common_169 : decode yX12_common.2.1 169 = .ok (.iadd, 1) := by decide +kernel
theorem dX12_common_170 : decode yX12_common.2.1 170 = .ok (.aload_n 0, 1) := by decide +kernel
theorem dX12_common_171 : decode yX12_common.2.1 171 = .ok (.getfield 88, 3) := by decide +kernel
theorem dX12_common_174 : decode yX12_common.2.1 174 = .ok (.iload 5, 2) := by decide +kernel
theorem dX12_common_176 : decode yX12_common.2.1 176 = .ok (.iaload, 1) := by decide +kernel
theorem dX12_common_177 : decode yX12_common.2.1 177 = .ok (.if_icmp .ge 19, 3) := by decide +kernel
theorem dX12_common_180 : decode yX12_common.2.1 180 = .ok (.iinc 6 1, 3) := by decide +kernel
theorem dX12_common_183 : decode yX12_common.2.1 183 = .ok (.aload_n 0, 1) := by decide +kernel
theorem dX12_common_184 : decode yX12_common.2.1 184 = .ok (.iload 5, 2) := by decide +kernel
theorem dX12_common_186 : decode yX12_common.2.1 186 = .ok (.iload 6, 2) := by decide +kernel
theorem dX12_common_188 : decode yX12_common.2.1 188 = .ok (.invokevirtual 286, 3) := by decide +kernel
theorem dX12_common_191 : decode yX12_common.2.1 191 = .ok (.istore 7, 2) := by decide +kernel
theorem dX12_common_193 : decode yX12_common.2.1 193 = .ok (.goto (-37), 3) := by decide +kernel
theorem dX12_common_196 : decode yX12_common.2.1 196 = .ok (.aload_n 0, 1) := by decide +kernel
theorem dX12_common_197 : decode yX12_common.2.1 197 = .ok (.getfield 44, 3) := by decide +kernel
theorem dX12_common_200 : decode yX12_common.2.1 200 = .ok (.aload_n 0, 1) := by decide +kernel
theorem dX12_common_201 : decode yX12_common.2.1 201 = .ok (.getfield 151, 3) := by decide +kernel
theorem dX12_common_204 : decode yX12_common.2.1 204 = .ok (.iload 6, 2) := by decide +kernel
theorem dX12_common_206 : decode yX12_common.2.1 206 = .ok (.iastore, 1) := by decide +kernel
theorem dX12_common_207 : decode yX12_common.2.1 207 = .ok (.aload_n 0, 1) := by decide +kernel
theorem dX12_common_208 : decode yX12_common.2.1 208 = .ok (.dup, 1) := by decide +kernel
theorem dX12_common_209 : decode yX12_common.2.1 209 = .ok (.getfield 151, 3) := by decide +kernel
theorem dX12_common_212 : decode yX12_common.2.1 212 = .ok (.iconst 1, 1) := by decide +kernel
theorem dX12_common_213 : decode yX12_common.2.1 213 = .ok (.iadd, 1) := by decide +kernel
theorem dX12_common_214 : decode yX12_common.2.1 214 = .ok (.putfield 151, 3) := by decide +kernel
theorem dX12_common_217 : decode yX12_common.2.1 217 = .ok (.iload 7, 2) := by decide +kernel
theorem dX12_common_219 : decode yX12_common.2.1 219 = .ok (.istore 5, 2) := by decide +kernel
theorem dX12_common_221 : decode yX12_common.2.1 221 = .ok (.goto (-87), 3) := by decide +kernel
theorem dX12_common_224 : decode yX12_common.2.1 224 = .ok (.aload_n 0, 1) := by decide +kernel
theorem dX12_common_225 : decode yX12_common.2.1 225 = .ok (.iload_n 2, 1) := by decide +kernel
theorem dX12_common_226 : decode yX12_common.2.1 226 = .ok (.invokevirtual 214, 3) := by decide +kernel
theorem dX12_common_229 : decode yX12_common.2.1 229 = .ok (.iload 4, 2) := by decide +kernel
theorem dX12_common_231 : decode yX12_common.2.1 231 = .ok (.ireturn, 1) := by decide +kernel
theorem dX12_cover_0 : decode yX12_cover.2.1 0 = .ok (.aload_n 0, 1) := by decide +kernel
theorem dX12_cover_1 : decode yX12_cover.2.1 1 = .ok (.iload_n 1, 1) := by decide +kernel
theorem dX12_cover_2 : decode yX12_cover.2.1 2 = .ok (.iload_n 2, 1) := by decide +kernel
theorem dX12_cover_3 : decode yX12_cover.2.1 3 = .ok (.invokevirtual 280, 3) := by decide +kernel
theorem dX12_cover_6 : decode yX12_cover.2.1 6 = .ok (.istore_n 3, 1) := by decide +kernel
theorem dX12_cover_7 : decode yX12_cover.2.1 7 = .ok (.iload_n 3, 1) := by decide +kernel
theorem dX12_cover_8 : decode yX12_cover.2.1 8 = .ok (.ifCond .ge 5, 3) := by decide +kernel
theorem dX12_cover_11 : decode yX12_cover.2.1 11 = .ok (.iload_n 3, 1) := by decide +kernel
theorem dX12_cover_12 : decode yX12_cover.2.1 12 = .ok (.ireturn, 1) := by decide +kernel
theorem dX12_cover_13 : decode yX12_cover.2.1 13 = .ok (.aload_n 0, 1) := by decide +kernel
theorem dX12_cover_14 : decode yX12_cover.2.1 14 = .ok (.invokevirtual 283, 3) := by decide +kernel
theorem dX12_cover_17 : decode yX12_cover.2.1 17 = .ok (.iconst 1, 1) := by decide +kernel
theorem dX12_cover_18 : decode yX12_cover.2.1 18 = .ok (.isub, 1) := by decide +kernel
theorem dX12_cover_19 : decode yX12_cover.2.1 19 = .ok (.istore 4, 2) := by decide +kernel
theorem dX12_cover_21 : decode yX12_cover.2.1 21 = .ok (.iload 4, 2) := by decide +kernel
theorem dX12_cover_23 : decode yX12_cover.2.1 23 = .ok (.istore 5, 2) := by decide +kernel
theorem dX12_cover_25 : decode yX12_cover.2.1 25 = .ok (.iload 5, 2) := by decide +kernel
theorem dX12_cover_27 : decode yX12_cover.2.1 27 = .ok (.ifCond .lt 108, 3) := by decide +kernel
theorem dX12_cover_30 : decode yX12_cover.2.1 30 = .ok (.aload_n 0, 1) := by decide +kernel
theorem dX12_cover_31 : decode yX12_cover.2.1 31 = .ok (.getfield 88, 3) := by decide +kernel
theorem dX12_cover_34 : decode yX12_cover.2.1 34 = .ok (.iload 5, 2) := by decide +kernel
theorem dX12_cover_36 : decode yX12_cover.2.1 36 = .ok (.iload 5, 2) := by decide +kernel
theorem dX12_cover_38 : decode yX12_cover.2.1 38 = .ok (.iload 4, 2) := by decide +kernel
theorem dX12_cover_40 : decode yX12_cover.2.1 40 = .ok (.if_icmp .ne 7, 3) := by decide +kernel
theorem dX12_cover_43 : decode yX12_cover.2.1 43 = .ok (.iconst 0, 1) := by decide +kernel
theorem dX12_cover_44 : decode yX12_cover.2.1 44 = .ok (.goto 6, 3) := by decide +kernel
theorem dX12_cover_47 : decode yX12_cover.2.1 47 = .ok (.sipush 1000, 3) := by decide +kernel
theorem dX12_cover_50 : decode yX12_cover.2.1 50 = .ok (.iastore, 1) := by decide +kernel
theorem dX12_cover_51 : decode yX12_cover.2.1 51 = .ok (.iconst 0, 1) := by decide +kernel
theorem dX12_cover_52 : decode yX12_cover.2.1 52 = .ok (.istore 6, 2) := by decide +kernel
theorem dX12_cover_54 : decode yX12_cover.2.1 54 = .ok (.iload 6, 2) := by decide +kernel
theorem dX12_cover_56 : decode yX12_cover.2.1 56 = .ok (.aload_n 0, 1) := by decide +kernel
theorem dX12_cover_57 : decode yX12_cover.2.1 57 = .ok (.getfield 110, 3) := by decide +kernel
theorem dX12_cover_60 : decode yX12_cover.2.1 60 = .ok (.if_icmp .ge 69, 3) := by decide +kernel
theorem dX12_cover_63 : decode yX12_cover.2.1 63 = .ok (.aload_n 0, 1) := by decide +kernel
theorem dX12_cover_64 : decode yX12_cover.2.1 64 = .ok (.iload 5, 2) := by decide +kernel
theorem dX12_cover_66 : decode yX12_cover.2.1 66 = .ok (.iload 6, 2) := by decide +kernel
theorem dX12_cover_68 : decode yX12_cover.2.1 68 = .ok (.invokevirtual 289, 3) := by decide +kernel
theorem dX12_cover_71 : decode yX12_cover.2.1 71 = .ok (.istore 7, 2) := by decide +kernel
theorem dX12_cover_73 : decode yX12_cover.2.1 73 = .ok (.aload_n 0, 1) := by decide +kernel
theorem dX12_cover_74 : decode yX12_cover.2.1 74 = .ok (.getfield 88, 3) := by decide +kernel
theorem dX12_cover_77 : decode yX12_cover.2.1 77 = .ok (.iload 5, 2) := by decide +kernel
theorem dX12_cover_79 : decode yX12_cover.2.1 79 = .ok (.iload 7, 2) := by decide +kernel
theorem dX12_cover_81 : decode yX12_cover.2.1 81 = .ok (.ifCond .lt 34, 3) := by decide +kernel
theorem dX12_cover_84 : decode yX12_cover.2.1 84 = .ok (.aload_n 0, 1) := by decide +kernel
theorem dX12_cover_85 : decode yX12_cover.2.1 85 = .ok (.getfield 88, 3) := by decide +kernel
theorem dX12_cover_88 : decode yX12_cover.2.1 88 = .ok (.iload 7, 2) := by decide +kernel
theorem dX12_cover_90 : decode yX12_cover.2.1 90 = .ok (.iaload, 1) := by decide +kernel
theorem dX12_cover_91 : decode yX12_cover.2.1 91 = .ok (.iconst 1, 1) := by decide +kernel
theorem dX12_cover_92 : decode yX12_cover.2.1 92 = .ok (.iadd, 1) := by decide +kernel
theorem dX12_cover_93 : decode yX12_cover.2.1 93 = .ok (.aload_n 0, 1) := by decide +kernel
theorem dX12_cover_94 : decode yX12_cover.2.1 94 = .ok (.getfield 88, 3) := by decide +kernel
theorem dX12_cover_97 : decode yX12_cover.2.1 97 = .ok (.iload 5, 2) := by decide +kernel
theorem dX12_cover_99 : decode yX12_cover.2.1 99 = .ok (.iaload, 1) := by decide +kernel
theorem dX12_cover_100 : decode yX12_cover.2.1 100 = .ok (.if_icmp .ge 15, 3) := by decide +kernel
theorem dX12_cover_103 : decode yX12_cover.2.1 103 = .ok (.aload_n 0, 1) := by decide +kernel
theorem dX12_cover_104 : decode yX12_cover.2.1 104 = .ok (.getfield 88, 3) := by decide +kernel
theorem dX12_cover_107 : decode yX12_cover.2.1 107 = .ok (.iload 7, 2) := by decide +kernel
theorem dX12_cover_109 : decode yX12_cover.2.1 109 = .ok (.iaload, 1) := by decide +kernel
theorem dX12_cover_110 : decode yX12_cover.2.1 110 = .ok (.iconst 1, 1) := by decide +kernel
theorem dX12_cover_111 : decode yX12_cover.2.1 111 = .ok (.iadd, 1) := by decide +kernel
theorem dX12_cover_112 : decode yX12_cover.2.1 112 = .ok (.goto 10, 3) := by decide +kernel
theorem dX12_cover_115 : decode yX12_cover.2.1 115 = .ok (.aload_n 0, 1) := by decide +kernel
theorem dX12_cover_116 : decode yX12_cover.2.1 116 = .ok (.getfield 88, 3) := by decide +kernel
theorem dX12_cover_119 : decode yX12_cover.2.1 119 = .ok (.iload 5, 2) := by decide +kernel
theorem dX12_cover_121 : decode yX12_cover.2.1 121 = .ok (.iaload, 1) := by decide +kernel
theorem dX12_cover_122 : decode yX12_cover.2.1 122 = .ok (.iastore, 1) := by decide +kernel
theorem dX12_cover_123 : decode yX12_cover.2.1 123 = .ok (.iinc 6 1, 3) := by decide +kernel
theorem dX12_cover_126 : decode yX12_cover.2.1 126 = .ok (.goto (-72), 3) := by decide +kernel
theorem dX12_cover_129 : decode yX12_cover.2.1 129 = .ok (.iinc 5 (-1), 3) := by decide +kernel
theorem dX12_cover_132 : decode yX12_cover.2.1 132 = .ok (.goto (-107), 3) := by decide +kernel
theorem dX12_cover_135 : decode yX12_cover.2.1 135 = .ok (.aload_n 0, 1) := by decide +kernel
theorem dX12_cover_136 : decode yX12_cover.2.1 136 = .ok (.getfield 88, 3) := by decide +kernel
theorem dX12_cover_139 : decode yX12_cover.2.1 139 = .ok (.iconst 0, 1) := by decide +kernel
theorem dX12_cover_140 : decode yX12_cover.2.1 140 = .ok (.iaload, 1) := by decide +kernel
theorem dX12_cover_141 : decode yX12_cover.2.1 141 = .ok (.istore 5, 2) := by decide +kernel
theorem dX12_cover_143 : decode yX12_cover.2.1 143 = .ok (.iconst 0, 1) := by decide +kernel
theorem dX12_cover_144 : decode yX12_cover.2.1 144 = .ok (.istore 6, 2) := by decide +kernel
theorem dX12_cover_146 : decode yX12_cover.2.1 146 = .ok (.iconst 0, 1) := by decide +kernel
theorem dX12_cover_147 : decode yX12_cover.2.1 147 = .ok (.istore 7, 2) := by decide +kernel
theorem dX12_cover_149 : decode yX12_cover.2.1 149 = .ok (.iload 7, 2) := by decide +kernel
theorem dX12_cover_151 : decode yX12_cover.2.1 151 = .ok (.iload 5, 2) := by decide +kernel
theorem dX12_cover_153 : decode yX12_cover.2.1 153 = .ok (.if_icmp .ge 82, 3) := by decide +kernel
theorem dX12_cover_156 : decode yX12_cover.2.1 156 = .ok (.iconst 0, 1) := by decide +kernel
theorem dX12_cover_157 : decode yX12_cover.2.1 157 = .ok (.istore 8, 2) := by decide +kernel
theorem dX12_cover_159 : decode yX12_cover.2.1 159 = .ok (.aload_n 0, 1) := by decide +kernel
theorem dX12_cover_160 : decode yX12_cover.2.1 160 = .ok (.iload 6, 2) := by decide +kernel
theorem dX12_cover_162 : decode yX12_cover.2.1 162 = .ok (.iload 8, 2) := by decide +kernel
theorem dX12_cover_164 : decode yX12_cover.2.1 164 = .ok (.invokevirtual 289, 3) := by decide +kernel
theorem dX12_cover_167 : decode yX12_cover.2.1 167 = .ok (.istore 9, 2) := by decide +kernel
theorem dX12_cover_169 : decode yX12_cover.2.1 169 = .ok (.iload 9, 2) := by decide +kernel
theorem dX12_cover_171 : decode yX12_cover.2.1 171 = .ok (.ifCond .lt 22, 3) := by decide +kernel
theorem dX12_cover_174 : decode yX12_cover.2.1 174 = .ok (.aload_n 0, 1) := by decide +kernel
theorem dX12_cover_175 : decode yX12_cover.2.1 175 = .ok (.getfield 88, 3) := by decide +kernel
theorem dX12_cover_178 : decode yX12_cover.2.1 178 = .ok (.iload 9, 2) := by decide +kernel
theorem dX12_cover_180 : decode yX12_cover.2.1 180 = .ok (.iaload, 1) := by decide +kernel
theorem dX12_cover_181 : decode yX12_cover.2.1 181 = .ok (.iconst 1, 1) := by decide +kernel
theorem dX12_cover_182 : decode yX12_cover.2.1 182 = .ok (.iadd, 1) := by decide +kernel
theorem dX12_cover_183 : decode yX12_cover.2.1 183 = .ok (.aload_n 0, 1) := by decide +kernel
theorem dX12_cover_184 : decode yX12_cover.2.1 184 = .ok (.getfield 88, 3) := by decide +kernel
theorem dX12_cover_187 : decode yX12_cover.2.1 187 = .ok (.iload 6, 2) := by decide +kernel
theorem dX12_cover_189 : decode yX12_cover.2.1 189 = .ok (.iaload, 1) := by decide +kernel
theorem dX12_cover_190 : decode yX12_cover.2.1 190 = .ok (.if_icmp .le 19, 3) := by decide +kernel
theorem dX12_cover_193 : decode yX12_cover.2.1 193 = .ok (.iinc 8 1, 3) := by decide +kernel
theorem dX12_cover_196 : decode yX12_cover.2.1 196 = .ok (.aload_n 0, 1) := by decide +kernel
theorem dX12_cover_197 : decode yX12_cover.2.1 197 = .ok (.iload 6, 2) := by decide +kernel
theorem dX12_cover_199 : decode yX12_cover.2.1 199 = .ok (.iload 8, 2) := by decide +kernel
theorem dX12_cover_201 : decode yX12_cover.2.1 201 = .ok (.invokevirtual 289, 3) := by decide +kernel
theorem dX12_cover_204 : decode yX12_cover.2.1 204 = .ok (.istore 9, 2) := by decide +kernel
theorem dX12_cover_206 : decode yX12_cover.2.1 206 = .ok (.goto (-37), 3) := by decide +kernel
theorem dX12_cover_209 : decode yX12_cover.2.1 209 = .ok (.iload 7, 2) := by decide +kernel
theorem dX12_cover_211 : decode yX12_cover.2.1 211 = .ok (.bipush 40, 2) := by decide +kernel
theorem dX12_cover_213 : decode yX12_cover.2.1 213 = .ok (.if_icmp .ge 12, 3) := by decide +kernel
theorem dX12_cover_216 : decode yX12_cover.2.1 216 = .ok (.aload_n 0, 1) := by decide +kernel
theorem dX12_cover_217 : decode yX12_cover.2.1 217 = .ok (.getfield 44, 3) := by decide +kernel
theorem dX12_cover_220 : decode yX12_cover.2.1 220 = .ok (.iload 7, 2) := by decide +kernel
theorem dX12_cover_222 : decode yX12_cover.2.1 222 = .ok (.iload 8, 2) := by decide +kernel
theorem dX12_cover_224 : decode yX12_cover.2.1 224 = .ok (.iastore, 1) := by decide +kernel
theorem dX12_cover_225 : decode yX12_cover.2.1 225 = .ok (.iload 9, 2) := by decide +kernel
theorem dX12_cover_227 : decode yX12_cover.2.1 227 = .ok (.istore 6, 2) := by decide +kernel
theorem dX12_cover_229 : decode yX12_cover.2.1 229 = .ok (.iinc 7 1, 3) := by decide +kernel
theorem dX12_cover_232 : decode yX12_cover.2.1 232 = .ok (.goto (-83), 3) := by decide +kernel
theorem dX12_cover_235 : decode yX12_cover.2.1 235 = .ok (.aload_n 0, 1) := by decide +kernel
theorem dX12_cover_236 : decode yX12_cover.2.1 236 = .ok (.iload 5, 2) := by decide +kernel
theorem dX12_cover_238 : decode yX12_cover.2.1 238 = .ok (.bipush 40, 2) := by decide +kernel
theorem dX12_cover_240 : decode yX12_cover.2.1 240 = .ok (.if_icmp .le 8, 3) := by decide +kernel
theorem dX12_cover_243 : decode yX12_cover.2.1 243 = .ok (.bipush 40, 2) := by decide +kernel
theorem dX12_cover_245 : decode yX12_cover.2.1 245 = .ok (.goto 5, 3) := by decide +kernel
theorem dX12_cover_248 : decode yX12_cover.2.1 248 = .ok (.iload 5, 2) := by decide +kernel
theorem dX12_cover_250 : decode yX12_cover.2.1 250 = .ok (.putfield 151, 3) := by decide +kernel
theorem dX12_cover_253 : decode yX12_cover.2.1 253 = .ok (.aload_n 0, 1) := by decide +kernel
theorem dX12_cover_254 : decode yX12_cover.2.1 254 = .ok (.iload_n 2, 1) := by decide +kernel
theorem dX12_cover_255 : decode yX12_cover.2.1 255 = .ok (.invokevirtual 214, 3) := by decide +kernel
theorem dX12_cover_258 : decode yX12_cover.2.1 258 = .ok (.iload 5, 2) := by decide +kernel
theorem dX12_cover_260 : decode yX12_cover.2.1 260 = .ok (.ireturn, 1) := by decide +kernel
theorem dX12_both_0 : decode yX12_both.2.1 0 = .ok (.aload_n 0, 1) := by decide +kernel
theorem dX12_both_1 : decode yX12_both.2.1 1 = .ok (.iconst 1, 1) := by decide +kernel
theorem dX12_both_2 : decode yX12_both.2.1 2 = .ok (.iload_n 1, 1) := by decide +kernel
theorem dX12_both_3 : decode yX12_both.2.1 3 = .ok (.iload_n 2, 1) := by decide +kernel
theorem dX12_both_4 : decode yX12_both.2.1 4 = .ok (.invokevirtual 188, 3) := by decide +kernel
theorem dX12_both_7 : decode yX12_both.2.1 7 = .ok (.istore_n 3, 1) := by decide +kernel
theorem dX12_both_8 : decode yX12_both.2.1 8 = .ok (.iload_n 3, 1) := by decide +kernel
theorem dX12_both_9 : decode yX12_both.2.1 9 = .ok (.ifCond .ge 5, 3) := by decide +kernel
theorem dX12_both_12 : decode yX12_both.2.1 12 = .ok (.iload_n 3, 1) := by decide +kernel
theorem dX12_both_13 : decode yX12_both.2.1 13 = .ok (.ireturn, 1) := by decide +kernel
theorem dX12_both_14 : decode yX12_both.2.1 14 = .ok (.aload_n 0, 1) := by decide +kernel
theorem dX12_both_15 : decode yX12_both.2.1 15 = .ok (.getfield 29, 3) := by decide +kernel
theorem dX12_both_18 : decode yX12_both.2.1 18 = .ok (.iload_n 1, 1) := by decide +kernel
theorem dX12_both_19 : decode yX12_both.2.1 19 = .ok (.iaload, 1) := by decide +kernel
theorem dX12_both_20 : decode yX12_both.2.1 20 = .ok (.istore 4, 2) := by decide +kernel
theorem dX12_both_22 : decode yX12_both.2.1 22 = .ok (.iload 4, 2) := by decide +kernel
theorem dX12_both_24 : decode yX12_both.2.1 24 = .ok (.ifCond .lt 133, 3) := by decide +kernel
theorem dX12_both_27 : decode yX12_both.2.1 27 = .ok (.aload_n 0, 1) := by decide +kernel
theorem dX12_both_28 : decode yX12_both.2.1 28 = .ok (.getfield 29, 3) := by decide +kernel
theorem dX12_both_31 : decode yX12_both.2.1 31 = .ok (.iload_n 2, 1) := by decide +kernel
theorem dX12_both_32 : decode yX12_both.2.1 32 = .ok (.iaload, 1) := by decide +kernel
theorem dX12_both_33 : decode yX12_both.2.1 33 = .ok (.istore 5, 2) := by decide +kernel
theorem dX12_both_35 : decode yX12_both.2.1 35 = .ok (.iload 5, 2) := by decide +kernel
theorem dX12_both_37 : decode yX12_both.2.1 37 = .ok (.ifCond .lt 114, 3) := by decide +kernel
theorem dX12_both_40 : decode yX12_both.2.1 40 = .ok (.aload_n 0, 1) := by decide +kernel
theorem dX12_both_41 : decode yX12_both.2.1 41 = .ok (.getfield 94, 3) := by decide +kernel
theorem dX12_both_44 : decode yX12_both.2.1 44 = .ok (.bipush 41, 2) := by decide +kernel
theorem dX12_both_46 : decode yX12_both.2.1 46 = .ok (.iload 4, 2) := by decide +kernel
theorem dX12_both_48 : decode yX12_both.2.1 48 = .ok (.imul, 1) := by decide +kernel
theorem dX12_both_49 : decode yX12_both.2.1 49 = .ok (.iload 5, 2) := by decide +kernel
theorem dX12_both_51 : decode yX12_both.2.1 51 = .ok (.iadd, 1) := by decide +kernel
theorem dX12_both_52 : decode yX12_both.2.1 52 = .ok (.lconst 1, 1) := by decide +kernel
theorem dX12_both_53 : decode yX12_both.2.1 53 = .ok (.lastore, 1) := by decide +kernel
theorem dX12_both_54 : decode yX12_both.2.1 54 = .ok (.iconst 0, 1) := by decide +kernel
theorem dX12_both_55 : decode yX12_both.2.1 55 = .ok (.istore 6, 2) := by decide +kernel
theorem dX12_both_57 : decode yX12_both.2.1 57 = .ok (.iload 6, 2) := by decide +kernel
theorem dX12_both_59 : decode yX12_both.2.1 59 = .ok (.aload_n 0, 1) := by decide +kernel
theorem dX12_both_60 : decode yX12_both.2.1 60 = .ok (.getfield 110, 3) := by decide +kernel
theorem dX12_both_63 : decode yX12_both.2.1 63 = .ok (.if_icmp .ge 82, 3) := by decide +kernel
theorem dX12_both_66 : decode yX12_both.2.1 66 = .ok (.aload_n 0, 1) := by decide +kernel
theorem dX12_both_67 : decode yX12_both.2.1 67 = .ok (.iload_n 1, 1) := by decide +kernel
theorem dX12_both_68 : decode yX12_both.2.1 68 = .ok (.iload 4, 2) := by decide +kernel
theorem dX12_both_70 : decode yX12_both.2.1 70 = .ok (.iload 6, 2) := by decide +kernel
theorem dX12_both_72 : decode yX12_both.2.1 72 = .ok (.invokevirtual 206, 3) := by decide +kernel
theorem dX12_both_75 : decode yX12_both.2.1 75 = .ok (.istore 7, 2) := by decide +kernel
theorem dX12_both_77 : decode yX12_both.2.1 77 = .ok (.aload_n 0, 1) := by decide +kernel
theorem dX12_both_78 : decode yX12_both.2.1 78 = .ok (.iload_n 2, 1) := by decide +kernel
theorem dX12_both_79 : decode yX12_both.2.1 79 = .ok (.iload 5, 2) := by decide +kernel
theorem dX12_both_81 : decode yX12_both.2.1 81 = .ok (.iload 6, 2) := by decide +kernel
theorem dX12_both_83 : decode yX12_both.2.1 83 = .ok (.invokevirtual 206, 3) := by decide +kernel
theorem dX12_both_86 : decode yX12_both.2.1 86 = .ok (.istore 8, 2) := by decide +kernel
theorem dX12_both_88 : decode yX12_both.2.1 88 = .ok (.aload_n 0, 1) := by decide +kernel
theorem dX12_both_89 : decode yX12_both.2.1 89 = .ok (.getfield 94, 3) := by decide +kernel
theorem dX12_both_92 : decode yX12_both.2.1 92 = .ok (.bipush 41, 2) := by decide +kernel
theorem dX12_both_94 : decode yX12_both.2.1 94 = .ok (.iload 4, 2) := by decide +kernel
theorem dX12_both_96 : decode yX12_both.2.1 96 = .ok (.imul, 1) := by decide +kernel
theorem dX12_both_97 : decode yX12_both.2.1 97 = .ok (.iload 5, 2) := by decide +kernel
theorem dX12_both_99 : decode yX12_both.2.1 99 = .ok (.iadd, 1) := by decide +kernel
theorem dX12_both_100 : decode yX12_both.2.1 100 = .ok (.dup2, 1) := by decide +kernel
theorem dX12_both_101 : decode yX12_both.2.1 101 = .ok (.laload, 1) := by decide +kernel
theorem dX12_both_102 : decode yX12_both.2.1 102 = .ok (.iload 7, 2) := by decide +kernel
theorem dX12_both_104 : decode yX12_both.2.1 104 = .ok (.bipush (-9), 2) := by decide +kernel
theorem dX12_both_106 : decode yX12_both.2.1 106 = .ok (.if_icmp .eq 10, 3) := by decide +kernel
theorem dX12_both_109 : decode yX12_both.2.1 109 = .ok (.iload 8, 2) := by decide +kernel
theorem dX12_both_111 : decode yX12_both.2.1 111 = .ok (.bipush (-9), 2) := by decide +kernel
theorem dX12_both_113 : decode yX12_both.2.1 113 = .ok (.if_icmp .ne 7, 3) := by decide +kernel
theorem dX12_both_116 : decode yX12_both.2.1 116 = .ok (.lconst 0, 1) := by decide +kernel
theorem dX12_both_117 : decode yX12_both.2.1 117 = .ok (.goto 20, 3) := by decide +kernel
theorem dX12_both_120 : decode yX12_both.2.1 120 = .ok (.aload_n 0, 1) := by decide +kernel
theorem dX12_both_121 : decode yX12_both.2.1 121 = .ok (.getfield 94, 3) := by decide +kernel
theorem dX12_both_124 : decode yX12_both.2.1 124 = .ok (.bipush 41, 2) := by decide +kernel
theorem dX12_both_126 : decode yX12_both.2.1 126 = .ok (.iload 7, 2) := by decide +kernel
theorem dX12_both_128 : decode yX12_both.2.1 128 = .ok (.iconst 1, 1) := by decide +kernel
theorem dX12_both_129 : decode yX12_both.2.1 129 = .ok (.iadd, 1) := by decide +kernel
theorem dX12_both_130 : decode yX12_both.2.1 130 = .ok (.imul, 1) := by decide +kernel
theorem dX12_both_131 : decode yX12_both.2.1 131 = .ok (.iload 8, 2) := by decide +kernel
theorem dX12_both_133 : decode yX12_both.2.1 133 = .ok (.iadd, 1) := by decide +kernel
theorem dX12_both_134 : decode yX12_both.2.1 134 = .ok (.iconst 1, 1) := by decide +kernel
theorem dX12_both_135 : decode yX12_both.2.1 135 = .ok (.iadd, 1) := by decide +kernel
theorem dX12_both_136 : decode yX12_both.2.1 136 = .ok (.laload, 1) := by decide +kernel
theorem dX12_both_137 : decode yX12_both.2.1 137 = .ok (.ladd, 1) := by decide +kernel
theorem dX12_both_138 : decode yX12_both.2.1 138 = .ok (.lastore, 1) := by decide +kernel
theorem dX12_both_139 : decode yX12_both.2.1 139 = .ok (.iinc 6 1, 3) := by decide +kernel
theorem dX12_both_142 : decode yX12_both.2.1 142 = .ok (.goto (-85), 3) := by decide +kernel
theorem dX12_both_145 : decode yX12_both.2.1 145 = .ok (.iinc 5 (-1), 3) := by decide +kernel
theorem dX12_both_148 : decode yX12_both.2.1 148 = .ok (.goto (-113), 3) := by decide +kernel
theorem dX12_both_151 : decode yX12_both.2.1 151 = .ok (.iinc 4 (-1), 3) := by decide +kernel
theorem dX12_both_154 : decode yX12_both.2.1 154 = .ok (.goto (-132), 3) := by decide +kernel
theorem dX12_both_157 : decode yX12_both.2.1 157 = .ok (.aload_n 0, 1) := by decide +kernel
theorem dX12_both_158 : decode yX12_both.2.1 158 = .ok (.aload_n 0, 1) := by decide +kernel
theorem dX12_both_159 : decode yX12_both.2.1 159 = .ok (.getfield 94, 3) := by decide +kernel
theorem dX12_both_162 : decode yX12_both.2.1 162 = .ok (.iconst 0, 1) := by decide +kernel
theorem dX12_both_163 : decode yX12_both.2.1 163 = .ok (.laload, 1) := by decide +kernel
theorem dX12_both_164 : decode yX12_both.2.1 164 = .ok (.iconst 1, 1) := by decide +kernel
theorem dX12_both_165 : decode yX12_both.2.1 165 = .ok (.invokevirtual 202, 3) := by decide +kernel
theorem dX12_both_168 : decode yX12_both.2.1 168 = .ok (.ireturn, 1) := by decide +kernel
theorem dX12_oftenIn_0 : decode yX12_oftenIn.2.1 0 = .ok (.iconst 0, 1) := by decide +kernel
theorem dX12_oftenIn_1 : decode yX12_oftenIn.2.1 1 = .ok (.istore 4, 2) := by decide +kernel
theorem dX12_oftenIn_3 : decode yX12_oftenIn.2.1 3 = .ok (.iload 4, 2) := by decide +kernel
theorem dX12_oftenIn_5 : decode yX12_oftenIn.2.1 5 = .ok (.iload_n 3, 1) := by decide +kernel
theorem dX12_oftenIn_6 : decode yX12_oftenIn.2.1 6 = .ok (.if_icmp .gt 26, 3) := by decide +kernel
theorem dX12_oftenIn_9 : decode yX12_oftenIn.2.1 9 = .ok (.aload_n 0, 1) := by decide +kernel
theorem dX12_oftenIn_10 : decode yX12_oftenIn.2.1 10 = .ok (.getfield 103, 3) := by decide +kernel
theorem dX12_oftenIn_13 : decode yX12_oftenIn.2.1 13 = .ok (.iload 4, 2) := by decide +kernel
theorem dX12_oftenIn_15 : decode yX12_oftenIn.2.1 15 = .ok (.iload 4, 2) := by decide +kernel
theorem dX12_oftenIn_17 : decode yX12_oftenIn.2.1 17 = .ok (.ifCond .ne 7, 3) := by decide +kernel
theorem dX12_oftenIn_20 : decode yX12_oftenIn.2.1 20 = .ok (.lconst 1, 1) := by decide +kernel
theorem dX12_oftenIn_21 : decode yX12_oftenIn.2.1 21 = .ok (.goto 4, 3) := by decide +kernel
theorem dX12_oftenIn_24 : decode yX12_oftenIn.2.1 24 = .ok (.lconst 0, 1) := by decide +kernel
theorem dX12_oftenIn_25 : decode yX12_oftenIn.2.1 25 = .ok (.lastore, 1) := by decide +kernel
theorem dX12_oftenIn_26 : decode yX12_oftenIn.2.1 26 = .ok (.iinc 4 1, 3) := by decide +kernel
theorem dX12_oftenIn_29 : decode yX12_oftenIn.2.1 29 = .ok (.goto (-26), 3) := by decide +kernel
theorem dX12_oftenIn_32 : decode yX12_oftenIn.2.1 32 = .ok (.iconst 0, 1) := by decide +kernel
theorem dX12_oftenIn_33 : decode yX12_oftenIn.2.1 33 = .ok (.istore 4, 2) := by decide +kernel
theorem dX12_oftenIn_35 : decode yX12_oftenIn.2.1 35 = .ok (.iload 4, 2) := by decide +kernel
theorem dX12_oftenIn_37 : decode yX12_oftenIn.2.1 37 = .ok (.iload_n 1, 1) := by decide +kernel
theorem dX12_oftenIn_38 : decode yX12_oftenIn.2.1 38 = .ok (.if_icmp .ge 75, 3) := by decide +kernel
theorem dX12_oftenIn_41 : decode yX12_oftenIn.2.1 41 = .ok (.iload_n 2, 1) := by decide +kernel
theorem dX12_oftenIn_42 : decode yX12_oftenIn.2.1 42 = .ok (.istore 5, 2) := by decide +kernel
theorem dX12_oftenIn_44 : decode yX12_oftenIn.2.1 44 = .ok (.iload_n 3, 1) := by decide +kernel
theorem dX12_oftenIn_45 : decode yX12_oftenIn.2.1 45 = .ok (.istore 6, 2) := by decide +kernel
theorem dX12_oftenIn_47 : decode yX12_oftenIn.2.1 47 = .ok (.iload 6, 2) := by decide +kernel
theorem dX12_oftenIn_49 : decode yX12_oftenIn.2.1 49 = .ok (.ifCond .le 58, 3) := by decide +kernel
theorem dX12_oftenIn_52 : decode yX12_oftenIn.2.1 52 = .ok (.aload_n 0, 1) := by decide +kernel
theorem dX12_oftenIn_53 : decode yX12_oftenIn.2.1 53 = .ok (.getfield 103, 3) := by decide +kernel
theorem dX12_oftenIn_56 : decode yX12_oftenIn.2.1 56 = .ok (.iload 6, 2) := by decide +kernel
theorem dX12_oftenIn_58 : decode yX12_oftenIn.2.1 58 = .ok (.dup2, 1) := by decide +kernel
theorem dX12_oftenIn_59 : decode yX12_oftenIn.2.1 59 = .ok (.laload, 1) := by decide +kernel
theorem dX12_oftenIn_60 : decode yX12_oftenIn.2.1 60 = .ok (.aload_n 0, 1) := by decide +kernel
theorem dX12_oftenIn_61 : decode yX12_oftenIn.2.1 61 = .ok (.getfield 82, 3) := by decide +kernel
theorem dX12_oftenIn_64 : decode yX12_oftenIn.2.1 64 = .ok (.iload 4, 2) := by decide +kernel
theorem dX12_oftenIn_66 : decode yX12_oftenIn.2.1 66 = .ok (.iaload, 1) := by decide +kernel
theorem dX12_oftenIn_67 : decode yX12_oftenIn.2.1 67 = .ok (.iload 5, 2) := by decide +kernel
theorem dX12_oftenIn_69 : decode yX12_oftenIn.2.1 69 = .ok (.aload_n 0, 1) := by decide +kernel
theorem dX12_oftenIn_70 : decode yX12_oftenIn.2.1 70 = .ok (.getfield 110, 3) := by decide +kernel
theorem dX12_oftenIn_73 : decode yX12_oftenIn.2.1 73 = .ok (.irem, 1) := by decide +kernel
theorem dX12_oftenIn_74 : decode yX12_oftenIn.2.1 74 = .ok (.if_icmp .ne 15, 3) := by decide +kernel
theorem dX12_oftenIn_77 : decode yX12_oftenIn.2.1 77 = .ok (.aload_n 0, 1) := by decide +kernel
theorem dX12_oftenIn_78 : decode yX12_oftenIn.2.1 78 = .ok (.getfield 103, 3) := by decide +kernel
theorem dX12_oftenIn_81 : decode yX12_oftenIn.2.1 81 = .ok (.iload 6, 2) := by decide +kernel
theorem dX12_oftenIn_83 : decode yX12_oftenIn.2.1 83 = .ok (.iconst 1, 1) := by decide +kernel
theorem dX12_oftenIn_84 : decode yX12_oftenIn.2.1 84 = .ok (.isub, 1) := by decide +kernel
theorem dX12_oftenIn_85 : decode yX12_oftenIn.2.1 85 = .ok (.laload, 1) := by decide +kernel
theorem dX12_oftenIn_86 : decode yX12_oftenIn.2.1 86 = .ok (.goto 4, 3) := by decide +kernel
theorem dX12_oftenIn_89 : decode yX12_oftenIn.2.1 89 = .ok (.lconst 0, 1) := by decide +kernel
theorem dX12_oftenIn_90 : decode yX12_oftenIn.2.1 90 = .ok (.ladd, 1) := by decide +kernel
theorem dX12_oftenIn_91 : decode yX12_oftenIn.2.1 91 = .ok (.lastore, 1) := by decide +kernel
theorem dX12_oftenIn_92 : decode yX12_oftenIn.2.1 92 = .ok (.iload 5, 2) := by decide +kernel
theorem dX12_oftenIn_94 : decode yX12_oftenIn.2.1 94 = .ok (.aload_n 0, 1) := by decide +kernel
theorem dX12_oftenIn_95 : decode yX12_oftenIn.2.1 95 = .ok (.getfield 110, 3) := by decide +kernel
theorem dX12_oftenIn_98 : decode yX12_oftenIn.2.1 98 = .ok (.idiv, 1) := by decide +kernel
theorem dX12_oftenIn_99 : decode yX12_oftenIn.2.1 99 = .ok (.istore 5, 2) := by decide +kernel
theorem dX12_oftenIn_101 : decode yX12_oftenIn.2.1 101 = .ok (.iinc 6 (-1), 3) := by decide +kernel
theorem dX12_oftenIn_104 : decode yX12_oftenIn.2.1 104 = .ok (.goto (-57), 3) := by decide +kernel
theorem dX12_oftenIn_107 : decode yX12_oftenIn.2.1 107 = .ok (.iinc 4 1, 3) := by decide +kernel
theorem dX12_oftenIn_110 : decode yX12_oftenIn.2.1 110 = .ok (.goto (-75), 3) := by decide +kernel
theorem dX12_oftenIn_113 : decode yX12_oftenIn.2.1 113 = .ok (.aload_n 0, 1) := by decide +kernel
theorem dX12_oftenIn_114 : decode yX12_oftenIn.2.1 114 = .ok (.getfield 103, 3) := by decide +kernel
theorem dX12_oftenIn_117 : decode yX12_oftenIn.2.1 117 = .ok (.iload_n 3, 1) := by decide +kernel
theorem dX12_oftenIn_118 : decode yX12_oftenIn.2.1 118 = .ok (.laload, 1) := by decide +kernel
theorem dX12_oftenIn_119 : decode yX12_oftenIn.2.1 119 = .ok (.lreturn, 1) := by decide +kernel
theorem dX12_isTwin_0 : decode yX12_isTwin.2.1 0 = .ok (.iconst 1, 1) := by decide +kernel
theorem dX12_isTwin_1 : decode yX12_isTwin.2.1 1 = .ok (.istore 4, 2) := by decide +kernel
theorem dX12_isTwin_3 : decode yX12_isTwin.2.1 3 = .ok (.iconst 0, 1) := by decide +kernel
theorem dX12_isTwin_4 : decode yX12_isTwin.2.1 4 = .ok (.istore 5, 2) := by decide +kernel
theorem dX12_isTwin_6 : decode yX12_isTwin.2.1 6 = .ok (.iload 5, 2) := by decide +kernel
theorem dX12_isTwin_8 : decode yX12_isTwin.2.1 8 = .ok (.iload_n 3, 1) := by decide +kernel
theorem dX12_isTwin_9 : decode yX12_isTwin.2.1 9 = .ok (.if_icmp .ge 40, 3) := by decide +kernel
theorem dX12_isTwin_12 : decode yX12_isTwin.2.1 12 = .ok (.iload 4, 2) := by decide +kernel
theorem dX12_isTwin_14 : decode yX12_isTwin.2.1 14 = .ok (.ifCond .eq 35, 3) := by decide +kernel
theorem dX12_isTwin_17 : decode yX12_isTwin.2.1 17 = .ok (.aload_n 0, 1) := by decide +kernel
theorem dX12_isTwin_18 : decode yX12_isTwin.2.1 18 = .ok (.iload_n 1, 1) := by decide +kernel
theorem dX12_isTwin_19 : decode yX12_isTwin.2.1 19 = .ok (.iload 5, 2) := by decide +kernel
theorem dX12_isTwin_21 : decode yX12_isTwin.2.1 21 = .ok (.iload_n 2, 1) := by decide +kernel
theorem dX12_isTwin_22 : decode yX12_isTwin.2.1 22 = .ok (.invokevirtual 292, 3) := by decide +kernel
theorem dX12_isTwin_25 : decode yX12_isTwin.2.1 25 = .ok (.aload_n 0, 1) := by decide +kernel
theorem dX12_isTwin_26 : decode yX12_isTwin.2.1 26 = .ok (.getfield 97, 3) := by decide +kernel
theorem dX12_isTwin_29 : decode yX12_isTwin.2.1 29 = .ok (.iload 5, 2) := by decide +kernel
theorem dX12_isTwin_31 : decode yX12_isTwin.2.1 31 = .ok (.laload, 1) := by decide +kernel
theorem dX12_isTwin_32 : decode yX12_isTwin.2.1 32 = .ok (.lcmp, 1) := by decide +kernel
theorem dX12_isTwin_33 : decode yX12_isTwin.2.1 33 = .ok (.ifCond .ne 7, 3) := by decide +kernel
theorem dX12_isTwin_36 : decode yX12_isTwin.2.1 36 = .ok (.iconst 1, 1) := by decide +kernel
theorem dX12_isTwin_37 : decode yX12_isTwin.2.1 37 = .ok (.goto 4, 3) := by decide +kernel
theorem dX12_isTwin_40 : decode yX12_isTwin.2.1 40 = .ok (.iconst 0, 1) := by decide +kernel
theorem dX12_isTwin_41 : decode yX12_isTwin.2.1 41 = .ok (.istore 4, 2) := by decide +kernel
theorem dX12_isTwin_43 : decode yX12_isTwin.2.1 43 = .ok (.iinc 5 1, 3) := by decide +kernel
theorem dX12_isTwin_46 : decode yX12_isTwin.2.1 46 = .ok (.goto (-40), 3) := by decide +kernel
theorem dX12_isTwin_49 : decode yX12_isTwin.2.1 49 = .ok (.iload 4, 2) := by decide +kernel
theorem dX12_isTwin_51 : decode yX12_isTwin.2.1 51 = .ok (.ireturn, 1) := by decide +kernel
theorem dX12_layOtherBy_0 : decode yX12_layOtherBy.2.1 0 = .ok (.iload_n 1, 1) := by decide +kernel
theorem dX12_layOtherBy_1 : decode yX12_layOtherBy.2.1 1 = .ok (.istore_n 3, 1) := by decide +kernel
theorem dX12_layOtherBy_2 : decode yX12_layOtherBy.2.1 2 = .ok (.iload_n 2, 1) := by decide +kernel
theorem dX12_layOtherBy_3 : decode yX12_layOtherBy.2.1 3 = .ok (.iconst 1, 1) := by decide +kernel
theorem dX12_layOtherBy_4 : decode yX12_layOtherBy.2.1 4 = .ok (.isub, 1) := by decide +kernel
theorem dX12_layOtherBy_5 : decode yX12_layOtherBy.2.1 5 = .ok (.istore 4, 2) := by decide +kernel
theorem dX12_layOtherBy_7 : decode yX12_layOtherBy.2.1 7 = .ok (.iload 4, 2) := by decide +kernel
theorem dX12_layOtherBy_9 : decode yX12_layOtherBy.2.1 9 = .ok (.ifCond .lt 29, 3) := by decide +kernel
theorem dX12_layOtherBy_12 : decode yX12_layOtherBy.2.1 12 = .ok (.aload_n 0, 1) := by decide +kernel
theorem dX12_layOtherBy_13 : decode yX12_layOtherBy.2.1 13 = .ok (.getfield 82, 3) := by decide +kernel
theorem dX12_layOtherBy_16 : decode yX12_layOtherBy.2.1 16 = .ok (.iload 4, 2) := by decide +kernel
theorem dX12_layOtherBy_18 : decode yX12_layOtherBy.2.1 18 = .ok (.iload_n 3, 1) := by decide +kernel
theorem dX12_layOtherBy_19 : decode yX12_layOtherBy.2.1 19 = .ok (.aload_n 0, 1) := by decide +kernel
theorem dX12_layOtherBy_20 : decode yX12_layOtherBy.2.1 20 = .ok (.getfield 110, 3) := by decide +kernel
theorem dX12_layOtherBy_23 : decode yX12_layOtherBy.2.1 23 = .ok (.irem, 1) := by decide +kernel
theorem dX12_layOtherBy_24 : decode yX12_layOtherBy.2.1 24 = .ok (.iastore, 1) := by decide +kernel
theorem dX12_layOtherBy_25 : decode yX12_layOtherBy.2.1 25 = .ok (.iload_n 3, 1) := by decide +kernel
theorem dX12_layOtherBy_26 : decode yX12_layOtherBy.2.1 26 = .ok (.aload_n 0, 1) := by decide +kernel
theorem dX12_layOtherBy_27 : decode yX12_layOtherBy.2.1 27 = .ok (.getfield 110, 3) := by decide +kernel
theorem dX12_layOtherBy_30 : decode yX12_layOtherBy.2.1 30 = .ok (.idiv, 1) := by decide +kernel
theorem dX12_layOtherBy_31 : decode yX12_layOtherBy.2.1 31 = .ok (.istore_n 3, 1) := by decide +kernel
theorem dX12_layOtherBy_32 : decode yX12_layOtherBy.2.1 32 = .ok (.iinc 4 (-1), 3) := by decide +kernel
theorem dX12_layOtherBy_35 : decode yX12_layOtherBy.2.1 35 = .ok (.goto (-28), 3) := by decide +kernel
theorem dX12_layOtherBy_38 : decode yX12_layOtherBy.2.1 38 = .ok (.return_, 1) := by decide +kernel
theorem dX12_twins_0 : decode yX12_twins.2.1 0 = .ok (.aload_n 0, 1) := by decide +kernel
theorem dX12_twins_1 : decode yX12_twins.2.1 1 = .ok (.iload_n 2, 1) := by decide +kernel
theorem dX12_twins_2 : decode yX12_twins.2.1 2 = .ok (.iconst 1, 1) := by decide +kernel
theorem dX12_twins_3 : decode yX12_twins.2.1 3 = .ok (.iconst 3, 1) := by decide +kernel
theorem dX12_twins_4 : decode yX12_twins.2.1 4 = .ok (.invokestatic 117, 3) := by decide +kernel
theorem dX12_twins_7 : decode yX12_twins.2.1 7 = .ok (.ifCond .eq 14, 3) := by decide +kernel
theorem dX12_twins_10 : decode yX12_twins.2.1 10 = .ok (.iload_n 3, 1) := by decide +kernel
theorem dX12_twins_11 : decode yX12_twins.2.1 11 = .ok (.invokestatic 130, 3) := by decide +kernel
theorem dX12_twins_14 : decode yX12_twins.2.1 14 = .ok (.ifCond .eq 7, 3) := by decide +kernel
theorem dX12_twins_17 : decode yX12_twins.2.1 17 = .ok (.iconst 1, 1) := by decide +kernel
theorem dX12_twins_18 : decode yX12_twins.2.1 18 = .ok (.goto 4, 3) := by decide +kernel
theorem dX12_twins_21 : decode yX12_twins.2.1 21 = .ok (.iconst 0, 1) := by decide +kernel
theorem dX12_twins_22 : decode yX12_twins.2.1 22 = .ok (.iload_n 1, 1) := by decide +kernel
theorem dX12_twins_23 : decode yX12_twins.2.1 23 = .ok (.invokevirtual 192, 3) := by decide +kernel
theorem dX12_twins_26 : decode yX12_twins.2.1 26 = .ok (.istore 4, 2) := by decide +kernel
theorem dX12_twins_28 : decode yX12_twins.2.1 28 = .ok (.iload 4, 2) := by decide +kernel
theorem dX12_twins_30 : decode yX12_twins.2.1 30 = .ok (.ifCond .ge 6, 3) := by decide +kernel
theorem dX12_twins_33 : decode yX12_twins.2.1 33 = .ok (.iload 4, 2) := by decide +kernel
theorem dX12_twins_35 : decode yX12_twins.2.1 35 = .ok (.ireturn, 1) := by decide +kernel
theorem dX12_twins_36 : decode yX12_twins.2.1 36 = .ok (.aload_n 0, 1) := by decide +kernel
theorem dX12_twins_37 : decode yX12_twins.2.1 37 = .ok (.getfield 29, 3) := by decide +kernel
theorem dX12_twins_40 : decode yX12_twins.2.1 40 = .ok (.iload_n 1, 1) := by decide +kernel
theorem dX12_twins_41 : decode yX12_twins.2.1 41 = .ok (.iaload, 1) := by decide +kernel
theorem dX12_twins_42 : decode yX12_twins.2.1 42 = .ok (.istore 5, 2) := by decide +kernel
theorem dX12_twins_44 : decode yX12_twins.2.1 44 = .ok (.lconst 1, 1) := by decide +kernel
theorem dX12_twins_45 : decode yX12_twins.2.1 45 = .ok (.lstore 6, 2) := by decide +kernel
theorem dX12_twins_47 : decode yX12_twins.2.1 47 = .ok (.iconst 0, 1) := by decide +kernel
theorem dX12_twins_48 : decode yX12_twins.2.1 48 = .ok (.istore 8, 2) := by decide +kernel
theorem dX12_twins_50 : decode yX12_twins.2.1 50 = .ok (.iload 8, 2) := by decide +kernel
theorem dX12_twins_52 : decode yX12_twins.2.1 52 = .ok (.iload 5, 2) := by decide +kernel
theorem dX12_twins_54 : decode yX12_twins.2.1 54 = .ok (.if_icmp .ge 28, 3) := by decide +kernel
theorem dX12_twins_57 : decode yX12_twins.2.1 57 = .ok (.lload 6, 2) := by decide +kernel
theorem dX12_twins_59 : decode yX12_twins.2.1 59 = .ok (.ldc2_w 296, 3) := by decide +kernel
theorem dX12_twins_62 : decode yX12_twins.2.1 62 = .ok (.lcmp, 1) := by decide +kernel
theorem dX12_twins_63 : decode yX12_twins.2.1 63 = .ok (.ifCond .gt 19, 3) := by decide +kernel
theorem dX12_twins_66 : decode yX12_twins.2.1 66 = .ok (.lload 6, 2) := by decide +kernel
theorem dX12_twins_68 : decode yX12_twins.2.1 68 = .ok (.aload_n 0, 1) := by decide +kernel
theorem dX12_twins_69 : decode yX12_twins.2.1 69 = .ok (.getfield 110, 3) := by decide +kernel
theorem dX12_twins_72 : decode yX12_twins.2.1 72 = .ok (.i2l, 1) := by decide +kernel
theorem dX12_twins_73 : decode yX12_twins.2.1 73 = .ok (.lmul, 1) := by decide +kernel
theorem dX12_twins_74 : decode yX12_twins.2.1 74 = .ok (.lstore 6, 2) := by decide +kernel
theorem dX12_twins_76 : decode yX12_twins.2.1 76 = .ok (.iinc 8 1, 3) := by decide +kernel
theorem dX12_twins_79 : decode yX12_twins.2.1 79 = .ok (.goto (-29), 3) := by decide +kernel
theorem dX12_twins_82 : decode yX12_twins.2.1 82 = .ok (.lload 6, 2) := by decide +kernel
theorem dX12_twins_84 : decode yX12_twins.2.1 84 = .ok (.ldc2_w 296, 3) := by decide +kernel
theorem dX12_twins_87 : decode yX12_twins.2.1 87 = .ok (.lcmp, 1) := by decide +kernel
theorem dX12_twins_88 : decode yX12_twins.2.1 88 = .ok (.ifCond .le 6, 3) := by decide +kernel
theorem dX12_twins_91 : decode yX12_twins.2.1 91 = .ok (.bipush (-6), 2) := by decide +kernel
theorem dX12_twins_93 : decode yX12_twins.2.1 93 = .ok (.ireturn, 1) := by decide +kernel
theorem dX12_twins_94 : decode yX12_twins.2.1 94 = .ok (.aload_n 0, 1) := by decide +kernel
theorem dX12_twins_95 : decode yX12_twins.2.1 95 = .ok (.getfield 110, 3) := by decide +kernel
theorem dX12_twins_98 : decode yX12_twins.2.1 98 = .ok (.i2l, 1) := by decide +kernel
theorem dX12_twins_99 : decode yX12_twins.2.1 99 = .ok (.iload_n 2, 1) := by decide +kernel
theorem dX12_twins_100 : decode yX12_twins.2.1 100 = .ok (.invokestatic 239, 3) := by decide +kernel
theorem dX12_twins_103 : decode yX12_twins.2.1 103 = .ok (.l2i, 1) := by decide +kernel
theorem dX12_twins_104 : decode yX12_twins.2.1 104 = .ok (.istore 8, 2) := by decide +kernel
theorem dX12_twins_106 : decode yX12_twins.2.1 106 = .ok (.aload_n 0, 1) := by decide +kernel
theorem dX12_twins_107 : decode yX12_twins.2.1 107 = .ok (.iload_n 1, 1) := by decide +kernel
theorem dX12_twins_108 : decode yX12_twins.2.1 108 = .ok (.invokevirtual 255, 3) := by decide +kernel
theorem dX12_twins_111 : decode yX12_twins.2.1 111 = .ok (.iconst 0, 1) := by decide +kernel
theorem dX12_twins_112 : decode yX12_twins.2.1 112 = .ok (.istore 9, 2) := by decide +kernel
theorem dX12_twins_114 : decode yX12_twins.2.1 114 = .ok (.iload 9, 2) := by decide +kernel
theorem dX12_twins_116 : decode yX12_twins.2.1 116 = .ok (.iload 8, 2) := by decide +kernel
theorem dX12_twins_118 : decode yX12_twins.2.1 118 = .ok (.if_icmp .ge 25, 3) := by decide +kernel
theorem dX12_twins_121 : decode yX12_twins.2.1 121 = .ok (.aload_n 0, 1) := by decide +kernel
theorem dX12_twins_122 : decode yX12_twins.2.1 122 = .ok (.getfield 97, 3) := by decide +kernel
theorem dX12_twins_125 : decode yX12_twins.2.1 125 = .ok (.iload 9, 2) := by decide +kernel
theorem dX12_twins_127 : decode yX12_twins.2.1 127 = .ok (.aload_n 0, 1) := by decide +kernel
theorem dX12_twins_128 : decode yX12_twins.2.1 128 = .ok (.iload 5, 2) := by decide +kernel
theorem dX12_twins_130 : decode yX12_twins.2.1 130 = .ok (.iload 9, 2) := by decide +kernel
theorem dX12_twins_132 : decode yX12_twins.2.1 132 = .ok (.iload_n 2, 1) := by decide +kernel
theorem dX12_twins_133 : decode yX12_twins.2.1 133 = .ok (.invokevirtual 292, 3) := by decide +kernel
theorem dX12_twins_136 : decode yX12_twins.2.1 136 = .ok (.lastore, 1) := by decide +kernel
theorem dX12_twins_137 : decode yX12_twins.2.1 137 = .ok (.iinc 9 1, 3) := by decide +kernel
theorem dX12_twins_140 : decode yX12_twins.2.1 140 = .ok (.goto (-26), 3) := by decide +kernel
theorem dX12_twins_143 : decode yX12_twins.2.1 143 = .ok (.iconst 0, 1) := by decide +kernel
theorem dX12_twins_144 : decode yX12_twins.2.1 144 = .ok (.istore 9, 2) := by decide +kernel
theorem dX12_twins_146 : decode yX12_twins.2.1 146 = .ok (.iconst 0, 1) := by decide +kernel
theorem dX12_twins_147 : decode yX12_twins.2.1 147 = .ok (.istore 10, 2) := by decide +kernel
theorem dX12_twins_149 : decode yX12_twins.2.1 149 = .ok (.iload 10, 2) := by decide +kernel
theorem dX12_twins_151 : decode yX12_twins.2.1 151 = .ok (.i2l, 1) := by decide +kernel
theorem dX12_twins_152 : decode yX12_twins.2.1 152 = .ok (.lload 6, 2) := by decide +kernel
theorem dX12_twins_154 : decode yX12_twins.2.1 154 = .ok (.lcmp, 1) := by decide +kernel
theorem dX12_twins_155 : decode yX12_twins.2.1 155 = .ok (.ifCond .ge 73, 3) := by decide +kernel
theorem dX12_twins_158 : decode yX12_twins.2.1 158 = .ok (.aload_n 0, 1) := by decide +kernel
theorem dX12_twins_159 : decode yX12_twins.2.1 159 = .ok (.iload 10, 2) := by decide +kernel
theorem dX12_twins_161 : decode yX12_twins.2.1 161 = .ok (.iload 5, 2) := by decide +kernel
theorem dX12_twins_163 : decode yX12_twins.2.1 163 = .ok (.invokevirtual 298, 3) := by decide +kernel
theorem dX12_twins_166 : decode yX12_twins.2.1 166 = .ok (.aload_n 0, 1) := by decide +kernel
theorem dX12_twins_167 : decode yX12_twins.2.1 167 = .ok (.iload 5, 2) := by decide +kernel
theorem dX12_twins_169 : decode yX12_twins.2.1 169 = .ok (.iload_n 2, 1) := by decide +kernel
theorem dX12_twins_170 : decode yX12_twins.2.1 170 = .ok (.iload 8, 2) := by decide +kernel
theorem dX12_twins_172 : decode yX12_twins.2.1 172 = .ok (.invokevirtual 301, 3) := by decide +kernel
theorem dX12_twins_175 : decode yX12_twins.2.1 175 = .ok (.ifCond .eq 47, 3) := by decide +kernel
theorem dX12_twins_178 : decode yX12_twins.2.1 178 = .ok (.aload_n 0, 1) := by decide +kernel
theorem dX12_twins_179 : decode yX12_twins.2.1 179 = .ok (.iload 5, 2) := by decide +kernel
theorem dX12_twins_181 : decode yX12_twins.2.1 181 = .ok (.putfield 151, 3) := by decide +kernel
theorem dX12_twins_184 : decode yX12_twins.2.1 184 = .ok (.iconst 0, 1) := by decide +kernel
theorem dX12_twins_185 : decode yX12_twins.2.1 185 = .ok (.istore 11, 2) := by decide +kernel
theorem dX12_twins_187 : decode yX12_twins.2.1 187 = .ok (.iload 11, 2) := by decide +kernel
theorem dX12_twins_189 : decode yX12_twins.2.1 189 = .ok (.iload 5, 2) := by decide +kernel
theorem dX12_twins_191 : decode yX12_twins.2.1 191 = .ok (.if_icmp .ge 28, 3) := by decide +kernel
theorem dX12_twins_194 : decode yX12_twins.2.1 194 = .ok (.iload 9, 2) := by decide +kernel
theorem dX12_twins_196 : decode yX12_twins.2.1 196 = .ok (.ifCond .ne 23, 3) := by decide +kernel
theorem dX12_twins_199 : decode yX12_twins.2.1 199 = .ok (.aload_n 0, 1) := by decide +kernel
theorem dX12_twins_200 : decode yX12_twins.2.1 200 = .ok (.getfield 44, 3) := by decide +kernel
theorem dX12_twins_203 : decode yX12_twins.2.1 203 = .ok (.iload 11, 2) := by decide +kernel
theorem dX12_twins_205 : decode yX12_twins.2.1 205 = .ok (.aload_n 0, 1) := by decide +kernel
theorem dX12_twins_206 : decode yX12_twins.2.1 206 = .ok (.getfield 82, 3) := by decide +kernel
theorem dX12_twins_209 : decode yX12_twins.2.1 209 = .ok (.iload 11, 2) := by decide +kernel
theorem dX12_twins_211 : decode yX12_twins.2.1 211 = .ok (.iaload, 1) := by decide +kernel
theorem dX12_twins_212 : decode yX12_twins.2.1 212 = .ok (.iastore, 1) := by decide +kernel
theorem dX12_twins_213 : decode yX12_twins.2.1 213 = .ok (.iinc 11 1, 3) := by decide +kernel
theorem dX12_twins_216 : decode yX12_twins.2.1 216 = .ok (.goto (-29), 3) := by decide +kernel
theorem dX12_twins_219 : decode yX12_twins.2.1 219 = .ok (.iinc 9 1, 3) := by decide +kernel
theorem dX12_twins_222 : decode yX12_twins.2.1 222 = .ok (.iinc 10 1, 3) := by decide +kernel
theorem dX12_twins_225 : decode yX12_twins.2.1 225 = .ok (.goto (-76), 3) := by decide +kernel
theorem dX12_twins_228 : decode yX12_twins.2.1 228 = .ok (.aload_n 0, 1) := by decide +kernel
theorem dX12_twins_229 : decode yX12_twins.2.1 229 = .ok (.iload 5, 2) := by decide +kernel
theorem dX12_twins_231 : decode yX12_twins.2.1 231 = .ok (.putfield 151, 3) := by decide +kernel
theorem dX12_twins_234 : decode yX12_twins.2.1 234 = .ok (.aload_n 0, 1) := by decide +kernel
theorem dX12_twins_235 : decode yX12_twins.2.1 235 = .ok (.iload_n 3, 1) := by decide +kernel
theorem dX12_twins_236 : decode yX12_twins.2.1 236 = .ok (.invokevirtual 214, 3) := by decide +kernel
theorem dX12_twins_239 : decode yX12_twins.2.1 239 = .ok (.iload 9, 2) := by decide +kernel
theorem dX12_twins_241 : decode yX12_twins.2.1 241 = .ok (.ireturn, 1) := by decide +kernel
theorem dX12_chosen_0 : decode yX12_chosen.2.1 0 = .ok (.lconst 1, 1) := by decide +kernel
theorem dX12_chosen_1 : decode yX12_chosen.2.1 1 = .ok (.lstore_n 2, 1) := by decide +kernel
theorem dX12_chosen_2 : decode yX12_chosen.2.1 2 = .ok (.iconst 1, 1) := by decide +kernel
theorem dX12_chosen_3 : decode yX12_chosen.2.1 3 = .ok (.istore 4, 2) := by decide +kernel
theorem dX12_chosen_5 : decode yX12_chosen.2.1 5 = .ok (.iload 4, 2) := by decide +kernel
theorem dX12_chosen_7 : decode yX12_chosen.2.1 7 = .ok (.iload_n 1, 1) := by decide +kernel
theorem dX12_chosen_8 : decode yX12_chosen.2.1 8 = .ok (.if_icmp .gt 23, 3) := by decide +kernel
theorem dX12_chosen_11 : decode yX12_chosen.2.1 11 = .ok (.lload_n 2, 1) := by decide +kernel
theorem dX12_chosen_12 : decode yX12_chosen.2.1 12 = .ok (.iload_n 0, 1) := by decide +kernel
theorem dX12_chosen_13 : decode yX12_chosen.2.1 13 = .ok (.iload 4, 2) := by decide +kernel
theorem dX12_chosen_15 : decode yX12_chosen.2.1 15 = .ok (.isub, 1) := by decide +kernel
theorem dX12_chosen_16 : decode yX12_chosen.2.1 16 = .ok (.iconst 1, 1) := by decide +kernel
theorem dX12_chosen_17 : decode yX12_chosen.2.1 17 = .ok (.iadd, 1) := by decide +kernel
theorem dX12_chosen_18 : decode yX12_chosen.2.1 18 = .ok (.i2l, 1) := by decide +kernel
theorem dX12_chosen_19 : decode yX12_chosen.2.1 19 = .ok (.lmul, 1) := by decide +kernel
theorem dX12_chosen_20 : decode yX12_chosen.2.1 20 = .ok (.iload 4, 2) := by decide +kernel
theorem dX12_chosen_22 : decode yX12_chosen.2.1 22 = .ok (.i2l, 1) := by decide +kernel
theorem dX12_chosen_23 : decode yX12_chosen.2.1 23 = .ok (.ldiv, 1) := by decide +kernel
theorem dX12_chosen_24 : decode yX12_chosen.2.1 24 = .ok (.lstore_n 2, 1) := by decide +kernel
theorem dX12_chosen_25 : decode yX12_chosen.2.1 25 = .ok (.iinc 4 1, 3) := by decide +kernel
theorem dX12_chosen_28 : decode yX12_chosen.2.1 28 = .ok (.goto (-23), 3) := by decide +kernel
theorem dX12_chosen_31 : decode yX12_chosen.2.1 31 = .ok (.lload_n 2, 1) := by decide +kernel
theorem dX12_chosen_32 : decode yX12_chosen.2.1 32 = .ok (.lreturn, 1) := by decide +kernel
theorem dX12_odds_0 : decode yX12_odds.2.1 0 = .ok (.aload_n 0, 1) := by decide +kernel
theorem dX12_odds_1 : decode yX12_odds.2.1 1 = .ok (.iconst 1, 1) := by decide +kernel
theorem dX12_odds_2 : decode yX12_odds.2.1 2 = .ok (.iload_n 1, 1) := by decide +kernel
theorem dX12_odds_3 : decode yX12_odds.2.1 3 = .ok (.iload_n 2, 1) := by decide +kernel
theorem dX12_odds_4 : decode yX12_odds.2.1 4 = .ok (.invokevirtual 188, 3) := by decide +kernel
theorem dX12_odds_7 : decode yX12_odds.2.1 7 = .ok (.istore_n 3, 1) := by decide +kernel
theorem dX12_odds_8 : decode yX12_odds.2.1 8 = .ok (.iload_n 3, 1) := by decide +kernel
theorem dX12_odds_9 : decode yX12_odds.2.1 9 = .ok (.ifCond .ge 5, 3) := by decide +kernel
theorem dX12_odds_12 : decode yX12_odds.2.1 12 = .ok (.iload_n 3, 1) := by decide +kernel
theorem dX12_odds_13 : decode yX12_odds.2.1 13 = .ok (.ireturn, 1) := by decide +kernel
theorem dX12_odds_14 : decode yX12_odds.2.1 14 = .ok (.aload_n 0, 1) := by decide +kernel
theorem dX12_odds_15 : decode yX12_odds.2.1 15 = .ok (.getfield 29, 3) := by decide +kernel
theorem dX12_odds_18 : decode yX12_odds.2.1 18 = .ok (.iload_n 1, 1) := by decide +kernel
theorem dX12_odds_19 : decode yX12_odds.2.1 19 = .ok (.iaload, 1) := by decide +kernel
theorem dX12_odds_20 : decode yX12_odds.2.1 20 = .ok (.istore 4, 2) := by decide +kernel
theorem dX12_odds_22 : decode yX12_odds.2.1 22 = .ok (.aload_n 0, 1) := by decide +kernel
theorem dX12_odds_23 : decode yX12_odds.2.1 23 = .ok (.getfield 29, 3) := by decide +kernel
theorem dX12_odds_26 : decode yX12_odds.2.1 26 = .ok (.iload_n 2, 1) := by decide +kernel
theorem dX12_odds_27 : decode yX12_odds.2.1 27 = .ok (.iaload, 1) := by decide +kernel
theorem dX12_odds_28 : decode yX12_odds.2.1 28 = .ok (.istore 5, 2) := by decide +kernel
theorem dX12_odds_30 : decode yX12_odds.2.1 30 = .ok (.iload 5, 2) := by decide +kernel
theorem dX12_odds_32 : decode yX12_odds.2.1 32 = .ok (.iload 4, 2) := by decide +kernel
theorem dX12_odds_34 : decode yX12_odds.2.1 34 = .ok (.if_icmp .le 9, 3) := by decide +kernel
theorem dX12_odds_37 : decode yX12_odds.2.1 37 = .ok (.aload_n 0, 1) := by decide +kernel
theorem dX12_odds_38 : decode yX12_odds.2.1 38 = .ok (.iconst 4, 1) := by decide +kernel
theorem dX12_odds_39 : decode yX12_odds.2.1 39 = .ok (.invokevirtual 134, 3) := by decide +kernel
theorem dX12_odds_42 : decode yX12_odds.2.1 42 = .ok (.ireturn, 1) := by decide +kernel
theorem dX12_odds_43 : decode yX12_odds.2.1 43 = .ok (.aload_n 0, 1) := by decide +kernel
theorem dX12_odds_44 : decode yX12_odds.2.1 44 = .ok (.iload_n 1, 1) := by decide +kernel
theorem dX12_odds_45 : decode yX12_odds.2.1 45 = .ok (.iload_n 2, 1) := by decide +kernel
theorem dX12_odds_46 : decode yX12_odds.2.1 46 = .ok (.invokevirtual 199, 3) := by decide +kernel
theorem dX12_odds_49 : decode yX12_odds.2.1 49 = .ok (.aload_n 0, 1) := by decide +kernel
theorem dX12_odds_50 : decode yX12_odds.2.1 50 = .ok (.aload_n 0, 1) := by decide +kernel
theorem dX12_odds_51 : decode yX12_odds.2.1 51 = .ok (.getfield 53, 3) := by decide +kernel
theorem dX12_odds_54 : decode yX12_odds.2.1 54 = .ok (.iload 5, 2) := by decide +kernel
theorem dX12_odds_56 : decode yX12_odds.2.1 56 = .ok (.laload, 1) := by decide +kernel
theorem dX12_odds_57 : decode yX12_odds.2.1 57 = .ok (.iload 4, 2) := by decide +kernel
theorem dX12_odds_59 : decode yX12_odds.2.1 59 = .ok (.iload 5, 2) := by decide +kernel
theorem dX12_odds_61 : decode yX12_odds.2.1 61 = .ok (.invokestatic 304, 3) := by decide +kernel
theorem dX12_odds_64 : decode yX12_odds.2.1 64 = .ok (.iconst 1, 1) := by decide +kernel
theorem dX12_odds_65 : decode yX12_odds.2.1 65 = .ok (.invokevirtual 308, 3) := by decide +kernel
theorem dX12_odds_68 : decode yX12_odds.2.1 68 = .ok (.ireturn, 1) := by decide +kernel
theorem dX12_byChance_0 : decode yX12_byChance.2.1 0 = .ok (.aload_n 0, 1) := by decide +kernel
theorem dX12_byChance_1 : decode yX12_byChance.2.1 1 = .ok (.iload_n 2, 1) := by decide +kernel
theorem dX12_byChance_2 : decode yX12_byChance.2.1 2 = .ok (.iconst 0, 1) := by decide +kernel
theorem dX12_byChance_3 : decode yX12_byChance.2.1 3 = .ok (.bipush 20, 2) := by decide +kernel
theorem dX12_byChance_5 : decode yX12_byChance.2.1 5 = .ok (.invokestatic 117, 3) := by decide +kernel
theorem dX12_byChance_8 : decode yX12_byChance.2.1 8 = .ok (.iload_n 1, 1) := by decide +kernel
theorem dX12_byChance_9 : decode yX12_byChance.2.1 9 = .ok (.invokevirtual 192, 3) := by decide +kernel
theorem dX12_byChance_12 : decode yX12_byChance.2.1 12 = .ok (.istore_n 3, 1) := by decide +kernel
theorem dX12_byChance_13 : decode yX12_byChance.2.1 13 = .ok (.iload_n 3, 1) := by decide +kernel
theorem dX12_byChance_14 : decode yX12_byChance.2.1 14 = .ok (.ifCond .ge 5, 3) := by decide +kernel
theorem dX12_byChance_17 : decode yX12_byChance.2.1 17 = .ok (.iload_n 3, 1) := by decide +kernel
theorem dX12_byChance_18 : decode yX12_byChance.2.1 18 = .ok (.ireturn, 1) := by decide +kernel
theorem dX12_byChance_19 : decode yX12_byChance.2.1 19 = .ok (.lconst 0, 1) := by decide +kernel
theorem dX12_byChance_20 : decode yX12_byChance.2.1 20 = .ok (.lstore 4, 2) := by decide +kernel
theorem dX12_byChance_22 : decode yX12_byChance.2.1 22 = .ok (.aload_n 0, 1) := by decide +kernel
theorem dX12_byChance_23 : decode yX12_byChance.2.1 23 = .ok (.getfield 29, 3) := by decide +kernel
theorem dX12_byChance_26 : decode yX12_byChance.2.1 26 = .ok (.iload_n 1, 1) := by decide +kernel
theorem dX12_byChance_27 : decode yX12_byChance.2.1 27 = .ok (.iaload, 1) := by decide +kernel
theorem dX12_byChance_28 : decode yX12_byChance.2.1 28 = .ok (.istore 6, 2) := by decide +kernel
theorem dX12_byChance_30 : decode yX12_byChance.2.1 30 = .ok (.iload 6, 2) := by decide +kernel
theorem dX12_byChance_32 : decode yX12_byChance.2.1 32 = .ok (.iload_n 2, 1) := by decide +kernel
theorem dX12_byChance_33 : decode yX12_byChance.2.1 33 = .ok (.if_icmp .gt 35, 3) := by decide +kernel
theorem dX12_byChance_36 : decode yX12_byChance.2.1 36 = .ok (.lload 4, 2) := by decide +kernel
theorem dX12_byChance_38 : decode yX12_byChance.2.1 38 = .ok (.iload_n 2, 1) := by decide +kernel
theorem dX12_byChance_39 : decode yX12_byChance.2.1 39 = .ok (.iload 6, 2) := by decide +kernel
theorem dX12_byChance_41 : decode yX12_byChance.2.1 41 = .ok (.invokestatic 304, 3) := by decide +kernel
theorem dX12_byChance_44 : decode yX12_byChance.2.1 44 = .ok (.aload_n 0, 1) := by decide +kernel
theorem dX12_byChance_45 : decode yX12_byChance.2.1 45 = .ok (.getfield 110, 3) := by decide +kernel
theorem dX12_byChance_48 : decode yX12_byChance.2.1 48 = .ok (.iconst 1, 1) := by decide +kernel
theorem dX12_byChance_49 : decode yX12_byChance.2.1 49 = .ok (.isub, 1) := by decide +kernel
theorem dX12_byChance_50 : decode yX12_byChance.2.1 50 = .ok (.i2l, 1) := by decide +kernel
theorem dX12_byChance_51 : decode yX12_byChance.2.1 51 = .ok (.iload_n 2, 1) := by decide +kernel
theorem dX12_byChance_52 : decode yX12_byChance.2.1 52 = .ok (.iload 6, 2) := by decide +kernel
theorem dX12_byChance_54 : decode yX12_byChance.2.1 54 = .ok (.isub, 1) := by decide +kernel
theorem dX12_byChance_55 : decode yX12_byChance.2.1 55 = .ok (.invokestatic 239, 3) := by decide +kernel
theorem dX12_byChance_58 : decode yX12_byChance.2.1 58 = .ok (.lmul, 1) := by decide +kernel
theorem dX12_byChance_59 : decode yX12_byChance.2.1 59 = .ok (.ladd, 1) := by decide +kernel
theorem dX12_byChance_60 : decode yX12_byChance.2.1 60 = .ok (.lstore 4, 2) := by decide +kernel
theorem dX12_byChance_62 : decode yX12_byChance.2.1 62 = .ok (.iinc 6 1, 3) := by decide +kernel
theorem dX12_byChance_65 : decode yX12_byChance.2.1 65 = .ok (.goto (-35), 3) := by decide +kernel
theorem dX12_byChance_68 : decode yX12_byChance.2.1 68 = .ok (.aload_n 0, 1) := by decide +kernel
theorem dX12_byChance_69 : decode yX12_byChance.2.1 69 = .ok (.lload 4, 2) := by decide +kernel
theorem dX12_byChance_71 : decode yX12_byChance.2.1 71 = .ok (.aload_n 0, 1) := by decide +kernel
theorem dX12_byChance_72 : decode yX12_byChance.2.1 72 = .ok (.getfield 110, 3) := by decide +kernel
theorem dX12_byChance_75 : decode yX12_byChance.2.1 75 = .ok (.i2l, 1) := by decide +kernel
theorem dX12_byChance_76 : decode yX12_byChance.2.1 76 = .ok (.iload_n 2, 1) := by decide +kernel
theorem dX12_byChance_77 : decode yX12_byChance.2.1 77 = .ok (.invokestatic 239, 3) := by decide +kernel
theorem dX12_byChance_80 : decode yX12_byChance.2.1 80 = .ok (.iconst 1, 1) := by decide +kernel
theorem dX12_byChance_81 : decode yX12_byChance.2.1 81 = .ok (.invokevirtual 308, 3) := by decide +kernel
theorem dX12_byChance_84 : decode yX12_byChance.2.1 84 = .ok (.ireturn, 1) := by decide +kernel
theorem dX12_counted_0 : decode yX12_counted.2.1 0 = .ok (.iconst 0, 1) := by decide +kernel
theorem dX12_counted_1 : decode yX12_counted.2.1 1 = .ok (.istore_n 2, 1) := by decide +kernel
theorem dX12_counted_2 : decode yX12_counted.2.1 2 = .ok (.iconst 0, 1) := by decide +kernel
theorem dX12_counted_3 : decode yX12_counted.2.1 3 = .ok (.istore_n 3, 1) := by decide +kernel
theorem dX12_counted_4 : decode yX12_counted.2.1 4 = .ok (.iload_n 3, 1) := by decide +kernel
theorem dX12_counted_5 : decode yX12_counted.2.1 5 = .ok (.bipush 6, 2) := by decide +kernel
theorem dX12_counted_7 : decode yX12_counted.2.1 7 = .ok (.if_icmp .ge 31, 3) := by decide +kernel
theorem dX12_counted_10 : decode yX12_counted.2.1 10 = .ok (.iload_n 2, 1) := by decide +kernel
theorem dX12_counted_11 : decode yX12_counted.2.1 11 = .ok (.iload_n 1, 1) := by decide +kernel
theorem dX12_counted_12 : decode yX12_counted.2.1 12 = .ok (.iconst 1, 1) := by decide +kernel
theorem dX12_counted_13 : decode yX12_counted.2.1 13 = .ok (.if_icmp .ne 16, 3) := by decide +kernel
theorem dX12_counted_16 : decode yX12_counted.2.1 16 = .ok (.aload_n 0, 1) := by decide +kernel
theorem dX12_counted_17 : decode yX12_counted.2.1 17 = .ok (.getfield 13, 3) := by decide +kernel
theorem dX12_counted_20 : decode yX12_counted.2.1 20 = .ok (.iload_n 3, 1) := by decide +kernel
theorem dX12_counted_21 : decode yX12_counted.2.1 21 = .ok (.iaload, 1) := by decide +kernel
theorem dX12_counted_22 : decode yX12_counted.2.1 22 = .ok (.ifCond .lt 7, 3) := by decide +kernel
theorem dX12_counted_25 : decode yX12_counted.2.1 25 = .ok (.iconst 1, 1) := by decide +kernel
theorem dX12_counted_26 : decode yX12_counted.2.1 26 = .ok (.goto 4, 3) := by decide +kernel
theorem dX12_counted_29 : decode yX12_counted.2.1 29 = .ok (.iconst 0, 1) := by decide +kernel
theorem dX12_counted_30 : decode yX12_counted.2.1 30 = .ok (.iadd, 1) := by decide +kernel
theorem dX12_counted_31 : decode yX12_counted.2.1 31 = .ok (.istore_n 2, 1) := by decide +kernel
theorem dX12_counted_32 : decode yX12_counted.2.1 32 = .ok (.iinc 3 1, 3) := by decide +kernel
theorem dX12_counted_35 : decode yX12_counted.2.1 35 = .ok (.goto (-31), 3) := by decide +kernel
theorem dX12_counted_38 : decode yX12_counted.2.1 38 = .ok (.iconst 0, 1) := by decide +kernel
theorem dX12_counted_39 : decode yX12_counted.2.1 39 = .ok (.istore_n 3, 1) := by decide +kernel
theorem dX12_counted_40 : decode yX12_counted.2.1 40 = .ok (.iload_n 3, 1) := by decide +kernel
theorem dX12_counted_41 : decode yX12_counted.2.1 41 = .ok (.iconst 4, 1) := by decide +kernel
theorem dX12_counted_42 : decode yX12_counted.2.1 42 = .ok (.if_icmp .ge 31, 3) := by decide +kernel
theorem dX12_counted_45 : decode yX12_counted.2.1 45 = .ok (.iload_n 2, 1) := by decide +kernel
theorem dX12_counted_46 : decode yX12_counted.2.1 46 = .ok (.iload_n 1, 1) := by decide +kernel
theorem dX12_counted_47 : decode yX12_counted.2.1 47 = .ok (.iconst 2, 1) := by decide +kernel
theorem dX12_counted_48 : decode yX12_counted.2.1 48 = .ok (.if_icmp .ne 16, 3) := by decide +kernel
theorem dX12_counted_51 : decode yX12_counted.2.1 51 = .ok (.aload_n 0, 1) := by decide +kernel
theorem dX12_counted_52 : decode yX12_counted.2.1 52 = .ok (.getfield 22, 3) := by decide +kernel
theorem dX12_counted_55 : decode yX12_counted.2.1 55 = .ok (.iload_n 3, 1) := by decide +kernel
theorem dX12_counted_56 : decode yX12_counted.2.1 56 = .ok (.iaload, 1) := by decide +kernel
theorem dX12_counted_57 : decode yX12_counted.2.1 57 = .ok (.ifCond .lt 7, 3) := by decide +kernel
theorem dX12_counted_60 : decode yX12_counted.2.1 60 = .ok (.iconst 1, 1) := by decide +kernel
theorem dX12_counted_61 : decode yX12_counted.2.1 61 = .ok (.goto 4, 3) := by decide +kernel
theorem dX12_counted_64 : decode yX12_counted.2.1 64 = .ok (.iconst 0, 1) := by decide +kernel
theorem dX12_counted_65 : decode yX12_counted.2.1 65 = .ok (.iadd, 1) := by decide +kernel
theorem dX12_counted_66 : decode yX12_counted.2.1 66 = .ok (.istore_n 2, 1) := by decide +kernel
theorem dX12_counted_67 : decode yX12_counted.2.1 67 = .ok (.iinc 3 1, 3) := by decide +kernel
theorem dX12_counted_70 : decode yX12_counted.2.1 70 = .ok (.goto (-30), 3) := by decide +kernel
theorem dX12_counted_73 : decode yX12_counted.2.1 73 = .ok (.iconst 0, 1) := by decide +kernel
theorem dX12_counted_74 : decode yX12_counted.2.1 74 = .ok (.istore_n 3, 1) := by decide +kernel
theorem dX12_counted_75 : decode yX12_counted.2.1 75 = .ok (.iload_n 3, 1) := by decide +kernel
theorem dX12_counted_76 : decode yX12_counted.2.1 76 = .ok (.bipush 8, 2) := by decide +kernel
theorem dX12_counted_78 : decode yX12_counted.2.1 78 = .ok (.if_icmp .ge 73, 3) := by decide +kernel
theorem dX12_counted_81 : decode yX12_counted.2.1 81 = .ok (.aload_n 0, 1) := by decide +kernel
theorem dX12_counted_82 : decode yX12_counted.2.1 82 = .ok (.iload_n 3, 1) := by decide +kernel
theorem dX12_counted_83 : decode yX12_counted.2.1 83 = .ok (.invokevirtual 185, 3) := by decide +kernel
theorem dX12_counted_86 : decode yX12_counted.2.1 86 = .ok (.istore 4, 2) := by decide +kernel
theorem dX12_counted_88 : decode yX12_counted.2.1 88 = .ok (.iload_n 2, 1) := by decide +kernel
theorem dX12_counted_89 : decode yX12_counted.2.1 89 = .ok (.iload_n 1, 1) := by decide +kernel
theorem dX12_counted_90 : decode yX12_counted.2.1 90 = .ok (.iconst 3, 1) := by decide +kernel
theorem dX12_counted_91 : decode yX12_counted.2.1 91 = .ok (.if_icmp .ne 8, 3) := by decide +kernel
theorem dX12_counted_94 : decode yX12_counted.2.1 94 = .ok (.iload 4, 2) := by decide +kernel
theorem dX12_counted_96 : decode yX12_counted.2.1 96 = .ok (.ifCond .ne 23, 3) := by decide +kernel
theorem dX12_counted_99 : decode yX12_counted.2.1 99 = .ok (.iload_n 1, 1) := by decide +kernel
theorem dX12_counted_100 : decode yX12_counted.2.1 100 = .ok (.iconst 4, 1) := by decide +kernel
theorem dX12_counted_101 : decode yX12_counted.2.1 101 = .ok (.if_icmp .ne 22, 3) := by decide +kernel
theorem dX12_counted_104 : decode yX12_counted.2.1 104 = .ok (.iload 4, 2) := by decide +kernel
theorem dX12_counted_106 : decode yX12_counted.2.1 106 = .ok (.ifCond .eq 17, 3) := by decide +kernel
theorem dX12_counted_109 : decode yX12_counted.2.1 109 = .ok (.aload_n 0, 1) := by decide +kernel
theorem dX12_counted_110 : decode yX12_counted.2.1 110 = .ok (.getfield 35, 3) := by decide +kernel
theorem dX12_counted_113 : decode yX12_counted.2.1 113 = .ok (.iload_n 3, 1) := by decide +kernel
theorem dX12_counted_114 : decode yX12_counted.2.1 114 = .ok (.iaload, 1) := by decide +kernel
theorem dX12_counted_115 : decode yX12_counted.2.1 115 = .ok (.iconst 1, 1) := by decide +kernel
theorem dX12_counted_116 : decode yX12_counted.2.1 116 = .ok (.if_icmp .le 7, 3) := by decide +kernel
theorem dX12_counted_119 : decode yX12_counted.2.1 119 = .ok (.iconst 1, 1) := by decide +kernel
theorem dX12_counted_120 : decode yX12_counted.2.1 120 = .ok (.goto 23, 3) := by decide +kernel
theorem dX12_counted_123 : decode yX12_counted.2.1 123 = .ok (.iload_n 1, 1) := by decide +kernel
theorem dX12_counted_124 : decode yX12_counted.2.1 124 = .ok (.iconst 5, 1) := by decide +kernel
theorem dX12_counted_125 : decode yX12_counted.2.1 125 = .ok (.if_icmp .ne 17, 3) := by decide +kernel
theorem dX12_counted_128 : decode yX12_counted.2.1 128 = .ok (.iload 4, 2) := by decide +kernel
theorem dX12_counted_130 : decode yX12_counted.2.1 130 = .ok (.ifCond .eq 12, 3) := by decide +kernel
theorem dX12_counted_133 : decode yX12_counted.2.1 133 = .ok (.aload_n 0, 1) := by decide +kernel
theorem dX12_counted_134 : decode yX12_counted.2.1 134 = .ok (.getfield 29, 3) := by decide +kernel
theorem dX12_counted_137 : decode yX12_counted.2.1 137 = .ok (.iload_n 3, 1) := by decide +kernel
theorem dX12_counted_138 : decode yX12_counted.2.1 138 = .ok (.iaload, 1) := by decide +kernel
theorem dX12_counted_139 : decode yX12_counted.2.1 139 = .ok (.goto 4, 3) := by decide +kernel
theorem dX12_counted_142 : decode yX12_counted.2.1 142 = .ok (.iconst 0, 1) := by decide +kernel
theorem dX12_counted_143 : decode yX12_counted.2.1 143 = .ok (.iadd, 1) := by decide +kernel
theorem dX12_counted_144 : decode yX12_counted.2.1 144 = .ok (.istore_n 2, 1) := by decide +kernel
theorem dX12_counted_145 : decode yX12_counted.2.1 145 = .ok (.iinc 3 1, 3) := by decide +kernel
theorem dX12_counted_148 : decode yX12_counted.2.1 148 = .ok (.goto (-73), 3) := by decide +kernel
theorem dX12_counted_151 : decode yX12_counted.2.1 151 = .ok (.iload_n 1, 1) := by decide +kernel
theorem dX12_counted_152 : decode yX12_counted.2.1 152 = .ok (.ifCond .ne 10, 3) := by decide +kernel
theorem dX12_counted_155 : decode yX12_counted.2.1 155 = .ok (.aload_n 0, 1) := by decide +kernel
theorem dX12_counted_156 : decode yX12_counted.2.1 156 = .ok (.getfield 110, 3) := by decide +kernel
theorem dX12_counted_159 : decode yX12_counted.2.1 159 = .ok (.goto 4, 3) := by decide +kernel
theorem dX12_counted_162 : decode yX12_counted.2.1 162 = .ok (.iload_n 2, 1) := by decide +kernel
theorem dX12_counted_163 : decode yX12_counted.2.1 163 = .ok (.ireturn, 1) := by decide +kernel
theorem dX12_count_0 : decode yX12_count.2.1 0 = .ok (.iload_n 1, 1) := by decide +kernel
theorem dX12_count_1 : decode yX12_count.2.1 1 = .ok (.iconst 0, 1) := by decide +kernel
theorem dX12_count_2 : decode yX12_count.2.1 2 = .ok (.iconst 5, 1) := by decide +kernel
theorem dX12_count_3 : decode yX12_count.2.1 3 = .ok (.invokestatic 117, 3) := by decide +kernel
theorem dX12_count_6 : decode yX12_count.2.1 6 = .ok (.ifCond .eq 11, 3) := by decide +kernel
theorem dX12_count_9 : decode yX12_count.2.1 9 = .ok (.aload_n 0, 1) := by decide +kernel
theorem dX12_count_10 : decode yX12_count.2.1 10 = .ok (.iload_n 1, 1) := by decide +kernel
theorem dX12_count_11 : decode yX12_count.2.1 11 = .ok (.invokevirtual 312, 3) := by decide +kernel
theorem dX12_count_14 : decode yX12_count.2.1 14 = .ok (.goto 4, 3) := by decide +kernel
theorem dX12_count_17 : decode yX12_count.2.1 17 = .ok (.iconst (-1), 1) := by decide +kernel
theorem dX12_count_18 : decode yX12_count.2.1 18 = .ok (.ireturn, 1) := by decide +kernel
theorem dX12_mix_0 : decode yX12_mix.2.1 0 = .ok (.aload_n 0, 1) := by decide +kernel
theorem dX12_mix_1 : decode yX12_mix.2.1 1 = .ok (.ldc2_w 315, 3) := by decide +kernel
theorem dX12_mix_4 : decode yX12_mix.2.1 4 = .ok (.aload_n 0, 1) := by decide +kernel
theorem dX12_mix_5 : decode yX12_mix.2.1 5 = .ok (.getfield 317, 3) := by decide +kernel
theorem dX12_mix_8 : decode yX12_mix.2.1 8 = .ok (.lmul, 1) := by decide +kernel
theorem dX12_mix_9 : decode yX12_mix.2.1 9 = .ok (.lload_n 1, 1) := by decide +kernel
theorem dX12_mix_10 : decode yX12_mix.2.1 10 = .ok (.ladd, 1) := by decide +kernel
theorem dX12_mix_11 : decode yX12_mix.2.1 11 = .ok (.putfield 317, 3) := by decide +kernel
theorem dX12_mix_14 : decode yX12_mix.2.1 14 = .ok (.return_, 1) := by decide +kernel
theorem dX12_mixWord_0 : decode yX12_mixWord.2.1 0 = .ok (.aload_n 0, 1) := by decide +kernel
theorem dX12_mixWord_1 : decode yX12_mixWord.2.1 1 = .ok (.iload_n 1, 1) := by decide +kernel
theorem dX12_mixWord_2 : decode yX12_mixWord.2.1 2 = .ok (.invokevirtual 185, 3) := by decide +kernel
theorem dX12_mixWord_5 : decode yX12_mixWord.2.1 5 = .ok (.ifCond .eq 73, 3) := by decide +kernel
theorem dX12_mixWord_8 : decode yX12_mixWord.2.1 8 = .ok (.aload_n 0, 1) := by decide +kernel
theorem dX12_mixWord_9 : decode yX12_mixWord.2.1 9 = .ok (.aload_n 0, 1) := by decide +kernel
theorem dX12_mixWord_10 : decode yX12_mixWord.2.1 10 = .ok (.getfield 35, 3) := by decide +kernel
theorem dX12_mixWord_13 : decode yX12_mixWord.2.1 13 = .ok (.iload_n 1, 1) := by decide +kernel
theorem dX12_mixWord_14 : decode yX12_mixWord.2.1 14 = .ok (.iaload, 1) := by decide +kernel
theorem dX12_mixWord_15 : decode yX12_mixWord.2.1 15 = .ok (.i2l, 1) := by decide +kernel
theorem dX12_mixWord_16 : decode yX12_mixWord.2.1 16 = .ok (.invokevirtual 320, 3) := by decide +kernel
theorem dX12_mixWord_19 : decode yX12_mixWord.2.1 19 = .ok (.aload_n 0, 1) := by decide +kernel
theorem dX12_mixWord_20 : decode yX12_mixWord.2.1 20 = .ok (.aload_n 0, 1) := by decide +kernel
theorem dX12_mixWord_21 : decode yX12_mixWord.2.1 21 = .ok (.iload_n 1, 1) := by decide +kernel
theorem dX12_mixWord_22 : decode yX12_mixWord.2.1 22 = .ok (.aload_n 0, 1) := by decide +kernel
theorem dX12_mixWord_23 : decode yX12_mixWord.2.1 23 = .ok (.getfield 35, 3) := by decide +kernel
theorem dX12_mixWord_26 : decode yX12_mixWord.2.1 26 = .ok (.iload_n 1, 1) := by decide +kernel
theorem dX12_mixWord_27 : decode yX12_mixWord.2.1 27 = .ok (.iaload, 1) := by decide +kernel
theorem dX12_mixWord_28 : decode yX12_mixWord.2.1 28 = .ok (.invokevirtual 196, 3) := by decide +kernel
theorem dX12_mixWord_31 : decode yX12_mixWord.2.1 31 = .ok (.i2l, 1) := by decide +kernel
theorem dX12_mixWord_32 : decode yX12_mixWord.2.1 32 = .ok (.invokevirtual 320, 3) := by decide +kernel
theorem dX12_mixWord_35 : decode yX12_mixWord.2.1 35 = .ok (.aload_n 0, 1) := by decide +kernel
theorem dX12_mixWord_36 : decode yX12_mixWord.2.1 36 = .ok (.aload_n 0, 1) := by decide +kernel
theorem dX12_mixWord_37 : decode yX12_mixWord.2.1 37 = .ok (.getfield 29, 3) := by decide +kernel
theorem dX12_mixWord_40 : decode yX12_mixWord.2.1 40 = .ok (.iload_n 1, 1) := by decide +kernel
theorem dX12_mixWord_41 : decode yX12_mixWord.2.1 41 = .ok (.iaload, 1) := by decide +kernel
theorem dX12_mixWord_42 : decode yX12_mixWord.2.1 42 = .ok (.i2l, 1) := by decide +kernel
theorem dX12_mixWord_43 : decode yX12_mixWord.2.1 43 = .ok (.invokevirtual 320, 3) := by decide +kernel
theorem dX12_mixWord_46 : decode yX12_mixWord.2.1 46 = .ok (.iconst 0, 1) := by decide +kernel
theorem dX12_mixWord_47 : decode yX12_mixWord.2.1 47 = .ok (.istore_n 2, 1) := by decide +kernel
theorem dX12_mixWord_48 : decode yX12_mixWord.2.1 48 = .ok (.iload_n 2, 1) := by decide +kernel
theorem dX12_mixWord_49 : decode yX12_mixWord.2.1 49 = .ok (.aload_n 0, 1) := by decide +kernel
theorem dX12_mixWord_50 : decode yX12_mixWord.2.1 50 = .ok (.getfield 29, 3) := by decide +kernel
theorem dX12_mixWord_53 : decode yX12_mixWord.2.1 53 = .ok (.iload_n 1, 1) := by decide +kernel
theorem dX12_mixWord_54 : decode yX12_mixWord.2.1 54 = .ok (.iaload, 1) := by decide +kernel
theorem dX12_mixWord_55 : decode yX12_mixWord.2.1 55 = .ok (.if_icmp .ge 20, 3) := by decide +kernel
theorem dX12_mixWord_58 : decode yX12_mixWord.2.1 58 = .ok (.aload_n 0, 1) := by decide +kernel
theorem dX12_mixWord_59 : decode yX12_mixWord.2.1 59 = .ok (.aload_n 0, 1) := by decide +kernel
theorem dX12_mixWord_60 : decode yX12_mixWord.2.1 60 = .ok (.iload_n 1, 1) := by decide +kernel
theorem dX12_mixWord_61 : decode yX12_mixWord.2.1 61 = .ok (.iload_n 2, 1) := by decide +kernel
theorem dX12_mixWord_62 : decode yX12_mixWord.2.1 62 = .ok (.invokevirtual 148, 3) := by decide +kernel
theorem dX12_mixWord_65 : decode yX12_mixWord.2.1 65 = .ok (.i2l, 1) := by decide +kernel
theorem dX12_mixWord_66 : decode yX12_mixWord.2.1 66 = .ok (.invokevirtual 320, 3) := by decide +kernel
theorem dX12_mixWord_69 : decode yX12_mixWord.2.1 69 = .ok (.iinc 2 1, 3) := by decide +kernel
theorem dX12_mixWord_72 : decode yX12_mixWord.2.1 72 = .ok (.goto (-24), 3) := by decide +kernel
theorem dX12_mixWord_75 : decode yX12_mixWord.2.1 75 = .ok (.goto 10, 3) := by decide +kernel
theorem dX12_mixWord_78 : decode yX12_mixWord.2.1 78 = .ok (.aload_n 0, 1) := by decide +kernel
theorem dX12_mixWord_79 : decode yX12_mixWord.2.1 79 = .ok (.ldc2_w 324, 3) := by decide +kernel
theorem dX12_mixWord_82 : decode yX12_mixWord.2.1 82 = .ok (.invokevirtual 320, 3) := by decide +kernel
theorem dX12_mixWord_85 : decode yX12_mixWord.2.1 85 = .ok (.return_, 1) := by decide +kernel
theorem dX12_digest_0 : decode yX12_digest.2.1 0 = .ok (.aload_n 0, 1) := by decide +kernel
theorem dX12_digest_1 : decode yX12_digest.2.1 1 = .ok (.ldc2_w 326, 3) := by decide +kernel
theorem dX12_digest_4 : decode yX12_digest.2.1 4 = .ok (.putfield 317, 3) := by decide +kernel
theorem dX12_digest_7 : decode yX12_digest.2.1 7 = .ok (.iconst 0, 1) := by decide +kernel
theorem dX12_digest_8 : decode yX12_digest.2.1 8 = .ok (.istore_n 1, 1) := by decide +kernel
theorem dX12_digest_9 : decode yX12_digest.2.1 9 = .ok (.iload_n 1, 1) := by decide +kernel
theorem dX12_digest_10 : decode yX12_digest.2.1 10 = .ok (.bipush 6, 2) := by decide +kernel
theorem dX12_digest_12 : decode yX12_digest.2.1 12 = .ok (.if_icmp .ge 19, 3) := by decide +kernel
theorem dX12_digest_15 : decode yX12_digest.2.1 15 = .ok (.aload_n 0, 1) := by decide +kernel
theorem dX12_digest_16 : decode yX12_digest.2.1 16 = .ok (.aload_n 0, 1) := by decide +kernel
theorem dX12_digest_17 : decode yX12_digest.2.1 17 = .ok (.iload_n 1, 1) := by decide +kernel
theorem dX12_digest_18 : decode yX12_digest.2.1 18 = .ok (.invokevirtual 312, 3) := by decide +kernel
theorem dX12_digest_21 : decode yX12_digest.2.1 21 = .ok (.i2l, 1) := by decide +kernel
theorem dX12_digest_22 : decode yX12_digest.2.1 22 = .ok (.invokevirtual 320, 3) := by decide +kernel
theorem dX12_digest_25 : decode yX12_digest.2.1 25 = .ok (.iinc 1 1, 3) := by decide +kernel
theorem dX12_digest_28 : decode yX12_digest.2.1 28 = .ok (.goto (-19), 3) := by decide +kernel
theorem dX12_digest_31 : decode yX12_digest.2.1 31 = .ok (.iconst 0, 1) := by decide +kernel
theorem dX12_digest_32 : decode yX12_digest.2.1 32 = .ok (.istore_n 1, 1) := by decide +kernel
theorem dX12_digest_33 : decode yX12_digest.2.1 33 = .ok (.iload_n 1, 1) := by decide +kernel
theorem dX12_digest_34 : decode yX12_digest.2.1 34 = .ok (.bipush 8, 2) := by decide +kernel
theorem dX12_digest_36 : decode yX12_digest.2.1 36 = .ok (.if_icmp .ge 14, 3) := by decide +kernel
theorem dX12_digest_39 : decode yX12_digest.2.1 39 = .ok (.aload_n 0, 1) := by decide +kernel
theorem dX12_digest_40 : decode yX12_digest.2.1 40 = .ok (.iload_n 1, 1) := by decide +kernel
theorem dX12_digest_41 : decode yX12_digest.2.1 41 = .ok (.invokevirtual 328, 3) := by decide +kernel
theorem dX12_digest_44 : decode yX12_digest.2.1 44 = .ok (.iinc 1 1, 3) := by decide +kernel
theorem dX12_digest_47 : decode yX12_digest.2.1 47 = .ok (.goto (-14), 3) := by decide +kernel
theorem dX12_digest_50 : decode yX12_digest.2.1 50 = .ok (.iconst 0, 1) := by decide +kernel
theorem dX12_digest_51 : decode yX12_digest.2.1 51 = .ok (.istore_n 1, 1) := by decide +kernel
theorem dX12_digest_52 : decode yX12_digest.2.1 52 = .ok (.iload_n 1, 1) := by decide +kernel
theorem dX12_digest_53 : decode yX12_digest.2.1 53 = .ok (.bipush 6, 2) := by decide +kernel
theorem dX12_digest_55 : decode yX12_digest.2.1 55 = .ok (.if_icmp .ge 49, 3) := by decide +kernel
theorem dX12_digest_58 : decode yX12_digest.2.1 58 = .ok (.aload_n 0, 1) := by decide +kernel
theorem dX12_digest_59 : decode yX12_digest.2.1 59 = .ok (.aload_n 0, 1) := by decide +kernel
theorem dX12_digest_60 : decode yX12_digest.2.1 60 = .ok (.getfield 13, 3) := by decide +kernel
theorem dX12_digest_63 : decode yX12_digest.2.1 63 = .ok (.iload_n 1, 1) := by decide +kernel
theorem dX12_digest_64 : decode yX12_digest.2.1 64 = .ok (.iaload, 1) := by decide +kernel
theorem dX12_digest_65 : decode yX12_digest.2.1 65 = .ok (.i2l, 1) := by decide +kernel
theorem dX12_digest_66 : decode yX12_digest.2.1 66 = .ok (.invokevirtual 320, 3) := by decide +kernel
theorem dX12_digest_69 : decode yX12_digest.2.1 69 = .ok (.iconst 0, 1) := by decide +kernel
theorem dX12_digest_70 : decode yX12_digest.2.1 70 = .ok (.istore_n 2, 1) := by decide +kernel
theorem dX12_digest_71 : decode yX12_digest.2.1 71 = .ok (.iload_n 2, 1) := by decide +kernel
theorem dX12_digest_72 : decode yX12_digest.2.1 72 = .ok (.aload_n 0, 1) := by decide +kernel
theorem dX12_digest_73 : decode yX12_digest.2.1 73 = .ok (.getfield 13, 3) := by decide +kernel
theorem dX12_digest_76 : decode yX12_digest.2.1 76 = .ok (.iload_n 1, 1) := by decide +kernel
theorem dX12_digest_77 : decode yX12_digest.2.1 77 = .ok (.iaload, 1) := by decide +kernel
theorem dX12_digest_78 : decode yX12_digest.2.1 78 = .ok (.if_icmp .ge 20, 3) := by decide +kernel
theorem dX12_digest_81 : decode yX12_digest.2.1 81 = .ok (.aload_n 0, 1) := by decide +kernel
theorem dX12_digest_82 : decode yX12_digest.2.1 82 = .ok (.aload_n 0, 1) := by decide +kernel
theorem dX12_digest_83 : decode yX12_digest.2.1 83 = .ok (.iload_n 1, 1) := by decide +kernel
theorem dX12_digest_84 : decode yX12_digest.2.1 84 = .ok (.iload_n 2, 1) := by decide +kernel
theorem dX12_digest_85 : decode yX12_digest.2.1 85 = .ok (.invokevirtual 138, 3) := by decide +kernel
theorem dX12_digest_88 : decode yX12_digest.2.1 88 = .ok (.i2l, 1) := by decide +kernel
theorem dX12_digest_89 : decode yX12_digest.2.1 89 = .ok (.invokevirtual 320, 3) := by decide +kernel
theorem dX12_digest_92 : decode yX12_digest.2.1 92 = .ok (.iinc 2 1, 3) := by decide +kernel
theorem dX12_digest_95 : decode yX12_digest.2.1 95 = .ok (.goto (-24), 3) := by decide +kernel
theorem dX12_digest_98 : decode yX12_digest.2.1 98 = .ok (.iinc 1 1, 3) := by decide +kernel
theorem dX12_digest_101 : decode yX12_digest.2.1 101 = .ok (.goto (-49), 3) := by decide +kernel
theorem dX12_digest_104 : decode yX12_digest.2.1 104 = .ok (.iconst 0, 1) := by decide +kernel
theorem dX12_digest_105 : decode yX12_digest.2.1 105 = .ok (.istore_n 1, 1) := by decide +kernel
theorem dX12_digest_106 : decode yX12_digest.2.1 106 = .ok (.iload_n 1, 1) := by decide +kernel
theorem dX12_digest_107 : decode yX12_digest.2.1 107 = .ok (.iconst 4, 1) := by decide +kernel
theorem dX12_digest_108 : decode yX12_digest.2.1 108 = .ok (.if_icmp .ge 49, 3) := by decide +kernel
theorem dX12_digest_111 : decode yX12_digest.2.1 111 = .ok (.aload_n 0, 1) := by decide +kernel
theorem dX12_digest_112 : decode yX12_digest.2.1 112 = .ok (.aload_n 0, 1) := by decide +kernel
theorem dX12_digest_113 : decode yX12_digest.2.1 113 = .ok (.getfield 22, 3) := by decide +kernel
theorem dX12_digest_116 : decode yX12_digest.2.1 116 = .ok (.iload_n 1, 1) := by decide +kernel
theorem dX12_digest_117 : decode yX12_digest.2.1 117 = .ok (.iaload, 1) := by decide +kernel
theorem dX12_digest_118 : decode yX12_digest.2.1 118 = .ok (.i2l, 1) := by decide +kernel
theorem dX12_digest_119 : decode yX12_digest.2.1 119 = .ok (.invokevirtual 320, 3) := by decide +kernel
theorem dX12_digest_122 : decode yX12_digest.2.1 122 = .ok (.iconst 0, 1) := by decide +kernel
theorem dX12_digest_123 : decode yX12_digest.2.1 123 = .ok (.istore_n 2, 1) := by decide +kernel
theorem dX12_digest_124 : decode yX12_digest.2.1 124 = .ok (.iload_n 2, 1) := by decide +kernel
theorem dX12_digest_125 : decode yX12_digest.2.1 125 = .ok (.aload_n 0, 1) := by decide +kernel
theorem dX12_digest_126 : decode yX12_digest.2.1 126 = .ok (.getfield 22, 3) := by decide +kernel
theorem dX12_digest_129 : decode yX12_digest.2.1 129 = .ok (.iload_n 1, 1) := by decide +kernel
theorem dX12_digest_130 : decode yX12_digest.2.1 130 = .ok (.iaload, 1) := by decide +kernel
theorem dX12_digest_131 : decode yX12_digest.2.1 131 = .ok (.if_icmp .ge 20, 3) := by decide +kernel
theorem dX12_digest_134 : decode yX12_digest.2.1 134 = .ok (.aload_n 0, 1) := by decide +kernel
theorem dX12_digest_135 : decode yX12_digest.2.1 135 = .ok (.aload_n 0, 1) := by decide +kernel
theorem dX12_digest_136 : decode yX12_digest.2.1 136 = .ok (.iload_n 1, 1) := by decide +kernel
theorem dX12_digest_137 : decode yX12_digest.2.1 137 = .ok (.iload_n 2, 1) := by decide +kernel
theorem dX12_digest_138 : decode yX12_digest.2.1 138 = .ok (.invokevirtual 172, 3) := by decide +kernel
theorem dX12_digest_141 : decode yX12_digest.2.1 141 = .ok (.i2l, 1) := by decide +kernel
theorem dX12_digest_142 : decode yX12_digest.2.1 142 = .ok (.invokevirtual 320, 3) := by decide +kernel
theorem dX12_digest_145 : decode yX12_digest.2.1 145 = .ok (.iinc 2 1, 3) := by decide +kernel
theorem dX12_digest_148 : decode yX12_digest.2.1 148 = .ok (.goto (-24), 3) := by decide +kernel
theorem dX12_digest_151 : decode yX12_digest.2.1 151 = .ok (.iinc 1 1, 3) := by decide +kernel
theorem dX12_digest_154 : decode yX12_digest.2.1 154 = .ok (.goto (-48), 3) := by decide +kernel
theorem dX12_digest_157 : decode yX12_digest.2.1 157 = .ok (.aload_n 0, 1) := by decide +kernel
theorem dX12_digest_158 : decode yX12_digest.2.1 158 = .ok (.getfield 317, 3) := by decide +kernel
theorem dX12_digest_161 : decode yX12_digest.2.1 161 = .ok (.lreturn, 1) := by decide +kernel
