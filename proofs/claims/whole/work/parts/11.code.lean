theorem dX11_init_0 : decode yX11_init.2.1 0 = .ok (.aload_n 0, 1) := by decide +kernel
theorem dX11_init_1 : decode yX11_init.2.1 1 = .ok (.invokespecial 3, 3) := by decide +kernel
theorem dX11_init_4 : decode yX11_init.2.1 4 = .ok (.aload_n 0, 1) := by decide +kernel
theorem dX11_init_5 : decode yX11_init.2.1 5 = .ok (.bipush 6, 2) := by decide +kernel
theorem dX11_init_7 : decode yX11_init.2.1 7 = .ok (.anewarray 9, 3) := by decide +kernel
theorem dX11_init_10 : decode yX11_init.2.1 10 = .ok (.putfield 11, 3) := by decide +kernel
theorem dX11_init_13 : decode yX11_init.2.1 13 = .ok (.aload_n 0, 1) := by decide +kernel
theorem dX11_init_14 : decode yX11_init.2.1 14 = .ok (.iconst 4, 1) := by decide +kernel
theorem dX11_init_15 : decode yX11_init.2.1 15 = .ok (.anewarray 9, 3) := by decide +kernel
theorem dX11_init_18 : decode yX11_init.2.1 18 = .ok (.putfield 15, 3) := by decide +kernel
theorem dX11_init_21 : decode yX11_init.2.1 21 = .ok (.aload_n 0, 1) := by decide +kernel
theorem dX11_init_22 : decode yX11_init.2.1 22 = .ok (.bipush 8, 2) := by decide +kernel
theorem dX11_init_24 : decode yX11_init.2.1 24 = .ok (.anewarray 18, 3) := by decide +kernel
theorem dX11_init_27 : decode yX11_init.2.1 27 = .ok (.putfield 20, 3) := by decide +kernel
theorem dX11_init_30 : decode yX11_init.2.1 30 = .ok (.aload_n 0, 1) := by decide +kernel
theorem dX11_init_31 : decode yX11_init.2.1 31 = .ok (.iconst 3, 1) := by decide +kernel
theorem dX11_init_32 : decode yX11_init.2.1 32 = .ok (.putfield 24, 3) := by decide +kernel
theorem dX11_init_35 : decode yX11_init.2.1 35 = .ok (.aload_n 0, 1) := by decide +kernel
theorem dX11_init_36 : decode yX11_init.2.1 36 = .ok (.iconst 0, 1) := by decide +kernel
theorem dX11_init_37 : decode yX11_init.2.1 37 = .ok (.putfield 28, 3) := by decide +kernel
theorem dX11_init_40 : decode yX11_init.2.1 40 = .ok (.aload_n 0, 1) := by decide +kernel
theorem dX11_init_41 : decode yX11_init.2.1 41 = .ok (.lconst 0, 1) := by decide +kernel
theorem dX11_init_42 : decode yX11_init.2.1 42 = .ok (.putfield 31, 3) := by decide +kernel
theorem dX11_init_45 : decode yX11_init.2.1 45 = .ok (.aload_n 0, 1) := by decide +kernel
theorem dX11_init_46 : decode yX11_init.2.1 46 = .ok (.lconst 0, 1) := by decide +kernel
theorem dX11_init_47 : decode yX11_init.2.1 47 = .ok (.putfield 35, 3) := by decide +kernel
theorem dX11_init_50 : decode yX11_init.2.1 50 = .ok (.aload_n 0, 1) := by decide +kernel
theorem dX11_init_51 : decode yX11_init.2.1 51 = .ok (.lconst 1, 1) := by decide +kernel
theorem dX11_init_52 : decode yX11_init.2.1 52 = .ok (.putfield 38, 3) := by decide +kernel
theorem dX11_init_55 : decode yX11_init.2.1 55 = .ok (.aload_n 0, 1) := by decide +kernel
theorem dX11_init_56 : decode yX11_init.2.1 56 = .ok (.iconst 0, 1) := by decide +kernel
theorem dX11_init_57 : decode yX11_init.2.1 57 = .ok (.putfield 41, 3) := by decide +kernel
theorem dX11_init_60 : decode yX11_init.2.1 60 = .ok (.aload_n 0, 1) := by decide +kernel
theorem dX11_init_61 : decode yX11_init.2.1 61 = .ok (.bipush 6, 2) := by decide +kernel
theorem dX11_init_63 : decode yX11_init.2.1 63 = .ok (.newarray .int, 2) := by decide +kernel
theorem dX11_init_65 : decode yX11_init.2.1 65 = .ok (.putfield 44, 3) := by decide +kernel
theorem dX11_init_68 : decode yX11_init.2.1 68 = .ok (.aload_n 0, 1) := by decide +kernel
theorem dX11_init_69 : decode yX11_init.2.1 69 = .ok (.bipush 80, 2) := by decide +kernel
theorem dX11_init_71 : decode yX11_init.2.1 71 = .ok (.newarray .int, 2) := by decide +kernel
theorem dX11_init_73 : decode yX11_init.2.1 73 = .ok (.putfield 48, 3) := by decide +kernel
theorem dX11_init_76 : decode yX11_init.2.1 76 = .ok (.aload_n 0, 1) := by decide +kernel
theorem dX11_init_77 : decode yX11_init.2.1 77 = .ok (.new 51, 3) := by decide +kernel
theorem dX11_init_80 : decode yX11_init.2.1 80 = .ok (.dup, 1) := by decide +kernel
theorem dX11_init_81 : decode yX11_init.2.1 81 = .ok (.invokespecial 53, 3) := by decide +kernel
theorem dX11_init_84 : decode yX11_init.2.1 84 = .ok (.putfield 54, 3) := by decide +kernel
theorem dX11_init_87 : decode yX11_init.2.1 87 = .ok (.aload_n 0, 1) := by decide +kernel
theorem dX11_init_88 : decode yX11_init.2.1 88 = .ok (.new 58, 3) := by decide +kernel
theorem dX11_init_91 : decode yX11_init.2.1 91 = .ok (.dup, 1) := by decide +kernel
theorem dX11_init_92 : decode yX11_init.2.1 92 = .ok (.invokespecial 60, 3) := by decide +kernel
theorem dX11_init_95 : decode yX11_init.2.1 95 = .ok (.putfield 61, 3) := by decide +kernel
theorem dX11_init_98 : decode yX11_init.2.1 98 = .ok (.aload_n 0, 1) := by decide +kernel
theorem dX11_init_99 : decode yX11_init.2.1 99 = .ok (.new 65, 3) := by decide +kernel
theorem dX11_init_102 : decode yX11_init.2.1 102 = .ok (.dup, 1) := by decide +kernel
theorem dX11_init_103 : decode yX11_init.2.1 103 = .ok (.invokespecial 67, 3) := by decide +kernel
theorem dX11_init_106 : decode yX11_init.2.1 106 = .ok (.putfield 68, 3) := by decide +kernel
theorem dX11_init_109 : decode yX11_init.2.1 109 = .ok (.aload_n 0, 1) := by decide +kernel
theorem dX11_init_110 : decode yX11_init.2.1 110 = .ok (.new 72, 3) := by decide +kernel
theorem dX11_init_113 : decode yX11_init.2.1 113 = .ok (.dup, 1) := by decide +kernel
theorem dX11_init_114 : decode yX11_init.2.1 114 = .ok (.invokespecial 74, 3) := by decide +kernel
theorem dX11_init_117 : decode yX11_init.2.1 117 = .ok (.putfield 75, 3) := by decide +kernel
theorem dX11_init_120 : decode yX11_init.2.1 120 = .ok (.aload_n 0, 1) := by decide +kernel
theorem dX11_init_121 : decode yX11_init.2.1 121 = .ok (.new 79, 3) := by decide +kernel
theorem dX11_init_124 : decode yX11_init.2.1 124 = .ok (.dup, 1) := by decide +kernel
theorem dX11_init_125 : decode yX11_init.2.1 125 = .ok (.invokespecial 81, 3) := by decide +kernel
theorem dX11_init_128 : decode yX11_init.2.1 128 = .ok (.putfield 82, 3) := by decide +kernel
theorem dX11_init_131 : decode yX11_init.2.1 131 = .ok (.aload_n 0, 1) := by decide +kernel
theorem dX11_init_132 : decode yX11_init.2.1 132 = .ok (.new 86, 3) := by decide +kernel
theorem dX11_init_135 : decode yX11_init.2.1 135 = .ok (.dup, 1) := by decide +kernel
theorem dX11_init_136 : decode yX11_init.2.1 136 = .ok (.invokespecial 88, 3) := by decide +kernel
theorem dX11_init_139 : decode yX11_init.2.1 139 = .ok (.putfield 89, 3) := by decide +kernel
theorem dX11_init_142 : decode yX11_init.2.1 142 = .ok (.iconst 0, 1) := by decide +kernel
theorem dX11_init_143 : decode yX11_init.2.1 143 = .ok (.istore_n 1, 1) := by decide +kernel
theorem dX11_init_144 : decode yX11_init.2.1 144 = .ok (.iload_n 1, 1) := by decide +kernel
theorem dX11_init_145 : decode yX11_init.2.1 145 = .ok (.bipush 6, 2) := by decide +kernel
theorem dX11_init_147 : decode yX11_init.2.1 147 = .ok (.if_icmp .ge 24, 3) := by decide +kernel
theorem dX11_init_150 : decode yX11_init.2.1 150 = .ok (.aload_n 0, 1) := by decide +kernel
theorem dX11_init_151 : decode yX11_init.2.1 151 = .ok (.getfield 11, 3) := by decide +kernel
theorem dX11_init_154 : decode yX11_init.2.1 154 = .ok (.iload_n 1, 1) := by decide +kernel
theorem dX11_init_155 : decode yX11_init.2.1 155 = .ok (.new 9, 3) := by decide +kernel
theorem dX11_init_158 : decode yX11_init.2.1 158 = .ok (.dup, 1) := by decide +kernel
theorem dX11_init_159 : decode yX11_init.2.1 159 = .ok (.bipush 40, 2) := by decide +kernel
theorem dX11_init_161 : decode yX11_init.2.1 161 = .ok (.invokespecial 93, 3) := by decide +kernel
theorem dX11_init_164 : decode yX11_init.2.1 164 = .ok (.aastore, 1) := by decide +kernel
theorem dX11_init_165 : decode yX11_init.2.1 165 = .ok (.iinc 1 1, 3) := by decide +kernel
theorem dX11_init_168 : decode yX11_init.2.1 168 = .ok (.goto (-24), 3) := by decide +kernel
theorem dX11_init_171 : decode yX11_init.2.1 171 = .ok (.iconst 0, 1) := by decide +kernel
theorem dX11_init_172 : decode yX11_init.2.1 172 = .ok (.istore_n 1, 1) := by decide +kernel
theorem dX11_init_173 : decode yX11_init.2.1 173 = .ok (.iload_n 1, 1) := by decide +kernel
theorem dX11_init_174 : decode yX11_init.2.1 174 = .ok (.iconst 4, 1) := by decide +kernel
theorem dX11_init_175 : decode yX11_init.2.1 175 = .ok (.if_icmp .ge 24, 3) := by decide +kernel
theorem dX11_init_178 : decode yX11_init.2.1 178 = .ok (.aload_n 0, 1) := by decide +kernel
theorem dX11_init_179 : decode yX11_init.2.1 179 = .ok (.getfield 15, 3) := by decide +kernel
theorem dX11_init_182 : decode yX11_init.2.1 182 = .ok (.iload_n 1, 1) := by decide +kernel
theorem dX11_init_183 : decode yX11_init.2.1 183 = .ok (.new 9, 3) := by decide +kernel
theorem dX11_init_186 : decode yX11_init.2.1 186 = .ok (.dup, 1) := by decide +kernel
theorem dX11_init_187 : decode yX11_init.2.1 187 = .ok (.bipush 60, 2) := by decide +kernel
theorem dX11_init_189 : decode yX11_init.2.1 189 = .ok (.invokespecial 93, 3) := by decide +kernel
theorem dX11_init_192 : decode yX11_init.2.1 192 = .ok (.aastore, 1) := by decide +kernel
theorem dX11_init_193 : decode yX11_init.2.1 193 = .ok (.iinc 1 1, 3) := by decide +kernel
theorem dX11_init_196 : decode yX11_init.2.1 196 = .ok (.goto (-23), 3) := by decide +kernel
theorem dX11_init_199 : decode yX11_init.2.1 199 = .ok (.iconst 0, 1) := by decide +kernel
theorem dX11_init_200 : decode yX11_init.2.1 200 = .ok (.istore_n 1, 1) := by decide +kernel
theorem dX11_init_201 : decode yX11_init.2.1 201 = .ok (.iload_n 1, 1) := by decide +kernel
theorem dX11_init_202 : decode yX11_init.2.1 202 = .ok (.bipush 8, 2) := by decide +kernel
theorem dX11_init_204 : decode yX11_init.2.1 204 = .ok (.if_icmp .ge 22, 3) := by decide +kernel
theorem dX11_init_207 : decode yX11_init.2.1 207 = .ok (.aload_n 0, 1) := by decide +kernel
theorem dX11_init_208 : decode yX11_init.2.1 208 = .ok (.getfield 20, 3) := by decide +kernel
theorem dX11_init_211 : decode yX11_init.2.1 211 = .ok (.iload_n 1, 1) := by decide +kernel
theorem dX11_init_212 : decode yX11_init.2.1 212 = .ok (.new 18, 3) := by decide +kernel
theorem dX11_init_215 : decode yX11_init.2.1 215 = .ok (.dup, 1) := by decide +kernel
theorem dX11_init_216 : decode yX11_init.2.1 216 = .ok (.invokespecial 96, 3) := by decide +kernel
theorem dX11_init_219 : decode yX11_init.2.1 219 = .ok (.aastore, 1) := by decide +kernel
theorem dX11_init_220 : decode yX11_init.2.1 220 = .ok (.iinc 1 1, 3) := by decide +kernel
theorem dX11_init_223 : decode yX11_init.2.1 223 = .ok (.goto (-22), 3) := by decide +kernel
theorem dX11_init_226 : decode yX11_init.2.1 226 = .ok (.sipush 1681, 3) := by decide +kernel
theorem dX11_init_229 : decode yX11_init.2.1 229 = .ok (.newarray .long, 2) := by decide +kernel
theorem dX11_init_231 : decode yX11_init.2.1 231 = .ok (.astore_n 1, 1) := by decide +kernel
theorem dX11_init_232 : decode yX11_init.2.1 232 = .ok (.aload_n 0, 1) := by decide +kernel
theorem dX11_init_233 : decode yX11_init.2.1 233 = .ok (.new 97, 3) := by decide +kernel
theorem dX11_init_236 : decode yX11_init.2.1 236 = .ok (.dup, 1) := by decide +kernel
theorem dX11_init_237 : decode yX11_init.2.1 237 = .ok (.aload_n 1, 1) := by decide +kernel
theorem dX11_init_238 : decode yX11_init.2.1 238 = .ok (.invokespecial 99, 3) := by decide +kernel
theorem dX11_init_241 : decode yX11_init.2.1 241 = .ok (.putfield 102, 3) := by decide +kernel
theorem dX11_init_244 : decode yX11_init.2.1 244 = .ok (.aload_n 0, 1) := by decide +kernel
theorem dX11_init_245 : decode yX11_init.2.1 245 = .ok (.new 106, 3) := by decide +kernel
theorem dX11_init_248 : decode yX11_init.2.1 248 = .ok (.dup, 1) := by decide +kernel
theorem dX11_init_249 : decode yX11_init.2.1 249 = .ok (.aload_n 1, 1) := by decide +kernel
theorem dX11_init_250 : decode yX11_init.2.1 250 = .ok (.invokespecial 108, 3) := by decide +kernel
theorem dX11_init_253 : decode yX11_init.2.1 253 = .ok (.putfield 109, 3) := by decide +kernel
theorem dX11_init_256 : decode yX11_init.2.1 256 = .ok (.return_, 1) := by decide +kernel
theorem dX11_row_0 : decode yX11_row.2.1 0 = .ok (.iload_n 1, 1) := by decide +kernel
theorem dX11_row_1 : decode yX11_row.2.1 1 = .ok (.invokestatic 113, 3) := by decide +kernel
theorem dX11_row_4 : decode yX11_row.2.1 4 = .ok (.ifCond .ne 9, 3) := by decide +kernel
theorem dX11_row_7 : decode yX11_row.2.1 7 = .ok (.iload_n 2, 1) := by decide +kernel
theorem dX11_row_8 : decode yX11_row.2.1 8 = .ok (.bipush 40, 2) := by decide +kernel
theorem dX11_row_10 : decode yX11_row.2.1 10 = .ok (.if_icmp .le 5, 3) := by decide +kernel
theorem dX11_row_13 : decode yX11_row.2.1 13 = .ok (.iconst (-1), 1) := by decide +kernel
theorem dX11_row_14 : decode yX11_row.2.1 14 = .ok (.ireturn, 1) := by decide +kernel
theorem dX11_row_15 : decode yX11_row.2.1 15 = .ok (.iload_n 2, 1) := by decide +kernel
theorem dX11_row_16 : decode yX11_row.2.1 16 = .ok (.ifCond .ge 9, 3) := by decide +kernel
theorem dX11_row_19 : decode yX11_row.2.1 19 = .ok (.aload_n 0, 1) := by decide +kernel
theorem dX11_row_20 : decode yX11_row.2.1 20 = .ok (.iconst 5, 1) := by decide +kernel
theorem dX11_row_21 : decode yX11_row.2.1 21 = .ok (.invokevirtual 117, 3) := by decide +kernel
theorem dX11_row_24 : decode yX11_row.2.1 24 = .ok (.ireturn, 1) := by decide +kernel
theorem dX11_row_25 : decode yX11_row.2.1 25 = .ok (.aload_n 0, 1) := by decide +kernel
theorem dX11_row_26 : decode yX11_row.2.1 26 = .ok (.getfield 11, 3) := by decide +kernel
theorem dX11_row_29 : decode yX11_row.2.1 29 = .ok (.iload_n 1, 1) := by decide +kernel
theorem dX11_row_30 : decode yX11_row.2.1 30 = .ok (.aaload, 1) := by decide +kernel
theorem dX11_row_31 : decode yX11_row.2.1 31 = .ok (.iload_n 2, 1) := by decide +kernel
theorem dX11_row_32 : decode yX11_row.2.1 32 = .ok (.iconst 0, 1) := by decide +kernel
theorem dX11_row_33 : decode yX11_row.2.1 33 = .ok (.invokevirtual 121, 3) := by decide +kernel
theorem dX11_row_36 : decode yX11_row.2.1 36 = .ok (.iload_n 2, 1) := by decide +kernel
theorem dX11_row_37 : decode yX11_row.2.1 37 = .ok (.ireturn, 1) := by decide +kernel
theorem dX11_lay_0 : decode yX11_lay.2.1 0 = .ok (.aload_n 0, 1) := by decide +kernel
theorem dX11_lay_1 : decode yX11_lay.2.1 1 = .ok (.iload_n 1, 1) := by decide +kernel
theorem dX11_lay_2 : decode yX11_lay.2.1 2 = .ok (.iload_n 2, 1) := by decide +kernel
theorem dX11_lay_3 : decode yX11_lay.2.1 3 = .ok (.invokevirtual 125, 3) := by decide +kernel
theorem dX11_lay_6 : decode yX11_lay.2.1 6 = .ok (.istore 4, 2) := by decide +kernel
theorem dX11_lay_8 : decode yX11_lay.2.1 8 = .ok (.iload 4, 2) := by decide +kernel
theorem dX11_lay_10 : decode yX11_lay.2.1 10 = .ok (.ifCond .eq 6, 3) := by decide +kernel
theorem dX11_lay_13 : decode yX11_lay.2.1 13 = .ok (.iload 4, 2) := by decide +kernel
theorem dX11_lay_15 : decode yX11_lay.2.1 15 = .ok (.ireturn, 1) := by decide +kernel
theorem dX11_lay_16 : decode yX11_lay.2.1 16 = .ok (.aload_n 0, 1) := by decide +kernel
theorem dX11_lay_17 : decode yX11_lay.2.1 17 = .ok (.aload_n 0, 1) := by decide +kernel
theorem dX11_lay_18 : decode yX11_lay.2.1 18 = .ok (.getfield 11, 3) := by decide +kernel
theorem dX11_lay_21 : decode yX11_lay.2.1 21 = .ok (.iload_n 1, 1) := by decide +kernel
theorem dX11_lay_22 : decode yX11_lay.2.1 22 = .ok (.aaload, 1) := by decide +kernel
theorem dX11_lay_23 : decode yX11_lay.2.1 23 = .ok (.getfield 129, 3) := by decide +kernel
theorem dX11_lay_26 : decode yX11_lay.2.1 26 = .ok (.iload_n 2, 1) := by decide +kernel
theorem dX11_lay_27 : decode yX11_lay.2.1 27 = .ok (.iaload, 1) := by decide +kernel
theorem dX11_lay_28 : decode yX11_lay.2.1 28 = .ok (.putfield 28, 3) := by decide +kernel
theorem dX11_lay_31 : decode yX11_lay.2.1 31 = .ok (.aload_n 0, 1) := by decide +kernel
theorem dX11_lay_32 : decode yX11_lay.2.1 32 = .ok (.getfield 11, 3) := by decide +kernel
theorem dX11_lay_35 : decode yX11_lay.2.1 35 = .ok (.iload_n 1, 1) := by decide +kernel
theorem dX11_lay_36 : decode yX11_lay.2.1 36 = .ok (.aaload, 1) := by decide +kernel
theorem dX11_lay_37 : decode yX11_lay.2.1 37 = .ok (.getfield 129, 3) := by decide +kernel
theorem dX11_lay_40 : decode yX11_lay.2.1 40 = .ok (.iload_n 2, 1) := by decide +kernel
theorem dX11_lay_41 : decode yX11_lay.2.1 41 = .ok (.iload_n 3, 1) := by decide +kernel
theorem dX11_lay_42 : decode yX11_lay.2.1 42 = .ok (.iastore, 1) := by decide +kernel
theorem dX11_lay_43 : decode yX11_lay.2.1 43 = .ok (.iconst 1, 1) := by decide +kernel
theorem dX11_lay_44 : decode yX11_lay.2.1 44 = .ok (.ireturn, 1) := by decide +kernel
theorem dX11_at_0 : decode yX11_at.2.1 0 = .ok (.aload_n 0, 1) := by decide +kernel
theorem dX11_at_1 : decode yX11_at.2.1 1 = .ok (.iload_n 1, 1) := by decide +kernel
theorem dX11_at_2 : decode yX11_at.2.1 2 = .ok (.iload_n 2, 1) := by decide +kernel
theorem dX11_at_3 : decode yX11_at.2.1 3 = .ok (.invokevirtual 125, 3) := by decide +kernel
theorem dX11_at_6 : decode yX11_at.2.1 6 = .ok (.istore_n 3, 1) := by decide +kernel
theorem dX11_at_7 : decode yX11_at.2.1 7 = .ok (.iload_n 3, 1) := by decide +kernel
theorem dX11_at_8 : decode yX11_at.2.1 8 = .ok (.ifCond .eq 5, 3) := by decide +kernel
theorem dX11_at_11 : decode yX11_at.2.1 11 = .ok (.iload_n 3, 1) := by decide +kernel
theorem dX11_at_12 : decode yX11_at.2.1 12 = .ok (.ireturn, 1) := by decide +kernel
theorem dX11_at_13 : decode yX11_at.2.1 13 = .ok (.aload_n 0, 1) := by decide +kernel
theorem dX11_at_14 : decode yX11_at.2.1 14 = .ok (.aload_n 0, 1) := by decide +kernel
theorem dX11_at_15 : decode yX11_at.2.1 15 = .ok (.getfield 11, 3) := by decide +kernel
theorem dX11_at_18 : decode yX11_at.2.1 18 = .ok (.iload_n 1, 1) := by decide +kernel
theorem dX11_at_19 : decode yX11_at.2.1 19 = .ok (.aaload, 1) := by decide +kernel
theorem dX11_at_20 : decode yX11_at.2.1 20 = .ok (.getfield 129, 3) := by decide +kernel
theorem dX11_at_23 : decode yX11_at.2.1 23 = .ok (.iload_n 2, 1) := by decide +kernel
theorem dX11_at_24 : decode yX11_at.2.1 24 = .ok (.iaload, 1) := by decide +kernel
theorem dX11_at_25 : decode yX11_at.2.1 25 = .ok (.putfield 28, 3) := by decide +kernel
theorem dX11_at_28 : decode yX11_at.2.1 28 = .ok (.iconst 1, 1) := by decide +kernel
theorem dX11_at_29 : decode yX11_at.2.1 29 = .ok (.ireturn, 1) := by decide +kernel
theorem dX11_tear_0 : decode yX11_tear.2.1 0 = .ok (.aload_n 0, 1) := by decide +kernel
theorem dX11_tear_1 : decode yX11_tear.2.1 1 = .ok (.iload_n 1, 1) := by decide +kernel
theorem dX11_tear_2 : decode yX11_tear.2.1 2 = .ok (.invokevirtual 132, 3) := by decide +kernel
theorem dX11_tear_5 : decode yX11_tear.2.1 5 = .ok (.istore_n 2, 1) := by decide +kernel
theorem dX11_tear_6 : decode yX11_tear.2.1 6 = .ok (.iload_n 2, 1) := by decide +kernel
theorem dX11_tear_7 : decode yX11_tear.2.1 7 = .ok (.ifCond .eq 5, 3) := by decide +kernel
theorem dX11_tear_10 : decode yX11_tear.2.1 10 = .ok (.iload_n 2, 1) := by decide +kernel
theorem dX11_tear_11 : decode yX11_tear.2.1 11 = .ok (.ireturn, 1) := by decide +kernel
theorem dX11_tear_12 : decode yX11_tear.2.1 12 = .ok (.aload_n 0, 1) := by decide +kernel
theorem dX11_tear_13 : decode yX11_tear.2.1 13 = .ok (.getfield 11, 3) := by decide +kernel
theorem dX11_tear_16 : decode yX11_tear.2.1 16 = .ok (.iload_n 1, 1) := by decide +kernel
theorem dX11_tear_17 : decode yX11_tear.2.1 17 = .ok (.aaload, 1) := by decide +kernel
theorem dX11_tear_18 : decode yX11_tear.2.1 18 = .ok (.iconst (-1), 1) := by decide +kernel
theorem dX11_tear_19 : decode yX11_tear.2.1 19 = .ok (.putfield 135, 3) := by decide +kernel
theorem dX11_tear_22 : decode yX11_tear.2.1 22 = .ok (.iconst 1, 1) := by decide +kernel
theorem dX11_tear_23 : decode yX11_tear.2.1 23 = .ok (.ireturn, 1) := by decide +kernel
theorem dX11_copy_0 : decode yX11_copy.2.1 0 = .ok (.iload_n 1, 1) := by decide +kernel
theorem dX11_copy_1 : decode yX11_copy.2.1 1 = .ok (.invokestatic 113, 3) := by decide +kernel
theorem dX11_copy_4 : decode yX11_copy.2.1 4 = .ok (.ifCond .ne 10, 3) := by decide +kernel
theorem dX11_copy_7 : decode yX11_copy.2.1 7 = .ok (.iload_n 3, 1) := by decide +kernel
theorem dX11_copy_8 : decode yX11_copy.2.1 8 = .ok (.invokestatic 113, 3) := by decide +kernel
theorem dX11_copy_11 : decode yX11_copy.2.1 11 = .ok (.ifCond .eq 5, 3) := by decide +kernel
theorem dX11_copy_14 : decode yX11_copy.2.1 14 = .ok (.iconst (-1), 1) := by decide +kernel
theorem dX11_copy_15 : decode yX11_copy.2.1 15 = .ok (.ireturn, 1) := by decide +kernel
theorem dX11_copy_16 : decode yX11_copy.2.1 16 = .ok (.iload 5, 2) := by decide +kernel
theorem dX11_copy_18 : decode yX11_copy.2.1 18 = .ok (.ifCond .ge 9, 3) := by decide +kernel
theorem dX11_copy_21 : decode yX11_copy.2.1 21 = .ok (.aload_n 0, 1) := by decide +kernel
theorem dX11_copy_22 : decode yX11_copy.2.1 22 = .ok (.iconst 5, 1) := by decide +kernel
theorem dX11_copy_23 : decode yX11_copy.2.1 23 = .ok (.invokevirtual 117, 3) := by decide +kernel
theorem dX11_copy_26 : decode yX11_copy.2.1 26 = .ok (.ireturn, 1) := by decide +kernel
theorem dX11_copy_27 : decode yX11_copy.2.1 27 = .ok (.aload_n 0, 1) := by decide +kernel
theorem dX11_copy_28 : decode yX11_copy.2.1 28 = .ok (.getfield 11, 3) := by decide +kernel
theorem dX11_copy_31 : decode yX11_copy.2.1 31 = .ok (.iload_n 1, 1) := by decide +kernel
theorem dX11_copy_32 : decode yX11_copy.2.1 32 = .ok (.aaload, 1) := by decide +kernel
theorem dX11_copy_33 : decode yX11_copy.2.1 33 = .ok (.invokevirtual 138, 3) := by decide +kernel
theorem dX11_copy_36 : decode yX11_copy.2.1 36 = .ok (.ifCond .ne 15, 3) := by decide +kernel
theorem dX11_copy_39 : decode yX11_copy.2.1 39 = .ok (.aload_n 0, 1) := by decide +kernel
theorem dX11_copy_40 : decode yX11_copy.2.1 40 = .ok (.getfield 11, 3) := by decide +kernel
theorem dX11_copy_43 : decode yX11_copy.2.1 43 = .ok (.iload_n 3, 1) := by decide +kernel
theorem dX11_copy_44 : decode yX11_copy.2.1 44 = .ok (.aaload, 1) := by decide +kernel
theorem dX11_copy_45 : decode yX11_copy.2.1 45 = .ok (.invokevirtual 138, 3) := by decide +kernel
theorem dX11_copy_48 : decode yX11_copy.2.1 48 = .ok (.ifCond .eq 9, 3) := by decide +kernel
theorem dX11_copy_51 : decode yX11_copy.2.1 51 = .ok (.aload_n 0, 1) := by decide +kernel
theorem dX11_copy_52 : decode yX11_copy.2.1 52 = .ok (.iconst 1, 1) := by decide +kernel
theorem dX11_copy_53 : decode yX11_copy.2.1 53 = .ok (.invokevirtual 117, 3) := by decide +kernel
theorem dX11_copy_56 : decode yX11_copy.2.1 56 = .ok (.ireturn, 1) := by decide +kernel
theorem dX11_copy_57 : decode yX11_copy.2.1 57 = .ok (.aload_n 0, 1) := by decide +kernel
theorem dX11_copy_58 : decode yX11_copy.2.1 58 = .ok (.getfield 11, 3) := by decide +kernel
theorem dX11_copy_61 : decode yX11_copy.2.1 61 = .ok (.iload_n 1, 1) := by decide +kernel
theorem dX11_copy_62 : decode yX11_copy.2.1 62 = .ok (.aaload, 1) := by decide +kernel
theorem dX11_copy_63 : decode yX11_copy.2.1 63 = .ok (.iload_n 2, 1) := by decide +kernel
theorem dX11_copy_64 : decode yX11_copy.2.1 64 = .ok (.iload 5, 2) := by decide +kernel
theorem dX11_copy_66 : decode yX11_copy.2.1 66 = .ok (.invokevirtual 142, 3) := by decide +kernel
theorem dX11_copy_69 : decode yX11_copy.2.1 69 = .ok (.ifCond .eq 19, 3) := by decide +kernel
theorem dX11_copy_72 : decode yX11_copy.2.1 72 = .ok (.aload_n 0, 1) := by decide +kernel
theorem dX11_copy_73 : decode yX11_copy.2.1 73 = .ok (.getfield 11, 3) := by decide +kernel
theorem dX11_copy_76 : decode yX11_copy.2.1 76 = .ok (.iload_n 3, 1) := by decide +kernel
theorem dX11_copy_77 : decode yX11_copy.2.1 77 = .ok (.aaload, 1) := by decide +kernel
theorem dX11_copy_78 : decode yX11_copy.2.1 78 = .ok (.iload 4, 2) := by decide +kernel
theorem dX11_copy_80 : decode yX11_copy.2.1 80 = .ok (.iload 5, 2) := by decide +kernel
theorem dX11_copy_82 : decode yX11_copy.2.1 82 = .ok (.invokevirtual 142, 3) := by decide +kernel
theorem dX11_copy_85 : decode yX11_copy.2.1 85 = .ok (.ifCond .ne 9, 3) := by decide +kernel
theorem dX11_copy_88 : decode yX11_copy.2.1 88 = .ok (.aload_n 0, 1) := by decide +kernel
theorem dX11_copy_89 : decode yX11_copy.2.1 89 = .ok (.iconst 2, 1) := by decide +kernel
theorem dX11_copy_90 : decode yX11_copy.2.1 90 = .ok (.invokevirtual 117, 3) := by decide +kernel
theorem dX11_copy_93 : decode yX11_copy.2.1 93 = .ok (.ireturn, 1) := by decide +kernel
theorem dX11_copy_94 : decode yX11_copy.2.1 94 = .ok (.aload_n 0, 1) := by decide +kernel
theorem dX11_copy_95 : decode yX11_copy.2.1 95 = .ok (.getfield 11, 3) := by decide +kernel
theorem dX11_copy_98 : decode yX11_copy.2.1 98 = .ok (.iload_n 1, 1) := by decide +kernel
theorem dX11_copy_99 : decode yX11_copy.2.1 99 = .ok (.aaload, 1) := by decide +kernel
theorem dX11_copy_100 : decode yX11_copy.2.1 100 = .ok (.getfield 129, 3) := by decide +kernel
theorem dX11_copy_103 : decode yX11_copy.2.1 103 = .ok (.iload_n 2, 1) := by decide +kernel
theorem dX11_copy_104 : decode yX11_copy.2.1 104 = .ok (.aload_n 0, 1) := by decide +kernel
theorem dX11_copy_105 : decode yX11_copy.2.1 105 = .ok (.getfield 11, 3) := by decide +kernel
theorem dX11_copy_108 : decode yX11_copy.2.1 108 = .ok (.iload_n 3, 1) := by decide +kernel
theorem dX11_copy_109 : decode yX11_copy.2.1 109 = .ok (.aaload, 1) := by decide +kernel
theorem dX11_copy_110 : decode yX11_copy.2.1 110 = .ok (.getfield 129, 3) := by decide +kernel
theorem dX11_copy_113 : decode yX11_copy.2.1 113 = .ok (.iload 4, 2) := by decide +kernel
theorem dX11_copy_115 : decode yX11_copy.2.1 115 = .ok (.iload 5, 2) := by decide +kernel
theorem dX11_copy_117 : decode yX11_copy.2.1 117 = .ok (.invokestatic 146, 3) := by decide +kernel
theorem dX11_copy_120 : decode yX11_copy.2.1 120 = .ok (.iconst 1, 1) := by decide +kernel
theorem dX11_copy_121 : decode yX11_copy.2.1 121 = .ok (.ireturn, 1) := by decide +kernel
theorem dX11_mean_0 : decode yX11_mean.2.1 0 = .ok (.aload_n 0, 1) := by decide +kernel
theorem dX11_mean_1 : decode yX11_mean.2.1 1 = .ok (.iload_n 1, 1) := by decide +kernel
theorem dX11_mean_2 : decode yX11_mean.2.1 2 = .ok (.invokevirtual 132, 3) := by decide +kernel
theorem dX11_mean_5 : decode yX11_mean.2.1 5 = .ok (.istore_n 2, 1) := by decide +kernel
theorem dX11_mean_6 : decode yX11_mean.2.1 6 = .ok (.iload_n 2, 1) := by decide +kernel
theorem dX11_mean_7 : decode yX11_mean.2.1 7 = .ok (.ifCond .eq 5, 3) := by decide +kernel
theorem dX11_mean_10 : decode yX11_mean.2.1 10 = .ok (.iload_n 2, 1) := by decide +kernel
theorem dX11_mean_11 : decode yX11_mean.2.1 11 = .ok (.ireturn, 1) := by decide +kernel
theorem dX11_mean_12 : decode yX11_mean.2.1 12 = .ok (.aload_n 0, 1) := by decide +kernel
theorem dX11_mean_13 : decode yX11_mean.2.1 13 = .ok (.getfield 11, 3) := by decide +kernel
theorem dX11_mean_16 : decode yX11_mean.2.1 16 = .ok (.iload_n 1, 1) := by decide +kernel
theorem dX11_mean_17 : decode yX11_mean.2.1 17 = .ok (.aaload, 1) := by decide +kernel
theorem dX11_mean_18 : decode yX11_mean.2.1 18 = .ok (.astore_n 3, 1) := by decide +kernel
theorem dX11_mean_19 : decode yX11_mean.2.1 19 = .ok (.aload_n 3, 1) := by decide +kernel
theorem dX11_mean_20 : decode yX11_mean.2.1 20 = .ok (.getfield 135, 3) := by decide +kernel
theorem dX11_mean_23 : decode yX11_mean.2.1 23 = .ok (.ifCond .ne 9, 3) := by decide +kernel
theorem dX11_mean_26 : decode yX11_mean.2.1 26 = .ok (.aload_n 0, 1) := by decide +kernel
theorem dX11_mean_27 : decode yX11_mean.2.1 27 = .ok (.iconst 4, 1) := by decide +kernel
theorem dX11_mean_28 : decode yX11_mean.2.1 28 = .ok (.invokevirtual 117, 3) := by decide +kernel
theorem dX11_mean_31 : decode yX11_mean.2.1 31 = .ok (.ireturn, 1) := by decide +kernel
theorem dX11_mean_32 : decode yX11_mean.2.1 32 = .ok (.lconst 0, 1) := by decide +kernel
theorem dX11_mean_33 : decode yX11_mean.2.1 33 = .ok (.lstore 4, 2) := by decide +kernel
theorem dX11_mean_35 : decode yX11_mean.2.1 35 = .ok (.iconst 0, 1) := by decide +kernel
theorem dX11_mean_36 : decode yX11_mean.2.1 36 = .ok (.istore 6, 2) := by decide +kernel
theorem dX11_mean_38 : decode yX11_mean.2.1 38 = .ok (.iload 6, 2) := by decide +kernel
theorem dX11_mean_40 : decode yX11_mean.2.1 40 = .ok (.aload_n 3, 1) := by decide +kernel
theorem dX11_mean_41 : decode yX11_mean.2.1 41 = .ok (.getfield 135, 3) := by decide +kernel
theorem dX11_mean_44 : decode yX11_mean.2.1 44 = .ok (.if_icmp .ge 22, 3) := by decide +kernel
theorem dX11_mean_47 : decode yX11_mean.2.1 47 = .ok (.lload 4, 2) := by decide +kernel
theorem dX11_mean_49 : decode yX11_mean.2.1 49 = .ok (.aload_n 3, 1) := by decide +kernel
theorem dX11_mean_50 : decode yX11_mean.2.1 50 = .ok (.getfield 129, 3) := by decide +kernel
theorem dX11_mean_53 : decode yX11_mean.2.1 53 = .ok (.iload 6, 2) := by decide +kernel
theorem dX11_mean_55 : decode yX11_mean.2.1 55 = .ok (.iaload, 1) := by decide +kernel
theorem dX11_mean_56 : decode yX11_mean.2.1 56 = .ok (.i2l, 1) := by decide +kernel
theorem dX11_mean_57 : decode yX11_mean.2.1 57 = .ok (.ladd, 1) := by decide +kernel
theorem dX11_mean_58 : decode yX11_mean.2.1 58 = .ok (.lstore 4, 2) := by decide +kernel
theorem dX11_mean_60 : decode yX11_mean.2.1 60 = .ok (.iinc 6 1, 3) := by decide +kernel
theorem dX11_mean_63 : decode yX11_mean.2.1 63 = .ok (.goto (-25), 3) := by decide +kernel
theorem dX11_mean_66 : decode yX11_mean.2.1 66 = .ok (.aload_n 0, 1) := by decide +kernel
theorem dX11_mean_67 : decode yX11_mean.2.1 67 = .ok (.lload 4, 2) := by decide +kernel
theorem dX11_mean_69 : decode yX11_mean.2.1 69 = .ok (.aload_n 3, 1) := by decide +kernel
theorem dX11_mean_70 : decode yX11_mean.2.1 70 = .ok (.getfield 135, 3) := by decide +kernel
theorem dX11_mean_73 : decode yX11_mean.2.1 73 = .ok (.i2l, 1) := by decide +kernel
theorem dX11_mean_74 : decode yX11_mean.2.1 74 = .ok (.ldiv, 1) := by decide +kernel
theorem dX11_mean_75 : decode yX11_mean.2.1 75 = .ok (.l2i, 1) := by decide +kernel
theorem dX11_mean_76 : decode yX11_mean.2.1 76 = .ok (.putfield 28, 3) := by decide +kernel
theorem dX11_mean_79 : decode yX11_mean.2.1 79 = .ok (.iconst 1, 1) := by decide +kernel
theorem dX11_mean_80 : decode yX11_mean.2.1 80 = .ok (.ireturn, 1) := by decide +kernel
theorem dX11_text_0 : decode yX11_text.2.1 0 = .ok (.iload_n 1, 1) := by decide +kernel
theorem dX11_text_1 : decode yX11_text.2.1 1 = .ok (.invokestatic 152, 3) := by decide +kernel
theorem dX11_text_4 : decode yX11_text.2.1 4 = .ok (.ifCond .ne 9, 3) := by decide +kernel
theorem dX11_text_7 : decode yX11_text.2.1 7 = .ok (.iload_n 2, 1) := by decide +kernel
theorem dX11_text_8 : decode yX11_text.2.1 8 = .ok (.bipush 60, 2) := by decide +kernel
theorem dX11_text_10 : decode yX11_text.2.1 10 = .ok (.if_icmp .le 5, 3) := by decide +kernel
theorem dX11_text_13 : decode yX11_text.2.1 13 = .ok (.iconst (-1), 1) := by decide +kernel
theorem dX11_text_14 : decode yX11_text.2.1 14 = .ok (.ireturn, 1) := by decide +kernel
theorem dX11_text_15 : decode yX11_text.2.1 15 = .ok (.iload_n 2, 1) := by decide +kernel
theorem dX11_text_16 : decode yX11_text.2.1 16 = .ok (.ifCond .ge 9, 3) := by decide +kernel
theorem dX11_text_19 : decode yX11_text.2.1 19 = .ok (.aload_n 0, 1) := by decide +kernel
theorem dX11_text_20 : decode yX11_text.2.1 20 = .ok (.iconst 5, 1) := by decide +kernel
theorem dX11_text_21 : decode yX11_text.2.1 21 = .ok (.invokevirtual 117, 3) := by decide +kernel
theorem dX11_text_24 : decode yX11_text.2.1 24 = .ok (.ireturn, 1) := by decide +kernel
theorem dX11_text_25 : decode yX11_text.2.1 25 = .ok (.aload_n 0, 1) := by decide +kernel
theorem dX11_text_26 : decode yX11_text.2.1 26 = .ok (.getfield 15, 3) := by decide +kernel
theorem dX11_text_29 : decode yX11_text.2.1 29 = .ok (.iload_n 1, 1) := by decide +kernel
theorem dX11_text_30 : decode yX11_text.2.1 30 = .ok (.aaload, 1) := by decide +kernel
theorem dX11_text_31 : decode yX11_text.2.1 31 = .ok (.iload_n 2, 1) := by decide +kernel
theorem dX11_text_32 : decode yX11_text.2.1 32 = .ok (.bipush 32, 2) := by decide +kernel
theorem dX11_text_34 : decode yX11_text.2.1 34 = .ok (.invokevirtual 121, 3) := by decide +kernel
theorem dX11_text_37 : decode yX11_text.2.1 37 = .ok (.iload_n 2, 1) := by decide +kernel
theorem dX11_text_38 : decode yX11_text.2.1 38 = .ok (.ireturn, 1) := by decide +kernel
theorem dX11_put_0 : decode yX11_put.2.1 0 = .ok (.aload_n 0, 1) := by decide +kernel
theorem dX11_put_1 : decode yX11_put.2.1 1 = .ok (.iload_n 1, 1) := by decide +kernel
theorem dX11_put_2 : decode yX11_put.2.1 2 = .ok (.invokevirtual 155, 3) := by decide +kernel
theorem dX11_put_5 : decode yX11_put.2.1 5 = .ok (.istore 4, 2) := by decide +kernel
theorem dX11_put_7 : decode yX11_put.2.1 7 = .ok (.iload 4, 2) := by decide +kernel
theorem dX11_put_9 : decode yX11_put.2.1 9 = .ok (.ifCond .eq 6, 3) := by decide +kernel
theorem dX11_put_12 : decode yX11_put.2.1 12 = .ok (.iload 4, 2) := by decide +kernel
theorem dX11_put_14 : decode yX11_put.2.1 14 = .ok (.ireturn, 1) := by decide +kernel
theorem dX11_put_15 : decode yX11_put.2.1 15 = .ok (.aload_n 0, 1) := by decide +kernel
theorem dX11_put_16 : decode yX11_put.2.1 16 = .ok (.getfield 15, 3) := by decide +kernel
theorem dX11_put_19 : decode yX11_put.2.1 19 = .ok (.iload_n 1, 1) := by decide +kernel
theorem dX11_put_20 : decode yX11_put.2.1 20 = .ok (.aaload, 1) := by decide +kernel
theorem dX11_put_21 : decode yX11_put.2.1 21 = .ok (.iload_n 2, 1) := by decide +kernel
theorem dX11_put_22 : decode yX11_put.2.1 22 = .ok (.invokevirtual 158, 3) := by decide +kernel
theorem dX11_put_25 : decode yX11_put.2.1 25 = .ok (.ifCond .ne 9, 3) := by decide +kernel
theorem dX11_put_28 : decode yX11_put.2.1 28 = .ok (.aload_n 0, 1) := by decide +kernel
theorem dX11_put_29 : decode yX11_put.2.1 29 = .ok (.iconst 2, 1) := by decide +kernel
theorem dX11_put_30 : decode yX11_put.2.1 30 = .ok (.invokevirtual 117, 3) := by decide +kernel
theorem dX11_put_33 : decode yX11_put.2.1 33 = .ok (.ireturn, 1) := by decide +kernel
theorem dX11_put_34 : decode yX11_put.2.1 34 = .ok (.aload_n 0, 1) := by decide +kernel
theorem dX11_put_35 : decode yX11_put.2.1 35 = .ok (.getfield 15, 3) := by decide +kernel
theorem dX11_put_38 : decode yX11_put.2.1 38 = .ok (.iload_n 1, 1) := by decide +kernel
theorem dX11_put_39 : decode yX11_put.2.1 39 = .ok (.aaload, 1) := by decide +kernel
theorem dX11_put_40 : decode yX11_put.2.1 40 = .ok (.getfield 129, 3) := by decide +kernel
theorem dX11_put_43 : decode yX11_put.2.1 43 = .ok (.iload_n 2, 1) := by decide +kernel
theorem dX11_put_44 : decode yX11_put.2.1 44 = .ok (.iaload, 1) := by decide +kernel
theorem dX11_put_45 : decode yX11_put.2.1 45 = .ok (.istore 5, 2) := by decide +kernel
theorem dX11_put_47 : decode yX11_put.2.1 47 = .ok (.aload_n 0, 1) := by decide +kernel
theorem dX11_put_48 : decode yX11_put.2.1 48 = .ok (.getfield 15, 3) := by decide +kernel
theorem dX11_put_51 : decode yX11_put.2.1 51 = .ok (.iload_n 1, 1) := by decide +kernel
theorem dX11_put_52 : decode yX11_put.2.1 52 = .ok (.aaload, 1) := by decide +kernel
theorem dX11_put_53 : decode yX11_put.2.1 53 = .ok (.getfield 129, 3) := by decide +kernel
theorem dX11_put_56 : decode yX11_put.2.1 56 = .ok (.iload_n 2, 1) := by decide +kernel
theorem dX11_put_57 : decode yX11_put.2.1 57 = .ok (.iload_n 3, 1) := by decide +kernel
theorem dX11_put_58 : decode yX11_put.2.1 58 = .ok (.i2b, 1) := by decide +kernel
theorem dX11_put_59 : decode yX11_put.2.1 59 = .ok (.iastore, 1) := by decide +kernel
theorem dX11_put_60 : decode yX11_put.2.1 60 = .ok (.iload 5, 2) := by decide +kernel
theorem dX11_put_62 : decode yX11_put.2.1 62 = .ok (.sipush 1000, 3) := by decide +kernel
theorem dX11_put_65 : decode yX11_put.2.1 65 = .ok (.iadd, 1) := by decide +kernel
theorem dX11_put_66 : decode yX11_put.2.1 66 = .ok (.ireturn, 1) := by decide +kernel
theorem dX11_letters_0 : decode yX11_letters.2.1 0 = .ok (.iload_n 1, 1) := by decide +kernel
theorem dX11_letters_1 : decode yX11_letters.2.1 1 = .ok (.iconst 1, 1) := by decide +kernel
theorem dX11_letters_2 : decode yX11_letters.2.1 2 = .ok (.if_icmp .lt 9, 3) := by decide +kernel
theorem dX11_letters_5 : decode yX11_letters.2.1 5 = .ok (.iload_n 1, 1) := by decide +kernel
theorem dX11_letters_6 : decode yX11_letters.2.1 6 = .ok (.bipush 6, 2) := by decide +kernel
theorem dX11_letters_8 : decode yX11_letters.2.1 8 = .ok (.if_icmp .le 5, 3) := by decide +kernel
theorem dX11_letters_11 : decode yX11_letters.2.1 11 = .ok (.iconst (-1), 1) := by decide +kernel
theorem dX11_letters_12 : decode yX11_letters.2.1 12 = .ok (.ireturn, 1) := by decide +kernel
theorem dX11_letters_13 : decode yX11_letters.2.1 13 = .ok (.iconst 0, 1) := by decide +kernel
theorem dX11_letters_14 : decode yX11_letters.2.1 14 = .ok (.istore_n 2, 1) := by decide +kernel
theorem dX11_letters_15 : decode yX11_letters.2.1 15 = .ok (.iload_n 2, 1) := by decide +kernel
theorem dX11_letters_16 : decode yX11_letters.2.1 16 = .ok (.bipush 8, 2) := by decide +kernel
theorem dX11_letters_18 : decode yX11_letters.2.1 18 = .ok (.if_icmp .ge 28, 3) := by decide +kernel
theorem dX11_letters_21 : decode yX11_letters.2.1 21 = .ok (.aload_n 0, 1) := by decide +kernel
theorem dX11_letters_22 : decode yX11_letters.2.1 22 = .ok (.getfield 20, 3) := by decide +kernel
theorem dX11_letters_25 : decode yX11_letters.2.1 25 = .ok (.iload_n 2, 1) := by decide +kernel
theorem dX11_letters_26 : decode yX11_letters.2.1 26 = .ok (.aaload, 1) := by decide +kernel
theorem dX11_letters_27 : decode yX11_letters.2.1 27 = .ok (.getfield 161, 3) := by decide +kernel
theorem dX11_letters_30 : decode yX11_letters.2.1 30 = .ok (.iload_n 1, 1) := by decide +kernel
theorem dX11_letters_31 : decode yX11_letters.2.1 31 = .ok (.invokevirtual 165, 3) := by decide +kernel
theorem dX11_letters_34 : decode yX11_letters.2.1 34 = .ok (.ifCond .ne 6, 3) := by decide +kernel
theorem dX11_letters_37 : decode yX11_letters.2.1 37 = .ok (.bipush (-4), 2) := by decide +kernel
theorem dX11_letters_39 : decode yX11_letters.2.1 39 = .ok (.ireturn, 1) := by decide +kernel
theorem dX11_letters_40 : decode yX11_letters.2.1 40 = .ok (.iinc 2 1, 3) := by decide +kernel
theorem dX11_letters_43 : decode yX11_letters.2.1 43 = .ok (.goto (-28), 3) := by decide +kernel
theorem dX11_letters_46 : decode yX11_letters.2.1 46 = .ok (.aload_n 0, 1) := by decide +kernel
theorem dX11_letters_47 : decode yX11_letters.2.1 47 = .ok (.getfield 24, 3) := by decide +kernel
theorem dX11_letters_50 : decode yX11_letters.2.1 50 = .ok (.istore_n 2, 1) := by decide +kernel
theorem dX11_letters_51 : decode yX11_letters.2.1 51 = .ok (.aload_n 0, 1) := by decide +kernel
theorem dX11_letters_52 : decode yX11_letters.2.1 52 = .ok (.iload_n 1, 1) := by decide +kernel
theorem dX11_letters_53 : decode yX11_letters.2.1 53 = .ok (.putfield 24, 3) := by decide +kernel
theorem dX11_letters_56 : decode yX11_letters.2.1 56 = .ok (.iload_n 2, 1) := by decide +kernel
theorem dX11_letters_57 : decode yX11_letters.2.1 57 = .ok (.ireturn, 1) := by decide +kernel
theorem dX11_word_0 : decode yX11_word.2.1 0 = .ok (.iload_n 1, 1) := by decide +kernel
theorem dX11_word_1 : decode yX11_word.2.1 1 = .ok (.invokestatic 168, 3) := by decide +kernel
theorem dX11_word_4 : decode yX11_word.2.1 4 = .ok (.ifCond .ne 10, 3) := by decide +kernel
theorem dX11_word_7 : decode yX11_word.2.1 7 = .ok (.iload_n 2, 1) := by decide +kernel
theorem dX11_word_8 : decode yX11_word.2.1 8 = .ok (.invokestatic 113, 3) := by decide +kernel
theorem dX11_word_11 : decode yX11_word.2.1 11 = .ok (.ifCond .eq 5, 3) := by decide +kernel
theorem dX11_word_14 : decode yX11_word.2.1 14 = .ok (.iconst (-1), 1) := by decide +kernel
theorem dX11_word_15 : decode yX11_word.2.1 15 = .ok (.ireturn, 1) := by decide +kernel
theorem dX11_word_16 : decode yX11_word.2.1 16 = .ok (.aload_n 0, 1) := by decide +kernel
theorem dX11_word_17 : decode yX11_word.2.1 17 = .ok (.getfield 11, 3) := by decide +kernel
theorem dX11_word_20 : decode yX11_word.2.1 20 = .ok (.iload_n 2, 1) := by decide +kernel
theorem dX11_word_21 : decode yX11_word.2.1 21 = .ok (.aaload, 1) := by decide +kernel
theorem dX11_word_22 : decode yX11_word.2.1 22 = .ok (.astore_n 3, 1) := by decide +kernel
theorem dX11_word_23 : decode yX11_word.2.1 23 = .ok (.aload_n 3, 1) := by decide +kernel
theorem dX11_word_24 : decode yX11_word.2.1 24 = .ok (.invokevirtual 138, 3) := by decide +kernel
theorem dX11_word_27 : decode yX11_word.2.1 27 = .ok (.ifCond .eq 9, 3) := by decide +kernel
theorem dX11_word_30 : decode yX11_word.2.1 30 = .ok (.aload_n 0, 1) := by decide +kernel
theorem dX11_word_31 : decode yX11_word.2.1 31 = .ok (.iconst 1, 1) := by decide +kernel
theorem dX11_word_32 : decode yX11_word.2.1 32 = .ok (.invokevirtual 117, 3) := by decide +kernel
theorem dX11_word_35 : decode yX11_word.2.1 35 = .ok (.ireturn, 1) := by decide +kernel
theorem dX11_word_36 : decode yX11_word.2.1 36 = .ok (.aload_n 3, 1) := by decide +kernel
theorem dX11_word_37 : decode yX11_word.2.1 37 = .ok (.aload_n 0, 1) := by decide +kernel
theorem dX11_word_38 : decode yX11_word.2.1 38 = .ok (.getfield 24, 3) := by decide +kernel
theorem dX11_word_41 : decode yX11_word.2.1 41 = .ok (.invokevirtual 165, 3) := by decide +kernel
theorem dX11_word_44 : decode yX11_word.2.1 44 = .ok (.ifCond .ne 9, 3) := by decide +kernel
theorem dX11_word_47 : decode yX11_word.2.1 47 = .ok (.aload_n 0, 1) := by decide +kernel
theorem dX11_word_48 : decode yX11_word.2.1 48 = .ok (.iconst 3, 1) := by decide +kernel
theorem dX11_word_49 : decode yX11_word.2.1 49 = .ok (.invokevirtual 117, 3) := by decide +kernel
theorem dX11_word_52 : decode yX11_word.2.1 52 = .ok (.ireturn, 1) := by decide +kernel
theorem dX11_word_53 : decode yX11_word.2.1 53 = .ok (.aload_n 0, 1) := by decide +kernel
theorem dX11_word_54 : decode yX11_word.2.1 54 = .ok (.getfield 20, 3) := by decide +kernel
theorem dX11_word_57 : decode yX11_word.2.1 57 = .ok (.iload_n 1, 1) := by decide +kernel
theorem dX11_word_58 : decode yX11_word.2.1 58 = .ok (.aaload, 1) := by decide +kernel
theorem dX11_word_59 : decode yX11_word.2.1 59 = .ok (.aload_n 3, 1) := by decide +kernel
theorem dX11_word_60 : decode yX11_word.2.1 60 = .ok (.getfield 129, 3) := by decide +kernel
theorem dX11_word_63 : decode yX11_word.2.1 63 = .ok (.aload_n 3, 1) := by decide +kernel
theorem dX11_word_64 : decode yX11_word.2.1 64 = .ok (.getfield 135, 3) := by decide +kernel
theorem dX11_word_67 : decode yX11_word.2.1 67 = .ok (.iconst 0, 1) := by decide +kernel
theorem dX11_word_68 : decode yX11_word.2.1 68 = .ok (.iconst 0, 1) := by decide +kernel
theorem dX11_word_69 : decode yX11_word.2.1 69 = .ok (.iconst 0, 1) := by decide +kernel
theorem dX11_word_70 : decode yX11_word.2.1 70 = .ok (.invokevirtual 171, 3) := by decide +kernel
theorem dX11_word_73 : decode yX11_word.2.1 73 = .ok (.ireturn, 1) := by decide +kernel
theorem dX11_fault_0 : decode yX11_fault.2.1 0 = .ok (.aload_n 0, 1) := by decide +kernel
theorem dX11_fault_1 : decode yX11_fault.2.1 1 = .ok (.iload_n 1, 1) := by decide +kernel
theorem dX11_fault_2 : decode yX11_fault.2.1 2 = .ok (.invokevirtual 155, 3) := by decide +kernel
theorem dX11_fault_5 : decode yX11_fault.2.1 5 = .ok (.istore_n 2, 1) := by decide +kernel
theorem dX11_fault_6 : decode yX11_fault.2.1 6 = .ok (.iload_n 2, 1) := by decide +kernel
theorem dX11_fault_7 : decode yX11_fault.2.1 7 = .ok (.ifCond .eq 7, 3) := by decide +kernel
theorem dX11_fault_10 : decode yX11_fault.2.1 10 = .ok (.iload_n 2, 1) := by decide +kernel
theorem dX11_fault_11 : decode yX11_fault.2.1 11 = .ok (.goto 20, 3) := by decide +kernel
theorem dX11_fault_14 : decode yX11_fault.2.1 14 = .ok (.aload_n 0, 1) := by decide +kernel
theorem dX11_fault_15 : decode yX11_fault.2.1 15 = .ok (.getfield 54, 3) := by decide +kernel
theorem dX11_fault_18 : decode yX11_fault.2.1 18 = .ok (.aload_n 0, 1) := by decide +kernel
theorem dX11_fault_19 : decode yX11_fault.2.1 19 = .ok (.getfield 15, 3) := by decide +kernel
theorem dX11_fault_22 : decode yX11_fault.2.1 22 = .ok (.iload_n 1, 1) := by decide +kernel
theorem dX11_fault_23 : decode yX11_fault.2.1 23 = .ok (.aaload, 1) := by decide +kernel
theorem dX11_fault_24 : decode yX11_fault.2.1 24 = .ok (.aload_n 0, 1) := by decide +kernel
theorem dX11_fault_25 : decode yX11_fault.2.1 25 = .ok (.getfield 24, 3) := by decide +kernel
theorem dX11_fault_28 : decode yX11_fault.2.1 28 = .ok (.invokevirtual 175, 3) := by decide +kernel
theorem dX11_fault_31 : decode yX11_fault.2.1 31 = .ok (.ireturn, 1) := by decide +kernel
theorem dX11_tell_0 : decode yX11_tell.2.1 0 = .ok (.iload_n 1, 1) := by decide +kernel
theorem dX11_tell_1 : decode yX11_tell.2.1 1 = .ok (.invokestatic 168, 3) := by decide +kernel
theorem dX11_tell_4 : decode yX11_tell.2.1 4 = .ok (.ifCond .eq 5, 3) := by decide +kernel
theorem dX11_tell_7 : decode yX11_tell.2.1 7 = .ok (.iconst (-1), 1) := by decide +kernel
theorem dX11_tell_8 : decode yX11_tell.2.1 8 = .ok (.ireturn, 1) := by decide +kernel
theorem dX11_tell_9 : decode yX11_tell.2.1 9 = .ok (.aload_n 0, 1) := by decide +kernel
theorem dX11_tell_10 : decode yX11_tell.2.1 10 = .ok (.iload_n 2, 1) := by decide +kernel
theorem dX11_tell_11 : decode yX11_tell.2.1 11 = .ok (.invokevirtual 155, 3) := by decide +kernel
theorem dX11_tell_14 : decode yX11_tell.2.1 14 = .ok (.istore_n 3, 1) := by decide +kernel
theorem dX11_tell_15 : decode yX11_tell.2.1 15 = .ok (.iload_n 3, 1) := by decide +kernel
theorem dX11_tell_16 : decode yX11_tell.2.1 16 = .ok (.ifCond .eq 5, 3) := by decide +kernel
theorem dX11_tell_19 : decode yX11_tell.2.1 19 = .ok (.iload_n 3, 1) := by decide +kernel
theorem dX11_tell_20 : decode yX11_tell.2.1 20 = .ok (.ireturn, 1) := by decide +kernel
theorem dX11_tell_21 : decode yX11_tell.2.1 21 = .ok (.aload_n 0, 1) := by decide +kernel
theorem dX11_tell_22 : decode yX11_tell.2.1 22 = .ok (.getfield 54, 3) := by decide +kernel
theorem dX11_tell_25 : decode yX11_tell.2.1 25 = .ok (.aload_n 0, 1) := by decide +kernel
theorem dX11_tell_26 : decode yX11_tell.2.1 26 = .ok (.getfield 15, 3) := by decide +kernel
theorem dX11_tell_29 : decode yX11_tell.2.1 29 = .ok (.iload_n 2, 1) := by decide +kernel
theorem dX11_tell_30 : decode yX11_tell.2.1 30 = .ok (.aaload, 1) := by decide +kernel
theorem dX11_tell_31 : decode yX11_tell.2.1 31 = .ok (.aload_n 0, 1) := by decide +kernel
theorem dX11_tell_32 : decode yX11_tell.2.1 32 = .ok (.getfield 24, 3) := by decide +kernel
theorem dX11_tell_35 : decode yX11_tell.2.1 35 = .ok (.invokevirtual 175, 3) := by decide +kernel
theorem dX11_tell_38 : decode yX11_tell.2.1 38 = .ok (.bipush (-9), 2) := by decide +kernel
theorem dX11_tell_40 : decode yX11_tell.2.1 40 = .ok (.if_icmp .eq 6, 3) := by decide +kernel
theorem dX11_tell_43 : decode yX11_tell.2.1 43 = .ok (.bipush (-4), 2) := by decide +kernel
theorem dX11_tell_45 : decode yX11_tell.2.1 45 = .ok (.ireturn, 1) := by decide +kernel
theorem dX11_tell_46 : decode yX11_tell.2.1 46 = .ok (.aload_n 0, 1) := by decide +kernel
theorem dX11_tell_47 : decode yX11_tell.2.1 47 = .ok (.getfield 54, 3) := by decide +kernel
theorem dX11_tell_50 : decode yX11_tell.2.1 50 = .ok (.getfield 179, 3) := by decide +kernel
theorem dX11_tell_53 : decode yX11_tell.2.1 53 = .ok (.bipush 40, 2) := by decide +kernel
theorem dX11_tell_55 : decode yX11_tell.2.1 55 = .ok (.if_icmp .le 6, 3) := by decide +kernel
theorem dX11_tell_58 : decode yX11_tell.2.1 58 = .ok (.bipush (-2), 2) := by decide +kernel
theorem dX11_tell_60 : decode yX11_tell.2.1 60 = .ok (.ireturn, 1) := by decide +kernel
theorem dX11_tell_61 : decode yX11_tell.2.1 61 = .ok (.aload_n 0, 1) := by decide +kernel
theorem dX11_tell_62 : decode yX11_tell.2.1 62 = .ok (.getfield 20, 3) := by decide +kernel
theorem dX11_tell_65 : decode yX11_tell.2.1 65 = .ok (.iload_n 1, 1) := by decide +kernel
theorem dX11_tell_66 : decode yX11_tell.2.1 66 = .ok (.aaload, 1) := by decide +kernel
theorem dX11_tell_67 : decode yX11_tell.2.1 67 = .ok (.aload_n 0, 1) := by decide +kernel
theorem dX11_tell_68 : decode yX11_tell.2.1 68 = .ok (.getfield 54, 3) := by decide +kernel
theorem dX11_tell_71 : decode yX11_tell.2.1 71 = .ok (.getfield 180, 3) := by decide +kernel
theorem dX11_tell_74 : decode yX11_tell.2.1 74 = .ok (.aload_n 0, 1) := by decide +kernel
theorem dX11_tell_75 : decode yX11_tell.2.1 75 = .ok (.getfield 54, 3) := by decide +kernel
theorem dX11_tell_78 : decode yX11_tell.2.1 78 = .ok (.getfield 179, 3) := by decide +kernel
theorem dX11_tell_81 : decode yX11_tell.2.1 81 = .ok (.iconst 1, 1) := by decide +kernel
theorem dX11_tell_82 : decode yX11_tell.2.1 82 = .ok (.iconst 0, 1) := by decide +kernel
theorem dX11_tell_83 : decode yX11_tell.2.1 83 = .ok (.aload_n 0, 1) := by decide +kernel
theorem dX11_tell_84 : decode yX11_tell.2.1 84 = .ok (.getfield 15, 3) := by decide +kernel
theorem dX11_tell_87 : decode yX11_tell.2.1 87 = .ok (.iload_n 2, 1) := by decide +kernel
theorem dX11_tell_88 : decode yX11_tell.2.1 88 = .ok (.aaload, 1) := by decide +kernel
theorem dX11_tell_89 : decode yX11_tell.2.1 89 = .ok (.getfield 135, 3) := by decide +kernel
theorem dX11_tell_92 : decode yX11_tell.2.1 92 = .ok (.invokevirtual 171, 3) := by decide +kernel
theorem dX11_tell_95 : decode yX11_tell.2.1 95 = .ok (.ireturn, 1) := by decide +kernel
theorem dX11_join_0 : decode yX11_join.2.1 0 = .ok (.iload_n 1, 1) := by decide +kernel
theorem dX11_join_1 : decode yX11_join.2.1 1 = .ok (.invokestatic 168, 3) := by decide +kernel
theorem dX11_join_4 : decode yX11_join.2.1 4 = .ok (.ifCond .eq 5, 3) := by decide +kernel
theorem dX11_join_7 : decode yX11_join.2.1 7 = .ok (.iconst (-1), 1) := by decide +kernel
theorem dX11_join_8 : decode yX11_join.2.1 8 = .ok (.ireturn, 1) := by decide +kernel
theorem dX11_join_9 : decode yX11_join.2.1 9 = .ok (.aload_n 0, 1) := by decide +kernel
theorem dX11_join_10 : decode yX11_join.2.1 10 = .ok (.iload_n 2, 1) := by decide +kernel
theorem dX11_join_11 : decode yX11_join.2.1 11 = .ok (.iload_n 3, 1) := by decide +kernel
theorem dX11_join_12 : decode yX11_join.2.1 12 = .ok (.invokevirtual 183, 3) := by decide +kernel
theorem dX11_join_15 : decode yX11_join.2.1 15 = .ok (.istore 4, 2) := by decide +kernel
theorem dX11_join_17 : decode yX11_join.2.1 17 = .ok (.iload 4, 2) := by decide +kernel
theorem dX11_join_19 : decode yX11_join.2.1 19 = .ok (.ifCond .eq 6, 3) := by decide +kernel
theorem dX11_join_22 : decode yX11_join.2.1 22 = .ok (.iload 4, 2) := by decide +kernel
theorem dX11_join_24 : decode yX11_join.2.1 24 = .ok (.ireturn, 1) := by decide +kernel
theorem dX11_join_25 : decode yX11_join.2.1 25 = .ok (.aload_n 0, 1) := by decide +kernel
theorem dX11_join_26 : decode yX11_join.2.1 26 = .ok (.getfield 20, 3) := by decide +kernel
theorem dX11_join_29 : decode yX11_join.2.1 29 = .ok (.iload_n 2, 1) := by decide +kernel
theorem dX11_join_30 : decode yX11_join.2.1 30 = .ok (.aaload, 1) := by decide +kernel
theorem dX11_join_31 : decode yX11_join.2.1 31 = .ok (.getfield 161, 3) := by decide +kernel
theorem dX11_join_34 : decode yX11_join.2.1 34 = .ok (.astore 5, 2) := by decide +kernel
theorem dX11_join_36 : decode yX11_join.2.1 36 = .ok (.aload_n 0, 1) := by decide +kernel
theorem dX11_join_37 : decode yX11_join.2.1 37 = .ok (.getfield 20, 3) := by decide +kernel
theorem dX11_join_40 : decode yX11_join.2.1 40 = .ok (.iload_n 3, 1) := by decide +kernel
theorem dX11_join_41 : decode yX11_join.2.1 41 = .ok (.aaload, 1) := by decide +kernel
theorem dX11_join_42 : decode yX11_join.2.1 42 = .ok (.getfield 161, 3) := by decide +kernel
theorem dX11_join_45 : decode yX11_join.2.1 45 = .ok (.astore 6, 2) := by decide +kernel
theorem dX11_join_47 : decode yX11_join.2.1 47 = .ok (.aload 5, 2) := by decide +kernel
theorem dX11_join_49 : decode yX11_join.2.1 49 = .ok (.getfield 135, 3) := by decide +kernel
theorem dX11_join_52 : decode yX11_join.2.1 52 = .ok (.aload 6, 2) := by decide +kernel
theorem dX11_join_54 : decode yX11_join.2.1 54 = .ok (.getfield 135, 3) := by decide +kernel
theorem dX11_join_57 : decode yX11_join.2.1 57 = .ok (.iadd, 1) := by decide +kernel
theorem dX11_join_58 : decode yX11_join.2.1 58 = .ok (.istore 7, 2) := by decide +kernel
theorem dX11_join_60 : decode yX11_join.2.1 60 = .ok (.iload 7, 2) := by decide +kernel
theorem dX11_join_62 : decode yX11_join.2.1 62 = .ok (.bipush 40, 2) := by decide +kernel
theorem dX11_join_64 : decode yX11_join.2.1 64 = .ok (.if_icmp .le 6, 3) := by decide +kernel
theorem dX11_join_67 : decode yX11_join.2.1 67 = .ok (.bipush (-2), 2) := by decide +kernel
theorem dX11_join_69 : decode yX11_join.2.1 69 = .ok (.ireturn, 1) := by decide +kernel
theorem dX11_join_70 : decode yX11_join.2.1 70 = .ok (.aload 5, 2) := by decide +kernel
theorem dX11_join_72 : decode yX11_join.2.1 72 = .ok (.getfield 129, 3) := by decide +kernel
theorem dX11_join_75 : decode yX11_join.2.1 75 = .ok (.iconst 0, 1) := by decide +kernel
theorem dX11_join_76 : decode yX11_join.2.1 76 = .ok (.aload_n 0, 1) := by decide +kernel
theorem dX11_join_77 : decode yX11_join.2.1 77 = .ok (.getfield 48, 3) := by decide +kernel
theorem dX11_join_80 : decode yX11_join.2.1 80 = .ok (.iconst 0, 1) := by decide +kernel
theorem dX11_join_81 : decode yX11_join.2.1 81 = .ok (.aload 5, 2) := by decide +kernel
theorem dX11_join_83 : decode yX11_join.2.1 83 = .ok (.getfield 135, 3) := by decide +kernel
theorem dX11_join_86 : decode yX11_join.2.1 86 = .ok (.invokestatic 146, 3) := by decide +kernel
theorem dX11_join_89 : decode yX11_join.2.1 89 = .ok (.aload 6, 2) := by decide +kernel
theorem dX11_join_91 : decode yX11_join.2.1 91 = .ok (.getfield 129, 3) := by decide +kernel
theorem dX11_join_94 : decode yX11_join.2.1 94 = .ok (.iconst 0, 1) := by decide +kernel
theorem dX11_join_95 : decode yX11_join.2.1 95 = .ok (.aload_n 0, 1) := by decide +kernel
theorem dX11_join_96 : decode yX11_join.2.1 96 = .ok (.getfield 48, 3) := by decide +kernel
theorem dX11_join_99 : decode yX11_join.2.1 99 = .ok (.aload 5, 2) := by decide +kernel
theorem dX11_join_101 : decode yX11_join.2.1 101 = .ok (.getfield 135, 3) := by decide +kernel
theorem dX11_join_104 : decode yX11_join.2.1 104 = .ok (.aload 6, 2) := by decide +kernel
theorem dX11_join_106 : decode yX11_join.2.1 106 = .ok (.getfield 135, 3) := by decide +kernel
theorem dX11_join_109 : decode yX11_join.2.1 109 = .ok (.invokestatic 146, 3) := by decide +kernel
theorem dX11_join_112 : decode yX11_join.2.1 112 = .ok (.aload_n 0, 1) := by decide +kernel
theorem dX11_join_113 : decode yX11_join.2.1 113 = .ok (.getfield 20, 3) := by decide +kernel
theorem dX11_join_116 : decode yX11_join.2.1 116 = .ok (.iload_n 1, 1) := by decide +kernel
theorem dX11_join_117 : decode yX11_join.2.1 117 = .ok (.aaload, 1) := by decide +kernel
theorem dX11_join_118 : decode yX11_join.2.1 118 = .ok (.aload_n 0, 1) := by decide +kernel
theorem dX11_join_119 : decode yX11_join.2.1 119 = .ok (.getfield 48, 3) := by decide +kernel
theorem dX11_join_122 : decode yX11_join.2.1 122 = .ok (.iload 7, 2) := by decide +kernel
theorem dX11_join_124 : decode yX11_join.2.1 124 = .ok (.iconst 2, 1) := by decide +kernel
theorem dX11_join_125 : decode yX11_join.2.1 125 = .ok (.iload_n 2, 1) := by decide +kernel
theorem dX11_join_126 : decode yX11_join.2.1 126 = .ok (.iconst 0, 1) := by decide +kernel
theorem dX11_join_127 : decode yX11_join.2.1 127 = .ok (.invokevirtual 171, 3) := by decide +kernel
theorem dX11_join_130 : decode yX11_join.2.1 130 = .ok (.ireturn, 1) := by decide +kernel
theorem dX11_part_0 : decode yX11_part.2.1 0 = .ok (.iload_n 1, 1) := by decide +kernel
theorem dX11_part_1 : decode yX11_part.2.1 1 = .ok (.invokestatic 168, 3) := by decide +kernel
theorem dX11_part_4 : decode yX11_part.2.1 4 = .ok (.ifCond .ne 10, 3) := by decide +kernel
theorem dX11_part_7 : decode yX11_part.2.1 7 = .ok (.iload_n 2, 1) := by decide +kernel
theorem dX11_part_8 : decode yX11_part.2.1 8 = .ok (.invokestatic 168, 3) := by decide +kernel
theorem dX11_part_11 : decode yX11_part.2.1 11 = .ok (.ifCond .eq 5, 3) := by decide +kernel
theorem dX11_part_14 : decode yX11_part.2.1 14 = .ok (.iconst (-1), 1) := by decide +kernel
theorem dX11_part_15 : decode yX11_part.2.1 15 = .ok (.ireturn, 1) := by decide +kernel
theorem dX11_part_16 : decode yX11_part.2.1 16 = .ok (.iload 4, 2) := by decide +kernel
theorem dX11_part_18 : decode yX11_part.2.1 18 = .ok (.ifCond .ge 9, 3) := by decide +kernel
theorem dX11_part_21 : decode yX11_part.2.1 21 = .ok (.aload_n 0, 1) := by decide +kernel
theorem dX11_part_22 : decode yX11_part.2.1 22 = .ok (.iconst 5, 1) := by decide +kernel
theorem dX11_part_23 : decode yX11_part.2.1 23 = .ok (.invokevirtual 117, 3) := by decide +kernel
theorem dX11_part_26 : decode yX11_part.2.1 26 = .ok (.ireturn, 1) := by decide +kernel
theorem dX11_part_27 : decode yX11_part.2.1 27 = .ok (.aload_n 0, 1) := by decide +kernel
theorem dX11_part_28 : decode yX11_part.2.1 28 = .ok (.getfield 20, 3) := by decide +kernel
theorem dX11_part_31 : decode yX11_part.2.1 31 = .ok (.iload_n 2, 1) := by decide +kernel
theorem dX11_part_32 : decode yX11_part.2.1 32 = .ok (.aaload, 1) := by decide +kernel
theorem dX11_part_33 : decode yX11_part.2.1 33 = .ok (.getfield 161, 3) := by decide +kernel
theorem dX11_part_36 : decode yX11_part.2.1 36 = .ok (.astore 5, 2) := by decide +kernel
theorem dX11_part_38 : decode yX11_part.2.1 38 = .ok (.aload 5, 2) := by decide +kernel
theorem dX11_part_40 : decode yX11_part.2.1 40 = .ok (.invokevirtual 138, 3) := by decide +kernel
theorem dX11_part_43 : decode yX11_part.2.1 43 = .ok (.ifCond .eq 9, 3) := by decide +kernel
theorem dX11_part_46 : decode yX11_part.2.1 46 = .ok (.aload_n 0, 1) := by decide +kernel
theorem dX11_part_47 : decode yX11_part.2.1 47 = .ok (.iconst 1, 1) := by decide +kernel
theorem dX11_part_48 : decode yX11_part.2.1 48 = .ok (.invokevirtual 117, 3) := by decide +kernel
theorem dX11_part_51 : decode yX11_part.2.1 51 = .ok (.ireturn, 1) := by decide +kernel
theorem dX11_part_52 : decode yX11_part.2.1 52 = .ok (.aload 5, 2) := by decide +kernel
theorem dX11_part_54 : decode yX11_part.2.1 54 = .ok (.iload_n 3, 1) := by decide +kernel
theorem dX11_part_55 : decode yX11_part.2.1 55 = .ok (.iload 4, 2) := by decide +kernel
theorem dX11_part_57 : decode yX11_part.2.1 57 = .ok (.invokevirtual 142, 3) := by decide +kernel
theorem dX11_part_60 : decode yX11_part.2.1 60 = .ok (.ifCond .ne 9, 3) := by decide +kernel
theorem dX11_part_63 : decode yX11_part.2.1 63 = .ok (.aload_n 0, 1) := by decide +kernel
theorem dX11_part_64 : decode yX11_part.2.1 64 = .ok (.iconst 2, 1) := by decide +kernel
theorem dX11_part_65 : decode yX11_part.2.1 65 = .ok (.invokevirtual 117, 3) := by decide +kernel
theorem dX11_part_68 : decode yX11_part.2.1 68 = .ok (.ireturn, 1) := by decide +kernel
theorem dX11_part_69 : decode yX11_part.2.1 69 = .ok (.aload 5, 2) := by decide +kernel
theorem dX11_part_71 : decode yX11_part.2.1 71 = .ok (.getfield 129, 3) := by decide +kernel
theorem dX11_part_74 : decode yX11_part.2.1 74 = .ok (.iload_n 3, 1) := by decide +kernel
theorem dX11_part_75 : decode yX11_part.2.1 75 = .ok (.aload_n 0, 1) := by decide +kernel
theorem dX11_part_76 : decode yX11_part.2.1 76 = .ok (.getfield 48, 3) := by decide +kernel
theorem dX11_part_79 : decode yX11_part.2.1 79 = .ok (.iconst 0, 1) := by decide +kernel
theorem dX11_part_80 : decode yX11_part.2.1 80 = .ok (.iload 4, 2) := by decide +kernel
theorem dX11_part_82 : decode yX11_part.2.1 82 = .ok (.invokestatic 146, 3) := by decide +kernel
theorem dX11_part_85 : decode yX11_part.2.1 85 = .ok (.aload_n 0, 1) := by decide +kernel
theorem dX11_part_86 : decode yX11_part.2.1 86 = .ok (.getfield 20, 3) := by decide +kernel
theorem dX11_part_89 : decode yX11_part.2.1 89 = .ok (.iload_n 1, 1) := by decide +kernel
theorem dX11_part_90 : decode yX11_part.2.1 90 = .ok (.aaload, 1) := by decide +kernel
theorem dX11_part_91 : decode yX11_part.2.1 91 = .ok (.aload_n 0, 1) := by decide +kernel
theorem dX11_part_92 : decode yX11_part.2.1 92 = .ok (.getfield 48, 3) := by decide +kernel
theorem dX11_part_95 : decode yX11_part.2.1 95 = .ok (.iload 4, 2) := by decide +kernel
theorem dX11_part_97 : decode yX11_part.2.1 97 = .ok (.iconst 2, 1) := by decide +kernel
theorem dX11_part_98 : decode yX11_part.2.1 98 = .ok (.iload_n 2, 1) := by decide +kernel
theorem dX11_part_99 : decode yX11_part.2.1 99 = .ok (.iconst 0, 1) := by decide +kernel
theorem dX11_part_100 : decode yX11_part.2.1 100 = .ok (.invokevirtual 171, 3) := by decide +kernel
theorem dX11_part_103 : decode yX11_part.2.1 103 = .ok (.ireturn, 1) := by decide +kernel
theorem dX11_turn_0 : decode yX11_turn.2.1 0 = .ok (.iload_n 1, 1) := by decide +kernel
theorem dX11_turn_1 : decode yX11_turn.2.1 1 = .ok (.invokestatic 168, 3) := by decide +kernel
theorem dX11_turn_4 : decode yX11_turn.2.1 4 = .ok (.ifCond .ne 12, 3) := by decide +kernel
theorem dX11_turn_7 : decode yX11_turn.2.1 7 = .ok (.iload_n 3, 1) := by decide +kernel
theorem dX11_turn_8 : decode yX11_turn.2.1 8 = .ok (.ifCond .lt 8, 3) := by decide +kernel
theorem dX11_turn_11 : decode yX11_turn.2.1 11 = .ok (.iload_n 3, 1) := by decide +kernel
theorem dX11_turn_12 : decode yX11_turn.2.1 12 = .ok (.iconst 1, 1) := by decide +kernel
theorem dX11_turn_13 : decode yX11_turn.2.1 13 = .ok (.if_icmp .le 5, 3) := by decide +kernel
theorem dX11_turn_16 : decode yX11_turn.2.1 16 = .ok (.iconst (-1), 1) := by decide +kernel
theorem dX11_turn_17 : decode yX11_turn.2.1 17 = .ok (.ireturn, 1) := by decide +kernel
theorem dX11_turn_18 : decode yX11_turn.2.1 18 = .ok (.aload_n 0, 1) := by decide +kernel
theorem dX11_turn_19 : decode yX11_turn.2.1 19 = .ok (.iload_n 2, 1) := by decide +kernel
theorem dX11_turn_20 : decode yX11_turn.2.1 20 = .ok (.invokevirtual 186, 3) := by decide +kernel
theorem dX11_turn_23 : decode yX11_turn.2.1 23 = .ok (.istore 4, 2) := by decide +kernel
theorem dX11_turn_25 : decode yX11_turn.2.1 25 = .ok (.iload 4, 2) := by decide +kernel
theorem dX11_turn_27 : decode yX11_turn.2.1 27 = .ok (.ifCond .eq 6, 3) := by decide +kernel
theorem dX11_turn_30 : decode yX11_turn.2.1 30 = .ok (.iload 4, 2) := by decide +kernel
theorem dX11_turn_32 : decode yX11_turn.2.1 32 = .ok (.ireturn, 1) := by decide +kernel
theorem dX11_turn_33 : decode yX11_turn.2.1 33 = .ok (.aload_n 0, 1) := by decide +kernel
theorem dX11_turn_34 : decode yX11_turn.2.1 34 = .ok (.getfield 20, 3) := by decide +kernel
theorem dX11_turn_37 : decode yX11_turn.2.1 37 = .ok (.iload_n 2, 1) := by decide +kernel
theorem dX11_turn_38 : decode yX11_turn.2.1 38 = .ok (.aaload, 1) := by decide +kernel
theorem dX11_turn_39 : decode yX11_turn.2.1 39 = .ok (.getfield 161, 3) := by decide +kernel
theorem dX11_turn_42 : decode yX11_turn.2.1 42 = .ok (.astore 5, 2) := by decide +kernel
theorem dX11_turn_44 : decode yX11_turn.2.1 44 = .ok (.iconst 0, 1) := by decide +kernel
theorem dX11_turn_45 : decode yX11_turn.2.1 45 = .ok (.istore 6, 2) := by decide +kernel
theorem dX11_turn_47 : decode yX11_turn.2.1 47 = .ok (.iload 6, 2) := by decide +kernel
theorem dX11_turn_49 : decode yX11_turn.2.1 49 = .ok (.aload 5, 2) := by decide +kernel
theorem dX11_turn_51 : decode yX11_turn.2.1 51 = .ok (.getfield 135, 3) := by decide +kernel
theorem dX11_turn_54 : decode yX11_turn.2.1 54 = .ok (.if_icmp .ge 54, 3) := by decide +kernel
theorem dX11_turn_57 : decode yX11_turn.2.1 57 = .ok (.aload_n 0, 1) := by decide +kernel
theorem dX11_turn_58 : decode yX11_turn.2.1 58 = .ok (.getfield 48, 3) := by decide +kernel
theorem dX11_turn_61 : decode yX11_turn.2.1 61 = .ok (.iload 6, 2) := by decide +kernel
theorem dX11_turn_63 : decode yX11_turn.2.1 63 = .ok (.iload_n 3, 1) := by decide +kernel
theorem dX11_turn_64 : decode yX11_turn.2.1 64 = .ok (.ifCond .ne 22, 3) := by decide +kernel
theorem dX11_turn_67 : decode yX11_turn.2.1 67 = .ok (.aload 5, 2) := by decide +kernel
theorem dX11_turn_69 : decode yX11_turn.2.1 69 = .ok (.getfield 129, 3) := by decide +kernel
theorem dX11_turn_72 : decode yX11_turn.2.1 72 = .ok (.aload 5, 2) := by decide +kernel
theorem dX11_turn_74 : decode yX11_turn.2.1 74 = .ok (.getfield 135, 3) := by decide +kernel
theorem dX11_turn_77 : decode yX11_turn.2.1 77 = .ok (.iconst 1, 1) := by decide +kernel
theorem dX11_turn_78 : decode yX11_turn.2.1 78 = .ok (.isub, 1) := by decide +kernel
theorem dX11_turn_79 : decode yX11_turn.2.1 79 = .ok (.iload 6, 2) := by decide +kernel
theorem dX11_turn_81 : decode yX11_turn.2.1 81 = .ok (.isub, 1) := by decide +kernel
theorem dX11_turn_82 : decode yX11_turn.2.1 82 = .ok (.iaload, 1) := by decide +kernel
theorem dX11_turn_83 : decode yX11_turn.2.1 83 = .ok (.goto 18, 3) := by decide +kernel
theorem dX11_turn_86 : decode yX11_turn.2.1 86 = .ok (.aload_n 0, 1) := by decide +kernel
theorem dX11_turn_87 : decode yX11_turn.2.1 87 = .ok (.getfield 24, 3) := by decide +kernel
theorem dX11_turn_90 : decode yX11_turn.2.1 90 = .ok (.iconst 1, 1) := by decide +kernel
theorem dX11_turn_91 : decode yX11_turn.2.1 91 = .ok (.isub, 1) := by decide +kernel
theorem dX11_turn_92 : decode yX11_turn.2.1 92 = .ok (.aload 5, 2) := by decide +kernel
theorem dX11_turn_94 : decode yX11_turn.2.1 94 = .ok (.getfield 129, 3) := by decide +kernel
theorem dX11_turn_97 : decode yX11_turn.2.1 97 = .ok (.iload 6, 2) := by decide +kernel
theorem dX11_turn_99 : decode yX11_turn.2.1 99 = .ok (.iaload, 1) := by decide +kernel
theorem dX11_turn_100 : decode yX11_turn.2.1 100 = .ok (.isub, 1) := by decide +kernel
theorem dX11_turn_101 : decode yX11_turn.2.1 101 = .ok (.iastore, 1) := by decide +kernel
theorem dX11_turn_102 : decode yX11_turn.2.1 102 = .ok (.iinc 6 1, 3) := by decide +kernel
theorem dX11_turn_105 : decode yX11_turn.2.1 105 = .ok (.goto (-58), 3) := by decide +kernel
theorem dX11_turn_108 : decode yX11_turn.2.1 108 = .ok (.aload_n 0, 1) := by decide +kernel
theorem dX11_turn_109 : decode yX11_turn.2.1 109 = .ok (.getfield 20, 3) := by decide +kernel
theorem dX11_turn_112 : decode yX11_turn.2.1 112 = .ok (.iload_n 1, 1) := by decide +kernel
theorem dX11_turn_113 : decode yX11_turn.2.1 113 = .ok (.aaload, 1) := by decide +kernel
theorem dX11_turn_114 : decode yX11_turn.2.1 114 = .ok (.aload_n 0, 1) := by decide +kernel
theorem dX11_turn_115 : decode yX11_turn.2.1 115 = .ok (.getfield 48, 3) := by decide +kernel
theorem dX11_turn_118 : decode yX11_turn.2.1 118 = .ok (.aload 5, 2) := by decide +kernel
theorem dX11_turn_120 : decode yX11_turn.2.1 120 = .ok (.getfield 135, 3) := by decide +kernel
theorem dX11_turn_123 : decode yX11_turn.2.1 123 = .ok (.iconst 3, 1) := by decide +kernel
theorem dX11_turn_124 : decode yX11_turn.2.1 124 = .ok (.iload_n 2, 1) := by decide +kernel
theorem dX11_turn_125 : decode yX11_turn.2.1 125 = .ok (.iload_n 3, 1) := by decide +kernel
theorem dX11_turn_126 : decode yX11_turn.2.1 126 = .ok (.invokevirtual 171, 3) := by decide +kernel
theorem dX11_turn_129 : decode yX11_turn.2.1 129 = .ok (.ireturn, 1) := by decide +kernel
theorem dX11_drop_0 : decode yX11_drop.2.1 0 = .ok (.iload_n 1, 1) := by decide +kernel
theorem dX11_drop_1 : decode yX11_drop.2.1 1 = .ok (.invokestatic 168, 3) := by decide +kernel
theorem dX11_drop_4 : decode yX11_drop.2.1 4 = .ok (.ifCond .ne 10, 3) := by decide +kernel
theorem dX11_drop_7 : decode yX11_drop.2.1 7 = .ok (.iload_n 3, 1) := by decide +kernel
theorem dX11_drop_8 : decode yX11_drop.2.1 8 = .ok (.invokestatic 189, 3) := by decide +kernel
theorem dX11_drop_11 : decode yX11_drop.2.1 11 = .ok (.ifCond .eq 5, 3) := by decide +kernel
theorem dX11_drop_14 : decode yX11_drop.2.1 14 = .ok (.iconst (-1), 1) := by decide +kernel
theorem dX11_drop_15 : decode yX11_drop.2.1 15 = .ok (.ireturn, 1) := by decide +kernel
theorem dX11_drop_16 : decode yX11_drop.2.1 16 = .ok (.aload_n 0, 1) := by decide +kernel
theorem dX11_drop_17 : decode yX11_drop.2.1 17 = .ok (.iload_n 2, 1) := by decide +kernel
theorem dX11_drop_18 : decode yX11_drop.2.1 18 = .ok (.invokevirtual 186, 3) := by decide +kernel
theorem dX11_drop_21 : decode yX11_drop.2.1 21 = .ok (.istore 4, 2) := by decide +kernel
theorem dX11_drop_23 : decode yX11_drop.2.1 23 = .ok (.iload 4, 2) := by decide +kernel
theorem dX11_drop_25 : decode yX11_drop.2.1 25 = .ok (.ifCond .eq 6, 3) := by decide +kernel
theorem dX11_drop_28 : decode yX11_drop.2.1 28 = .ok (.iload 4, 2) := by decide +kernel
theorem dX11_drop_30 : decode yX11_drop.2.1 30 = .ok (.ireturn, 1) := by decide +kernel
theorem dX11_drop_31 : decode yX11_drop.2.1 31 = .ok (.aload_n 0, 1) := by decide +kernel
theorem dX11_drop_32 : decode yX11_drop.2.1 32 = .ok (.getfield 75, 3) := by decide +kernel
theorem dX11_drop_35 : decode yX11_drop.2.1 35 = .ok (.aload_n 0, 1) := by decide +kernel
theorem dX11_drop_36 : decode yX11_drop.2.1 36 = .ok (.getfield 20, 3) := by decide +kernel
theorem dX11_drop_39 : decode yX11_drop.2.1 39 = .ok (.iload_n 2, 1) := by decide +kernel
theorem dX11_drop_40 : decode yX11_drop.2.1 40 = .ok (.aaload, 1) := by decide +kernel
theorem dX11_drop_41 : decode yX11_drop.2.1 41 = .ok (.getfield 161, 3) := by decide +kernel
theorem dX11_drop_44 : decode yX11_drop.2.1 44 = .ok (.iload_n 3, 1) := by decide +kernel
theorem dX11_drop_45 : decode yX11_drop.2.1 45 = .ok (.aload_n 0, 1) := by decide +kernel
theorem dX11_drop_46 : decode yX11_drop.2.1 46 = .ok (.getfield 48, 3) := by decide +kernel
theorem dX11_drop_49 : decode yX11_drop.2.1 49 = .ok (.invokevirtual 192, 3) := by decide +kernel
theorem dX11_drop_52 : decode yX11_drop.2.1 52 = .ok (.istore 5, 2) := by decide +kernel
theorem dX11_drop_54 : decode yX11_drop.2.1 54 = .ok (.aload_n 0, 1) := by decide +kernel
theorem dX11_drop_55 : decode yX11_drop.2.1 55 = .ok (.getfield 20, 3) := by decide +kernel
theorem dX11_drop_58 : decode yX11_drop.2.1 58 = .ok (.iload_n 1, 1) := by decide +kernel
theorem dX11_drop_59 : decode yX11_drop.2.1 59 = .ok (.aaload, 1) := by decide +kernel
theorem dX11_drop_60 : decode yX11_drop.2.1 60 = .ok (.aload_n 0, 1) := by decide +kernel
theorem dX11_drop_61 : decode yX11_drop.2.1 61 = .ok (.getfield 48, 3) := by decide +kernel
theorem dX11_drop_64 : decode yX11_drop.2.1 64 = .ok (.iload 5, 2) := by decide +kernel
theorem dX11_drop_66 : decode yX11_drop.2.1 66 = .ok (.iconst 4, 1) := by decide +kernel
theorem dX11_drop_67 : decode yX11_drop.2.1 67 = .ok (.iload_n 2, 1) := by decide +kernel
theorem dX11_drop_68 : decode yX11_drop.2.1 68 = .ok (.iload_n 3, 1) := by decide +kernel
theorem dX11_drop_69 : decode yX11_drop.2.1 69 = .ok (.invokevirtual 171, 3) := by decide +kernel
theorem dX11_drop_72 : decode yX11_drop.2.1 72 = .ok (.ireturn, 1) := by decide +kernel
theorem dX11_erase_0 : decode yX11_erase.2.1 0 = .ok (.aload_n 0, 1) := by decide +kernel
theorem dX11_erase_1 : decode yX11_erase.2.1 1 = .ok (.iload_n 1, 1) := by decide +kernel
theorem dX11_erase_2 : decode yX11_erase.2.1 2 = .ok (.invokevirtual 186, 3) := by decide +kernel
theorem dX11_erase_5 : decode yX11_erase.2.1 5 = .ok (.istore_n 2, 1) := by decide +kernel
theorem dX11_erase_6 : decode yX11_erase.2.1 6 = .ok (.iload_n 2, 1) := by decide +kernel
theorem dX11_erase_7 : decode yX11_erase.2.1 7 = .ok (.ifCond .eq 5, 3) := by decide +kernel
theorem dX11_erase_10 : decode yX11_erase.2.1 10 = .ok (.iload_n 2, 1) := by decide +kernel
theorem dX11_erase_11 : decode yX11_erase.2.1 11 = .ok (.ireturn, 1) := by decide +kernel
theorem dX11_erase_12 : decode yX11_erase.2.1 12 = .ok (.aload_n 0, 1) := by decide +kernel
theorem dX11_erase_13 : decode yX11_erase.2.1 13 = .ok (.getfield 20, 3) := by decide +kernel
theorem dX11_erase_16 : decode yX11_erase.2.1 16 = .ok (.iload_n 1, 1) := by decide +kernel
theorem dX11_erase_17 : decode yX11_erase.2.1 17 = .ok (.aaload, 1) := by decide +kernel
theorem dX11_erase_18 : decode yX11_erase.2.1 18 = .ok (.getfield 161, 3) := by decide +kernel
theorem dX11_erase_21 : decode yX11_erase.2.1 21 = .ok (.iconst (-1), 1) := by decide +kernel
theorem dX11_erase_22 : decode yX11_erase.2.1 22 = .ok (.putfield 135, 3) := by decide +kernel
theorem dX11_erase_25 : decode yX11_erase.2.1 25 = .ok (.iconst 1, 1) := by decide +kernel
theorem dX11_erase_26 : decode yX11_erase.2.1 26 = .ok (.ireturn, 1) := by decide +kernel
theorem dX11_size_0 : decode yX11_size.2.1 0 = .ok (.aload_n 0, 1) := by decide +kernel
theorem dX11_size_1 : decode yX11_size.2.1 1 = .ok (.iload_n 1, 1) := by decide +kernel
theorem dX11_size_2 : decode yX11_size.2.1 2 = .ok (.invokevirtual 186, 3) := by decide +kernel
theorem dX11_size_5 : decode yX11_size.2.1 5 = .ok (.istore_n 2, 1) := by decide +kernel
theorem dX11_size_6 : decode yX11_size.2.1 6 = .ok (.iload_n 2, 1) := by decide +kernel
theorem dX11_size_7 : decode yX11_size.2.1 7 = .ok (.ifCond .eq 7, 3) := by decide +kernel
theorem dX11_size_10 : decode yX11_size.2.1 10 = .ok (.iload_n 2, 1) := by decide +kernel
theorem dX11_size_11 : decode yX11_size.2.1 11 = .ok (.goto 15, 3) := by decide +kernel
theorem dX11_size_14 : decode yX11_size.2.1 14 = .ok (.aload_n 0, 1) := by decide +kernel
theorem dX11_size_15 : decode yX11_size.2.1 15 = .ok (.getfield 20, 3) := by decide +kernel
theorem dX11_size_18 : decode yX11_size.2.1 18 = .ok (.iload_n 1, 1) := by decide +kernel
theorem dX11_size_19 : decode yX11_size.2.1 19 = .ok (.aaload, 1) := by decide +kernel
theorem dX11_size_20 : decode yX11_size.2.1 20 = .ok (.getfield 161, 3) := by decide +kernel
theorem dX11_size_23 : decode yX11_size.2.1 23 = .ok (.getfield 135, 3) := by decide +kernel
theorem dX11_size_26 : decode yX11_size.2.1 26 = .ok (.ireturn, 1) := by decide +kernel
theorem dX11_letter_0 : decode yX11_letter.2.1 0 = .ok (.aload_n 0, 1) := by decide +kernel
theorem dX11_letter_1 : decode yX11_letter.2.1 1 = .ok (.iload_n 1, 1) := by decide +kernel
theorem dX11_letter_2 : decode yX11_letter.2.1 2 = .ok (.invokevirtual 186, 3) := by decide +kernel
theorem dX11_letter_5 : decode yX11_letter.2.1 5 = .ok (.istore_n 3, 1) := by decide +kernel
theorem dX11_letter_6 : decode yX11_letter.2.1 6 = .ok (.iload_n 3, 1) := by decide +kernel
theorem dX11_letter_7 : decode yX11_letter.2.1 7 = .ok (.ifCond .eq 5, 3) := by decide +kernel
theorem dX11_letter_10 : decode yX11_letter.2.1 10 = .ok (.iload_n 3, 1) := by decide +kernel
theorem dX11_letter_11 : decode yX11_letter.2.1 11 = .ok (.ireturn, 1) := by decide +kernel
theorem dX11_letter_12 : decode yX11_letter.2.1 12 = .ok (.aload_n 0, 1) := by decide +kernel
theorem dX11_letter_13 : decode yX11_letter.2.1 13 = .ok (.getfield 20, 3) := by decide +kernel
theorem dX11_letter_16 : decode yX11_letter.2.1 16 = .ok (.iload_n 1, 1) := by decide +kernel
theorem dX11_letter_17 : decode yX11_letter.2.1 17 = .ok (.aaload, 1) := by decide +kernel
theorem dX11_letter_18 : decode yX11_letter.2.1 18 = .ok (.getfield 161, 3) := by decide +kernel
theorem dX11_letter_21 : decode yX11_letter.2.1 21 = .ok (.iload_n 2, 1) := by decide +kernel
theorem dX11_letter_22 : decode yX11_letter.2.1 22 = .ok (.invokevirtual 158, 3) := by decide +kernel
theorem dX11_letter_25 : decode yX11_letter.2.1 25 = .ok (.ifCond .ne 9, 3) := by decide +kernel
theorem dX11_letter_28 : decode yX11_letter.2.1 28 = .ok (.aload_n 0, 1) := by decide +kernel
theorem dX11_letter_29 : decode yX11_letter.2.1 29 = .ok (.iconst 2, 1) := by decide +kernel
theorem dX11_letter_30 : decode yX11_letter.2.1 30 = .ok (.invokevirtual 117, 3) := by decide +kernel
theorem dX11_letter_33 : decode yX11_letter.2.1 33 = .ok (.ireturn, 1) := by decide +kernel
theorem dX11_letter_34 : decode yX11_letter.2.1 34 = .ok (.aload_n 0, 1) := by decide +kernel
theorem dX11_letter_35 : decode yX11_letter.2.1 35 = .ok (.getfield 20, 3) := by decide +kernel
theorem dX11_letter_38 : decode yX11_letter.2.1 38 = .ok (.iload_n 1, 1) := by decide +kernel
theorem dX11_letter_39 : decode yX11_letter.2.1 39 = .ok (.aaload, 1) := by decide +kernel
theorem dX11_letter_40 : decode yX11_letter.2.1 40 = .ok (.getfield 161, 3) := by decide +kernel
theorem dX11_letter_43 : decode yX11_letter.2.1 43 = .ok (.getfield 129, 3) := by decide +kernel
theorem dX11_letter_46 : decode yX11_letter.2.1 46 = .ok (.iload_n 2, 1) := by decide +kernel
theorem dX11_letter_47 : decode yX11_letter.2.1 47 = .ok (.iaload, 1) := by decide +kernel
theorem dX11_letter_48 : decode yX11_letter.2.1 48 = .ok (.ireturn, 1) := by decide +kernel
theorem dX11_kind_0 : decode yX11_kind.2.1 0 = .ok (.aload_n 0, 1) := by decide +kernel
theorem dX11_kind_1 : decode yX11_kind.2.1 1 = .ok (.iload_n 1, 1) := by decide +kernel
theorem dX11_kind_2 : decode yX11_kind.2.1 2 = .ok (.invokevirtual 186, 3) := by decide +kernel
theorem dX11_kind_5 : decode yX11_kind.2.1 5 = .ok (.istore_n 2, 1) := by decide +kernel
theorem dX11_kind_6 : decode yX11_kind.2.1 6 = .ok (.iload_n 2, 1) := by decide +kernel
theorem dX11_kind_7 : decode yX11_kind.2.1 7 = .ok (.ifCond .eq 7, 3) := by decide +kernel
theorem dX11_kind_10 : decode yX11_kind.2.1 10 = .ok (.iload_n 2, 1) := by decide +kernel
theorem dX11_kind_11 : decode yX11_kind.2.1 11 = .ok (.goto 12, 3) := by decide +kernel
theorem dX11_kind_14 : decode yX11_kind.2.1 14 = .ok (.aload_n 0, 1) := by decide +kernel
theorem dX11_kind_15 : decode yX11_kind.2.1 15 = .ok (.getfield 20, 3) := by decide +kernel
theorem dX11_kind_18 : decode yX11_kind.2.1 18 = .ok (.iload_n 1, 1) := by decide +kernel
theorem dX11_kind_19 : decode yX11_kind.2.1 19 = .ok (.aaload, 1) := by decide +kernel
theorem dX11_kind_20 : decode yX11_kind.2.1 20 = .ok (.getfield 196, 3) := by decide +kernel
theorem dX11_kind_23 : decode yX11_kind.2.1 23 = .ok (.ireturn, 1) := by decide +kernel
theorem dX11_mark_0 : decode yX11_mark.2.1 0 = .ok (.iload_n 2, 1) := by decide +kernel
theorem dX11_mark_1 : decode yX11_mark.2.1 1 = .ok (.iconst 1, 1) := by decide +kernel
theorem dX11_mark_2 : decode yX11_mark.2.1 2 = .ok (.if_icmp .lt 8, 3) := by decide +kernel
theorem dX11_mark_5 : decode yX11_mark.2.1 5 = .ok (.iload_n 2, 1) := by decide +kernel
theorem dX11_mark_6 : decode yX11_mark.2.1 6 = .ok (.iconst 4, 1) := by decide +kernel
theorem dX11_mark_7 : decode yX11_mark.2.1 7 = .ok (.if_icmp .le 5, 3) := by decide +kernel
theorem dX11_mark_10 : decode yX11_mark.2.1 10 = .ok (.iconst (-1), 1) := by decide +kernel
theorem dX11_mark_11 : decode yX11_mark.2.1 11 = .ok (.ireturn, 1) := by decide +kernel
theorem dX11_mark_12 : decode yX11_mark.2.1 12 = .ok (.aload_n 0, 1) := by decide +kernel
theorem dX11_mark_13 : decode yX11_mark.2.1 13 = .ok (.iload_n 1, 1) := by decide +kernel
theorem dX11_mark_14 : decode yX11_mark.2.1 14 = .ok (.invokevirtual 186, 3) := by decide +kernel
theorem dX11_mark_17 : decode yX11_mark.2.1 17 = .ok (.istore_n 3, 1) := by decide +kernel
theorem dX11_mark_18 : decode yX11_mark.2.1 18 = .ok (.iload_n 3, 1) := by decide +kernel
theorem dX11_mark_19 : decode yX11_mark.2.1 19 = .ok (.ifCond .eq 5, 3) := by decide +kernel
theorem dX11_mark_22 : decode yX11_mark.2.1 22 = .ok (.iload_n 3, 1) := by decide +kernel
theorem dX11_mark_23 : decode yX11_mark.2.1 23 = .ok (.ireturn, 1) := by decide +kernel
theorem dX11_mark_24 : decode yX11_mark.2.1 24 = .ok (.aload_n 0, 1) := by decide +kernel
theorem dX11_mark_25 : decode yX11_mark.2.1 25 = .ok (.getfield 20, 3) := by decide +kernel
theorem dX11_mark_28 : decode yX11_mark.2.1 28 = .ok (.iload_n 1, 1) := by decide +kernel
theorem dX11_mark_29 : decode yX11_mark.2.1 29 = .ok (.aaload, 1) := by decide +kernel
theorem dX11_mark_30 : decode yX11_mark.2.1 30 = .ok (.iload_n 2, 1) := by decide +kernel
theorem dX11_mark_31 : decode yX11_mark.2.1 31 = .ok (.invokevirtual 199, 3) := by decide +kernel
theorem dX11_mark_34 : decode yX11_mark.2.1 34 = .ok (.ifCond .ne 9, 3) := by decide +kernel
theorem dX11_mark_37 : decode yX11_mark.2.1 37 = .ok (.aload_n 0, 1) := by decide +kernel
theorem dX11_mark_38 : decode yX11_mark.2.1 38 = .ok (.iconst 3, 1) := by decide +kernel
theorem dX11_mark_39 : decode yX11_mark.2.1 39 = .ok (.invokevirtual 117, 3) := by decide +kernel
theorem dX11_mark_42 : decode yX11_mark.2.1 42 = .ok (.ireturn, 1) := by decide +kernel
theorem dX11_mark_43 : decode yX11_mark.2.1 43 = .ok (.aload_n 0, 1) := by decide +kernel
theorem dX11_mark_44 : decode yX11_mark.2.1 44 = .ok (.getfield 20, 3) := by decide +kernel
theorem dX11_mark_47 : decode yX11_mark.2.1 47 = .ok (.iload_n 1, 1) := by decide +kernel
theorem dX11_mark_48 : decode yX11_mark.2.1 48 = .ok (.aaload, 1) := by decide +kernel
theorem dX11_mark_49 : decode yX11_mark.2.1 49 = .ok (.iload_n 2, 1) := by decide +kernel
theorem dX11_mark_50 : decode yX11_mark.2.1 50 = .ok (.invokevirtual 202, 3) := by decide +kernel
theorem dX11_mark_53 : decode yX11_mark.2.1 53 = .ok (.ireturn, 1) := by decide +kernel
theorem dX11_ways_0 : decode yX11_ways.2.1 0 = .ok (.aload_n 0, 1) := by decide +kernel
theorem dX11_ways_1 : decode yX11_ways.2.1 1 = .ok (.iload_n 1, 1) := by decide +kernel
theorem dX11_ways_2 : decode yX11_ways.2.1 2 = .ok (.iload_n 2, 1) := by decide +kernel
theorem dX11_ways_3 : decode yX11_ways.2.1 3 = .ok (.invokevirtual 183, 3) := by decide +kernel
theorem dX11_ways_6 : decode yX11_ways.2.1 6 = .ok (.istore_n 3, 1) := by decide +kernel
theorem dX11_ways_7 : decode yX11_ways.2.1 7 = .ok (.iload_n 3, 1) := by decide +kernel
theorem dX11_ways_8 : decode yX11_ways.2.1 8 = .ok (.ifCond .eq 5, 3) := by decide +kernel
theorem dX11_ways_11 : decode yX11_ways.2.1 11 = .ok (.iload_n 3, 1) := by decide +kernel
theorem dX11_ways_12 : decode yX11_ways.2.1 12 = .ok (.ireturn, 1) := by decide +kernel
theorem dX11_ways_13 : decode yX11_ways.2.1 13 = .ok (.aload_n 0, 1) := by decide +kernel
theorem dX11_ways_14 : decode yX11_ways.2.1 14 = .ok (.aload_n 0, 1) := by decide +kernel
theorem dX11_ways_15 : decode yX11_ways.2.1 15 = .ok (.getfield 61, 3) := by decide +kernel
theorem dX11_ways_18 : decode yX11_ways.2.1 18 = .ok (.aload_n 0, 1) := by decide +kernel
theorem dX11_ways_19 : decode yX11_ways.2.1 19 = .ok (.getfield 20, 3) := by decide +kernel
theorem dX11_ways_22 : decode yX11_ways.2.1 22 = .ok (.iload_n 1, 1) := by decide +kernel
theorem dX11_ways_23 : decode yX11_ways.2.1 23 = .ok (.aaload, 1) := by decide +kernel
theorem dX11_ways_24 : decode yX11_ways.2.1 24 = .ok (.getfield 161, 3) := by decide +kernel
theorem dX11_ways_27 : decode yX11_ways.2.1 27 = .ok (.aload_n 0, 1) := by decide +kernel
theorem dX11_ways_28 : decode yX11_ways.2.1 28 = .ok (.getfield 20, 3) := by decide +kernel
theorem dX11_ways_31 : decode yX11_ways.2.1 31 = .ok (.iload_n 2, 1) := by decide +kernel
theorem dX11_ways_32 : decode yX11_ways.2.1 32 = .ok (.aaload, 1) := by decide +kernel
theorem dX11_ways_33 : decode yX11_ways.2.1 33 = .ok (.getfield 161, 3) := by decide +kernel
theorem dX11_ways_36 : decode yX11_ways.2.1 36 = .ok (.invokevirtual 205, 3) := by decide +kernel
theorem dX11_ways_39 : decode yX11_ways.2.1 39 = .ok (.putfield 31, 3) := by decide +kernel
theorem dX11_ways_42 : decode yX11_ways.2.1 42 = .ok (.aload_n 0, 1) := by decide +kernel
theorem dX11_ways_43 : decode yX11_ways.2.1 43 = .ok (.getfield 31, 3) := by decide +kernel
theorem dX11_ways_46 : decode yX11_ways.2.1 46 = .ok (.lconst 0, 1) := by decide +kernel
theorem dX11_ways_47 : decode yX11_ways.2.1 47 = .ok (.lcmp, 1) := by decide +kernel
theorem dX11_ways_48 : decode yX11_ways.2.1 48 = .ok (.ifCond .le 7, 3) := by decide +kernel
theorem dX11_ways_51 : decode yX11_ways.2.1 51 = .ok (.iconst 1, 1) := by decide +kernel
theorem dX11_ways_52 : decode yX11_ways.2.1 52 = .ok (.goto 4, 3) := by decide +kernel
theorem dX11_ways_55 : decode yX11_ways.2.1 55 = .ok (.iconst 0, 1) := by decide +kernel
theorem dX11_ways_56 : decode yX11_ways.2.1 56 = .ok (.ireturn, 1) := by decide +kernel
theorem dX11_way_0 : decode yX11_way.2.1 0 = .ok (.iload_n 3, 1) := by decide +kernel
theorem dX11_way_1 : decode yX11_way.2.1 1 = .ok (.invokestatic 113, 3) := by decide +kernel
theorem dX11_way_4 : decode yX11_way.2.1 4 = .ok (.ifCond .eq 5, 3) := by decide +kernel
theorem dX11_way_7 : decode yX11_way.2.1 7 = .ok (.iconst (-1), 1) := by decide +kernel
theorem dX11_way_8 : decode yX11_way.2.1 8 = .ok (.ireturn, 1) := by decide +kernel
theorem dX11_way_9 : decode yX11_way.2.1 9 = .ok (.aload_n 0, 1) := by decide +kernel
theorem dX11_way_10 : decode yX11_way.2.1 10 = .ok (.iload_n 1, 1) := by decide +kernel
theorem dX11_way_11 : decode yX11_way.2.1 11 = .ok (.iload_n 2, 1) := by decide +kernel
theorem dX11_way_12 : decode yX11_way.2.1 12 = .ok (.invokevirtual 183, 3) := by decide +kernel
theorem dX11_way_15 : decode yX11_way.2.1 15 = .ok (.istore 5, 2) := by decide +kernel
theorem dX11_way_17 : decode yX11_way.2.1 17 = .ok (.iload 5, 2) := by decide +kernel
theorem dX11_way_19 : decode yX11_way.2.1 19 = .ok (.ifCond .eq 6, 3) := by decide +kernel
theorem dX11_way_22 : decode yX11_way.2.1 22 = .ok (.iload 5, 2) := by decide +kernel
theorem dX11_way_24 : decode yX11_way.2.1 24 = .ok (.ireturn, 1) := by decide +kernel
theorem dX11_way_25 : decode yX11_way.2.1 25 = .ok (.aload_n 0, 1) := by decide +kernel
theorem dX11_way_26 : decode yX11_way.2.1 26 = .ok (.getfield 61, 3) := by decide +kernel
theorem dX11_way_29 : decode yX11_way.2.1 29 = .ok (.aload_n 0, 1) := by decide +kernel
theorem dX11_way_30 : decode yX11_way.2.1 30 = .ok (.getfield 20, 3) := by decide +kernel
theorem dX11_way_33 : decode yX11_way.2.1 33 = .ok (.iload_n 1, 1) := by decide +kernel
theorem dX11_way_34 : decode yX11_way.2.1 34 = .ok (.aaload, 1) := by decide +kernel
theorem dX11_way_35 : decode yX11_way.2.1 35 = .ok (.getfield 161, 3) := by decide +kernel
theorem dX11_way_38 : decode yX11_way.2.1 38 = .ok (.aload_n 0, 1) := by decide +kernel
theorem dX11_way_39 : decode yX11_way.2.1 39 = .ok (.getfield 20, 3) := by decide +kernel
theorem dX11_way_42 : decode yX11_way.2.1 42 = .ok (.iload_n 2, 1) := by decide +kernel
theorem dX11_way_43 : decode yX11_way.2.1 43 = .ok (.aaload, 1) := by decide +kernel
theorem dX11_way_44 : decode yX11_way.2.1 44 = .ok (.getfield 161, 3) := by decide +kernel
theorem dX11_way_47 : decode yX11_way.2.1 47 = .ok (.invokevirtual 209, 3) := by decide +kernel
theorem dX11_way_50 : decode yX11_way.2.1 50 = .ok (.ifCond .ne 6, 3) := by decide +kernel
theorem dX11_way_53 : decode yX11_way.2.1 53 = .ok (.bipush (-9), 2) := by decide +kernel
theorem dX11_way_55 : decode yX11_way.2.1 55 = .ok (.ireturn, 1) := by decide +kernel
theorem dX11_way_56 : decode yX11_way.2.1 56 = .ok (.aload_n 0, 1) := by decide +kernel
theorem dX11_way_57 : decode yX11_way.2.1 57 = .ok (.getfield 11, 3) := by decide +kernel
theorem dX11_way_60 : decode yX11_way.2.1 60 = .ok (.iload_n 3, 1) := by decide +kernel
theorem dX11_way_61 : decode yX11_way.2.1 61 = .ok (.aaload, 1) := by decide +kernel
theorem dX11_way_62 : decode yX11_way.2.1 62 = .ok (.iload 4, 2) := by decide +kernel
theorem dX11_way_64 : decode yX11_way.2.1 64 = .ok (.ifCond .eq 13, 3) := by decide +kernel
theorem dX11_way_67 : decode yX11_way.2.1 67 = .ok (.aload_n 0, 1) := by decide +kernel
theorem dX11_way_68 : decode yX11_way.2.1 68 = .ok (.getfield 61, 3) := by decide +kernel
theorem dX11_way_71 : decode yX11_way.2.1 71 = .ok (.getfield 213, 3) := by decide +kernel
theorem dX11_way_74 : decode yX11_way.2.1 74 = .ok (.goto 10, 3) := by decide +kernel
theorem dX11_way_77 : decode yX11_way.2.1 77 = .ok (.aload_n 0, 1) := by decide +kernel
theorem dX11_way_78 : decode yX11_way.2.1 78 = .ok (.getfield 61, 3) := by decide +kernel
theorem dX11_way_81 : decode yX11_way.2.1 81 = .ok (.getfield 216, 3) := by decide +kernel
theorem dX11_way_84 : decode yX11_way.2.1 84 = .ok (.aload_n 0, 1) := by decide +kernel
theorem dX11_way_85 : decode yX11_way.2.1 85 = .ok (.getfield 20, 3) := by decide +kernel
theorem dX11_way_88 : decode yX11_way.2.1 88 = .ok (.iload_n 2, 1) := by decide +kernel
theorem dX11_way_89 : decode yX11_way.2.1 89 = .ok (.aaload, 1) := by decide +kernel
theorem dX11_way_90 : decode yX11_way.2.1 90 = .ok (.getfield 161, 3) := by decide +kernel
theorem dX11_way_93 : decode yX11_way.2.1 93 = .ok (.getfield 135, 3) := by decide +kernel
theorem dX11_way_96 : decode yX11_way.2.1 96 = .ok (.invokevirtual 219, 3) := by decide +kernel
theorem dX11_way_99 : decode yX11_way.2.1 99 = .ok (.ireturn, 1) := by decide +kernel
theorem dX11_places_0 : decode yX11_places.2.1 0 = .ok (.aload_n 0, 1) := by decide +kernel
theorem dX11_places_1 : decode yX11_places.2.1 1 = .ok (.iload_n 1, 1) := by decide +kernel
theorem dX11_places_2 : decode yX11_places.2.1 2 = .ok (.iload_n 2, 1) := by decide +kernel
theorem dX11_places_3 : decode yX11_places.2.1 3 = .ok (.invokevirtual 183, 3) := by decide +kernel
theorem dX11_places_6 : decode yX11_places.2.1 6 = .ok (.istore 4, 2) := by decide +kernel
theorem dX11_places_8 : decode yX11_places.2.1 8 = .ok (.iload 4, 2) := by decide +kernel
theorem dX11_places_10 : decode yX11_places.2.1 10 = .ok (.ifCond .eq 6, 3) := by decide +kernel
theorem dX11_places_13 : decode yX11_places.2.1 13 = .ok (.iload 4, 2) := by decide +kernel
theorem dX11_places_15 : decode yX11_places.2.1 15 = .ok (.ireturn, 1) := by decide +kernel
theorem dX11_places_16 : decode yX11_places.2.1 16 = .ok (.aload_n 0, 1) := by decide +kernel
theorem dX11_places_17 : decode yX11_places.2.1 17 = .ok (.getfield 20, 3) := by decide +kernel
theorem dX11_places_20 : decode yX11_places.2.1 20 = .ok (.iload_n 1, 1) := by decide +kernel
theorem dX11_places_21 : decode yX11_places.2.1 21 = .ok (.aaload, 1) := by decide +kernel
theorem dX11_places_22 : decode yX11_places.2.1 22 = .ok (.getfield 161, 3) := by decide +kernel
theorem dX11_places_25 : decode yX11_places.2.1 25 = .ok (.astore 5, 2) := by decide +kernel
theorem dX11_places_27 : decode yX11_places.2.1 27 = .ok (.aload_n 0, 1) := by decide +kernel
theorem dX11_places_28 : decode yX11_places.2.1 28 = .ok (.getfield 20, 3) := by decide +kernel
theorem dX11_places_31 : decode yX11_places.2.1 31 = .ok (.iload_n 2, 1) := by decide +kernel
theorem dX11_places_32 : decode yX11_places.2.1 32 = .ok (.aaload, 1) := by decide +kernel
theorem dX11_places_33 : decode yX11_places.2.1 33 = .ok (.getfield 161, 3) := by decide +kernel
theorem dX11_places_36 : decode yX11_places.2.1 36 = .ok (.astore 6, 2) := by decide +kernel
theorem dX11_places_38 : decode yX11_places.2.1 38 = .ok (.aload_n 0, 1) := by decide +kernel
theorem dX11_places_39 : decode yX11_places.2.1 39 = .ok (.getfield 61, 3) := by decide +kernel
theorem dX11_places_42 : decode yX11_places.2.1 42 = .ok (.aload 5, 2) := by decide +kernel
theorem dX11_places_44 : decode yX11_places.2.1 44 = .ok (.aload 6, 2) := by decide +kernel
theorem dX11_places_46 : decode yX11_places.2.1 46 = .ok (.invokevirtual 209, 3) := by decide +kernel
theorem dX11_places_49 : decode yX11_places.2.1 49 = .ok (.ifCond .ne 6, 3) := by decide +kernel
theorem dX11_places_52 : decode yX11_places.2.1 52 = .ok (.bipush (-9), 2) := by decide +kernel
theorem dX11_places_54 : decode yX11_places.2.1 54 = .ok (.ireturn, 1) := by decide +kernel
theorem dX11_places_55 : decode yX11_places.2.1 55 = .ok (.aload_n 0, 1) := by decide +kernel
theorem dX11_places_56 : decode yX11_places.2.1 56 = .ok (.iload_n 3, 1) := by decide +kernel
theorem dX11_places_57 : decode yX11_places.2.1 57 = .ok (.ifCond .eq 18, 3) := by decide +kernel
theorem dX11_places_60 : decode yX11_places.2.1 60 = .ok (.aload_n 0, 1) := by decide +kernel
theorem dX11_places_61 : decode yX11_places.2.1 61 = .ok (.getfield 61, 3) := by decide +kernel
theorem dX11_places_64 : decode yX11_places.2.1 64 = .ok (.aload 6, 2) := by decide +kernel
theorem dX11_places_66 : decode yX11_places.2.1 66 = .ok (.getfield 135, 3) := by decide +kernel
theorem dX11_places_69 : decode yX11_places.2.1 69 = .ok (.invokevirtual 223, 3) := by decide +kernel
theorem dX11_places_72 : decode yX11_places.2.1 72 = .ok (.goto 14, 3) := by decide +kernel
theorem dX11_places_75 : decode yX11_places.2.1 75 = .ok (.aload_n 0, 1) := by decide +kernel
theorem dX11_places_76 : decode yX11_places.2.1 76 = .ok (.getfield 61, 3) := by decide +kernel
theorem dX11_places_79 : decode yX11_places.2.1 79 = .ok (.aload 5, 2) := by decide +kernel
theorem dX11_places_81 : decode yX11_places.2.1 81 = .ok (.aload 6, 2) := by decide +kernel
theorem dX11_places_83 : decode yX11_places.2.1 83 = .ok (.invokevirtual 227, 3) := by decide +kernel
theorem dX11_places_86 : decode yX11_places.2.1 86 = .ok (.putfield 31, 3) := by decide +kernel
theorem dX11_places_89 : decode yX11_places.2.1 89 = .ok (.aload_n 0, 1) := by decide +kernel
theorem dX11_places_90 : decode yX11_places.2.1 90 = .ok (.getfield 31, 3) := by decide +kernel
theorem dX11_places_93 : decode yX11_places.2.1 93 = .ok (.invokestatic 230, 3) := by decide +kernel
theorem dX11_places_96 : decode yX11_places.2.1 96 = .ok (.ireturn, 1) := by decide +kernel
theorem dX11_judge_0 : decode yX11_judge.2.1 0 = .ok (.iload_n 3, 1) := by decide +kernel
theorem dX11_judge_1 : decode yX11_judge.2.1 1 = .ok (.invokestatic 113, 3) := by decide +kernel
theorem dX11_judge_4 : decode yX11_judge.2.1 4 = .ok (.ifCond .eq 5, 3) := by decide +kernel
theorem dX11_judge_7 : decode yX11_judge.2.1 7 = .ok (.iconst (-1), 1) := by decide +kernel
theorem dX11_judge_8 : decode yX11_judge.2.1 8 = .ok (.ireturn, 1) := by decide +kernel
theorem dX11_judge_9 : decode yX11_judge.2.1 9 = .ok (.aload_n 0, 1) := by decide +kernel
theorem dX11_judge_10 : decode yX11_judge.2.1 10 = .ok (.iload_n 1, 1) := by decide +kernel
theorem dX11_judge_11 : decode yX11_judge.2.1 11 = .ok (.iload_n 2, 1) := by decide +kernel
theorem dX11_judge_12 : decode yX11_judge.2.1 12 = .ok (.invokevirtual 183, 3) := by decide +kernel
theorem dX11_judge_15 : decode yX11_judge.2.1 15 = .ok (.istore 4, 2) := by decide +kernel
theorem dX11_judge_17 : decode yX11_judge.2.1 17 = .ok (.iload 4, 2) := by decide +kernel
theorem dX11_judge_19 : decode yX11_judge.2.1 19 = .ok (.ifCond .eq 6, 3) := by decide +kernel
theorem dX11_judge_22 : decode yX11_judge.2.1 22 = .ok (.iload 4, 2) := by decide +kernel
theorem dX11_judge_24 : decode yX11_judge.2.1 24 = .ok (.ireturn, 1) := by decide +kernel
theorem dX11_judge_25 : decode yX11_judge.2.1 25 = .ok (.aload_n 0, 1) := by decide +kernel
theorem dX11_judge_26 : decode yX11_judge.2.1 26 = .ok (.getfield 11, 3) := by decide +kernel
theorem dX11_judge_29 : decode yX11_judge.2.1 29 = .ok (.iload_n 3, 1) := by decide +kernel
theorem dX11_judge_30 : decode yX11_judge.2.1 30 = .ok (.aaload, 1) := by decide +kernel
theorem dX11_judge_31 : decode yX11_judge.2.1 31 = .ok (.invokevirtual 138, 3) := by decide +kernel
theorem dX11_judge_34 : decode yX11_judge.2.1 34 = .ok (.ifCond .eq 9, 3) := by decide +kernel
theorem dX11_judge_37 : decode yX11_judge.2.1 37 = .ok (.aload_n 0, 1) := by decide +kernel
theorem dX11_judge_38 : decode yX11_judge.2.1 38 = .ok (.iconst 1, 1) := by decide +kernel
theorem dX11_judge_39 : decode yX11_judge.2.1 39 = .ok (.invokevirtual 117, 3) := by decide +kernel
theorem dX11_judge_42 : decode yX11_judge.2.1 42 = .ok (.ireturn, 1) := by decide +kernel
theorem dX11_judge_43 : decode yX11_judge.2.1 43 = .ok (.aload_n 0, 1) := by decide +kernel
theorem dX11_judge_44 : decode yX11_judge.2.1 44 = .ok (.getfield 20, 3) := by decide +kernel
theorem dX11_judge_47 : decode yX11_judge.2.1 47 = .ok (.iload_n 1, 1) := by decide +kernel
theorem dX11_judge_48 : decode yX11_judge.2.1 48 = .ok (.aaload, 1) := by decide +kernel
theorem dX11_judge_49 : decode yX11_judge.2.1 49 = .ok (.getfield 161, 3) := by decide +kernel
theorem dX11_judge_52 : decode yX11_judge.2.1 52 = .ok (.aload_n 0, 1) := by decide +kernel
theorem dX11_judge_53 : decode yX11_judge.2.1 53 = .ok (.getfield 20, 3) := by decide +kernel
theorem dX11_judge_56 : decode yX11_judge.2.1 56 = .ok (.iload_n 2, 1) := by decide +kernel
theorem dX11_judge_57 : decode yX11_judge.2.1 57 = .ok (.aaload, 1) := by decide +kernel
theorem dX11_judge_58 : decode yX11_judge.2.1 58 = .ok (.getfield 161, 3) := by decide +kernel
theorem dX11_judge_61 : decode yX11_judge.2.1 61 = .ok (.aload_n 0, 1) := by decide +kernel
theorem dX11_judge_62 : decode yX11_judge.2.1 62 = .ok (.getfield 11, 3) := by decide +kernel
theorem dX11_judge_65 : decode yX11_judge.2.1 65 = .ok (.iload_n 3, 1) := by decide +kernel
theorem dX11_judge_66 : decode yX11_judge.2.1 66 = .ok (.aaload, 1) := by decide +kernel
theorem dX11_judge_67 : decode yX11_judge.2.1 67 = .ok (.invokestatic 236, 3) := by decide +kernel
theorem dX11_judge_70 : decode yX11_judge.2.1 70 = .ok (.ifCond .eq 7, 3) := by decide +kernel
theorem dX11_judge_73 : decode yX11_judge.2.1 73 = .ok (.iconst 1, 1) := by decide +kernel
theorem dX11_judge_74 : decode yX11_judge.2.1 74 = .ok (.goto 4, 3) := by decide +kernel
theorem dX11_judge_77 : decode yX11_judge.2.1 77 = .ok (.iconst 0, 1) := by decide +kernel
theorem dX11_judge_78 : decode yX11_judge.2.1 78 = .ok (.ireturn, 1) := by decide +kernel
theorem dX11_bar_0 : decode yX11_bar.2.1 0 = .ok (.aload_n 0, 1) := by decide +kernel
theorem dX11_bar_1 : decode yX11_bar.2.1 1 = .ok (.iload_n 1, 1) := by decide +kernel
theorem dX11_bar_2 : decode yX11_bar.2.1 2 = .ok (.iload_n 2, 1) := by decide +kernel
theorem dX11_bar_3 : decode yX11_bar.2.1 3 = .ok (.invokevirtual 183, 3) := by decide +kernel
theorem dX11_bar_6 : decode yX11_bar.2.1 6 = .ok (.istore_n 3, 1) := by decide +kernel
theorem dX11_bar_7 : decode yX11_bar.2.1 7 = .ok (.iload_n 3, 1) := by decide +kernel
theorem dX11_bar_8 : decode yX11_bar.2.1 8 = .ok (.ifCond .eq 5, 3) := by decide +kernel
theorem dX11_bar_11 : decode yX11_bar.2.1 11 = .ok (.iload_n 3, 1) := by decide +kernel
theorem dX11_bar_12 : decode yX11_bar.2.1 12 = .ok (.ireturn, 1) := by decide +kernel
theorem dX11_bar_13 : decode yX11_bar.2.1 13 = .ok (.aload_n 0, 1) := by decide +kernel
theorem dX11_bar_14 : decode yX11_bar.2.1 14 = .ok (.getfield 20, 3) := by decide +kernel
theorem dX11_bar_17 : decode yX11_bar.2.1 17 = .ok (.iload_n 2, 1) := by decide +kernel
theorem dX11_bar_18 : decode yX11_bar.2.1 18 = .ok (.aaload, 1) := by decide +kernel
theorem dX11_bar_19 : decode yX11_bar.2.1 19 = .ok (.getfield 161, 3) := by decide +kernel
theorem dX11_bar_22 : decode yX11_bar.2.1 22 = .ok (.getfield 135, 3) := by decide +kernel
theorem dX11_bar_25 : decode yX11_bar.2.1 25 = .ok (.ifCond .ne 6, 3) := by decide +kernel
theorem dX11_bar_28 : decode yX11_bar.2.1 28 = .ok (.bipush (-4), 2) := by decide +kernel
theorem dX11_bar_30 : decode yX11_bar.2.1 30 = .ok (.ireturn, 1) := by decide +kernel
theorem dX11_bar_31 : decode yX11_bar.2.1 31 = .ok (.aload_n 0, 1) := by decide +kernel
theorem dX11_bar_32 : decode yX11_bar.2.1 32 = .ok (.getfield 61, 3) := by decide +kernel
theorem dX11_bar_35 : decode yX11_bar.2.1 35 = .ok (.aload_n 0, 1) := by decide +kernel
theorem dX11_bar_36 : decode yX11_bar.2.1 36 = .ok (.getfield 20, 3) := by decide +kernel
theorem dX11_bar_39 : decode yX11_bar.2.1 39 = .ok (.iload_n 1, 1) := by decide +kernel
theorem dX11_bar_40 : decode yX11_bar.2.1 40 = .ok (.aaload, 1) := by decide +kernel
theorem dX11_bar_41 : decode yX11_bar.2.1 41 = .ok (.getfield 161, 3) := by decide +kernel
theorem dX11_bar_44 : decode yX11_bar.2.1 44 = .ok (.aload_n 0, 1) := by decide +kernel
theorem dX11_bar_45 : decode yX11_bar.2.1 45 = .ok (.getfield 20, 3) := by decide +kernel
theorem dX11_bar_48 : decode yX11_bar.2.1 48 = .ok (.iload_n 2, 1) := by decide +kernel
theorem dX11_bar_49 : decode yX11_bar.2.1 49 = .ok (.aaload, 1) := by decide +kernel
theorem dX11_bar_50 : decode yX11_bar.2.1 50 = .ok (.getfield 161, 3) := by decide +kernel
theorem dX11_bar_53 : decode yX11_bar.2.1 53 = .ok (.invokevirtual 240, 3) := by decide +kernel
theorem dX11_bar_56 : decode yX11_bar.2.1 56 = .ok (.ireturn, 1) := by decide +kernel
theorem dX11_inner_0 : decode yX11_inner.2.1 0 = .ok (.iload_n 2, 1) := by decide +kernel
theorem dX11_inner_1 : decode yX11_inner.2.1 1 = .ok (.bipush (-9), 2) := by decide +kernel
theorem dX11_inner_3 : decode yX11_inner.2.1 3 = .ok (.if_icmp .eq 12, 3) := by decide +kernel
theorem dX11_inner_6 : decode yX11_inner.2.1 6 = .ok (.iload_n 2, 1) := by decide +kernel
theorem dX11_inner_7 : decode yX11_inner.2.1 7 = .ok (.invokestatic 189, 3) := by decide +kernel
theorem dX11_inner_10 : decode yX11_inner.2.1 10 = .ok (.ifCond .eq 5, 3) := by decide +kernel
theorem dX11_inner_13 : decode yX11_inner.2.1 13 = .ok (.iconst (-1), 1) := by decide +kernel
theorem dX11_inner_14 : decode yX11_inner.2.1 14 = .ok (.ireturn, 1) := by decide +kernel
theorem dX11_inner_15 : decode yX11_inner.2.1 15 = .ok (.aload_n 0, 1) := by decide +kernel
theorem dX11_inner_16 : decode yX11_inner.2.1 16 = .ok (.iload_n 1, 1) := by decide +kernel
theorem dX11_inner_17 : decode yX11_inner.2.1 17 = .ok (.invokevirtual 186, 3) := by decide +kernel
theorem dX11_inner_20 : decode yX11_inner.2.1 20 = .ok (.istore_n 3, 1) := by decide +kernel
theorem dX11_inner_21 : decode yX11_inner.2.1 21 = .ok (.iload_n 3, 1) := by decide +kernel
theorem dX11_inner_22 : decode yX11_inner.2.1 22 = .ok (.ifCond .eq 5, 3) := by decide +kernel
theorem dX11_inner_25 : decode yX11_inner.2.1 25 = .ok (.iload_n 3, 1) := by decide +kernel
theorem dX11_inner_26 : decode yX11_inner.2.1 26 = .ok (.ireturn, 1) := by decide +kernel
theorem dX11_inner_27 : decode yX11_inner.2.1 27 = .ok (.aload_n 0, 1) := by decide +kernel
theorem dX11_inner_28 : decode yX11_inner.2.1 28 = .ok (.getfield 102, 3) := by decide +kernel
theorem dX11_inner_31 : decode yX11_inner.2.1 31 = .ok (.aload_n 0, 1) := by decide +kernel
theorem dX11_inner_32 : decode yX11_inner.2.1 32 = .ok (.getfield 20, 3) := by decide +kernel
theorem dX11_inner_35 : decode yX11_inner.2.1 35 = .ok (.iload_n 1, 1) := by decide +kernel
theorem dX11_inner_36 : decode yX11_inner.2.1 36 = .ok (.aaload, 1) := by decide +kernel
theorem dX11_inner_37 : decode yX11_inner.2.1 37 = .ok (.getfield 161, 3) := by decide +kernel
theorem dX11_inner_40 : decode yX11_inner.2.1 40 = .ok (.invokevirtual 244, 3) := by decide +kernel
theorem dX11_inner_43 : decode yX11_inner.2.1 43 = .ok (.aload_n 0, 1) := by decide +kernel
theorem dX11_inner_44 : decode yX11_inner.2.1 44 = .ok (.iload_n 2, 1) := by decide +kernel
theorem dX11_inner_45 : decode yX11_inner.2.1 45 = .ok (.bipush (-9), 2) := by decide +kernel
theorem dX11_inner_47 : decode yX11_inner.2.1 47 = .ok (.if_icmp .ne 13, 3) := by decide +kernel
theorem dX11_inner_50 : decode yX11_inner.2.1 50 = .ok (.aload_n 0, 1) := by decide +kernel
theorem dX11_inner_51 : decode yX11_inner.2.1 51 = .ok (.getfield 102, 3) := by decide +kernel
theorem dX11_inner_54 : decode yX11_inner.2.1 54 = .ok (.invokevirtual 247, 3) := by decide +kernel
theorem dX11_inner_57 : decode yX11_inner.2.1 57 = .ok (.goto 11, 3) := by decide +kernel
theorem dX11_inner_60 : decode yX11_inner.2.1 60 = .ok (.aload_n 0, 1) := by decide +kernel
theorem dX11_inner_61 : decode yX11_inner.2.1 61 = .ok (.getfield 102, 3) := by decide +kernel
theorem dX11_inner_64 : decode yX11_inner.2.1 64 = .ok (.iload_n 2, 1) := by decide +kernel
theorem dX11_inner_65 : decode yX11_inner.2.1 65 = .ok (.invokevirtual 251, 3) := by decide +kernel
theorem dX11_inner_68 : decode yX11_inner.2.1 68 = .ok (.putfield 31, 3) := by decide +kernel
theorem dX11_inner_71 : decode yX11_inner.2.1 71 = .ok (.iconst 1, 1) := by decide +kernel
theorem dX11_inner_72 : decode yX11_inner.2.1 72 = .ok (.ireturn, 1) := by decide +kernel
theorem dX11_rank_0 : decode yX11_rank.2.1 0 = .ok (.aload_n 0, 1) := by decide +kernel
theorem dX11_rank_1 : decode yX11_rank.2.1 1 = .ok (.iload_n 1, 1) := by decide +kernel
theorem dX11_rank_2 : decode yX11_rank.2.1 2 = .ok (.iload_n 2, 1) := by decide +kernel
theorem dX11_rank_3 : decode yX11_rank.2.1 3 = .ok (.invokevirtual 183, 3) := by decide +kernel
theorem dX11_rank_6 : decode yX11_rank.2.1 6 = .ok (.istore_n 3, 1) := by decide +kernel
theorem dX11_rank_7 : decode yX11_rank.2.1 7 = .ok (.iload_n 3, 1) := by decide +kernel
theorem dX11_rank_8 : decode yX11_rank.2.1 8 = .ok (.ifCond .eq 5, 3) := by decide +kernel
theorem dX11_rank_11 : decode yX11_rank.2.1 11 = .ok (.iload_n 3, 1) := by decide +kernel
theorem dX11_rank_12 : decode yX11_rank.2.1 12 = .ok (.ireturn, 1) := by decide +kernel
theorem dX11_rank_13 : decode yX11_rank.2.1 13 = .ok (.aload_n 0, 1) := by decide +kernel
theorem dX11_rank_14 : decode yX11_rank.2.1 14 = .ok (.getfield 102, 3) := by decide +kernel
theorem dX11_rank_17 : decode yX11_rank.2.1 17 = .ok (.aload_n 0, 1) := by decide +kernel
theorem dX11_rank_18 : decode yX11_rank.2.1 18 = .ok (.getfield 20, 3) := by decide +kernel
theorem dX11_rank_21 : decode yX11_rank.2.1 21 = .ok (.iload_n 1, 1) := by decide +kernel
theorem dX11_rank_22 : decode yX11_rank.2.1 22 = .ok (.aaload, 1) := by decide +kernel
theorem dX11_rank_23 : decode yX11_rank.2.1 23 = .ok (.getfield 161, 3) := by decide +kernel
theorem dX11_rank_26 : decode yX11_rank.2.1 26 = .ok (.invokevirtual 244, 3) := by decide +kernel
theorem dX11_rank_29 : decode yX11_rank.2.1 29 = .ok (.aload_n 0, 1) := by decide +kernel
theorem dX11_rank_30 : decode yX11_rank.2.1 30 = .ok (.getfield 102, 3) := by decide +kernel
theorem dX11_rank_33 : decode yX11_rank.2.1 33 = .ok (.aload_n 0, 1) := by decide +kernel
theorem dX11_rank_34 : decode yX11_rank.2.1 34 = .ok (.getfield 20, 3) := by decide +kernel
theorem dX11_rank_37 : decode yX11_rank.2.1 37 = .ok (.iload_n 2, 1) := by decide +kernel
theorem dX11_rank_38 : decode yX11_rank.2.1 38 = .ok (.aaload, 1) := by decide +kernel
theorem dX11_rank_39 : decode yX11_rank.2.1 39 = .ok (.getfield 161, 3) := by decide +kernel
theorem dX11_rank_42 : decode yX11_rank.2.1 42 = .ok (.invokevirtual 254, 3) := by decide +kernel
theorem dX11_rank_45 : decode yX11_rank.2.1 45 = .ok (.lstore 4, 2) := by decide +kernel
theorem dX11_rank_47 : decode yX11_rank.2.1 47 = .ok (.lload 4, 2) := by decide +kernel
theorem dX11_rank_49 : decode yX11_rank.2.1 49 = .ok (.lconst 0, 1) := by decide +kernel
theorem dX11_rank_50 : decode yX11_rank.2.1 50 = .ok (.lcmp, 1) := by decide +kernel
theorem dX11_rank_51 : decode yX11_rank.2.1 51 = .ok (.ifCond .ge 6, 3) := by decide +kernel
theorem dX11_rank_54 : decode yX11_rank.2.1 54 = .ok (.bipush (-9), 2) := by decide +kernel
theorem dX11_rank_56 : decode yX11_rank.2.1 56 = .ok (.ireturn, 1) := by decide +kernel
theorem dX11_rank_57 : decode yX11_rank.2.1 57 = .ok (.aload_n 0, 1) := by decide +kernel
theorem dX11_rank_58 : decode yX11_rank.2.1 58 = .ok (.lload 4, 2) := by decide +kernel
theorem dX11_rank_60 : decode yX11_rank.2.1 60 = .ok (.putfield 31, 3) := by decide +kernel
theorem dX11_rank_63 : decode yX11_rank.2.1 63 = .ok (.iconst 1, 1) := by decide +kernel
theorem dX11_rank_64 : decode yX11_rank.2.1 64 = .ok (.ireturn, 1) := by decide +kernel
theorem dX11_byRank_0 : decode yX11_byRank.2.1 0 = .ok (.iload_n 2, 1) := by decide +kernel
theorem dX11_byRank_1 : decode yX11_byRank.2.1 1 = .ok (.invokestatic 189, 3) := by decide +kernel
theorem dX11_byRank_4 : decode yX11_byRank.2.1 4 = .ok (.ifCond .ne 15, 3) := by decide +kernel
theorem dX11_byRank_7 : decode yX11_byRank.2.1 7 = .ok (.iload_n 3, 1) := by decide +kernel
theorem dX11_byRank_8 : decode yX11_byRank.2.1 8 = .ok (.ifCond .lt 11, 3) := by decide +kernel
theorem dX11_byRank_11 : decode yX11_byRank.2.1 11 = .ok (.iload 4, 2) := by decide +kernel
theorem dX11_byRank_13 : decode yX11_byRank.2.1 13 = .ok (.invokestatic 113, 3) := by decide +kernel
theorem dX11_byRank_16 : decode yX11_byRank.2.1 16 = .ok (.ifCond .eq 5, 3) := by decide +kernel
theorem dX11_byRank_19 : decode yX11_byRank.2.1 19 = .ok (.iconst (-1), 1) := by decide +kernel
theorem dX11_byRank_20 : decode yX11_byRank.2.1 20 = .ok (.ireturn, 1) := by decide +kernel
theorem dX11_byRank_21 : decode yX11_byRank.2.1 21 = .ok (.aload_n 0, 1) := by decide +kernel
theorem dX11_byRank_22 : decode yX11_byRank.2.1 22 = .ok (.iload_n 1, 1) := by decide +kernel
theorem dX11_byRank_23 : decode yX11_byRank.2.1 23 = .ok (.invokevirtual 186, 3) := by decide +kernel
theorem dX11_byRank_26 : decode yX11_byRank.2.1 26 = .ok (.istore 5, 2) := by decide +kernel
theorem dX11_byRank_28 : decode yX11_byRank.2.1 28 = .ok (.iload 5, 2) := by decide +kernel
theorem dX11_byRank_30 : decode yX11_byRank.2.1 30 = .ok (.ifCond .eq 6, 3) := by decide +kernel
theorem dX11_byRank_33 : decode yX11_byRank.2.1 33 = .ok (.iload 5, 2) := by decide +kernel
theorem dX11_byRank_35 : decode yX11_byRank.2.1 35 = .ok (.ireturn, 1) := by decide +kernel
theorem dX11_byRank_36 : decode yX11_byRank.2.1 36 = .ok (.aload_n 0, 1) := by decide +kernel
theorem dX11_byRank_37 : decode yX11_byRank.2.1 37 = .ok (.getfield 102, 3) := by decide +kernel
theorem dX11_byRank_40 : decode yX11_byRank.2.1 40 = .ok (.aload_n 0, 1) := by decide +kernel
theorem dX11_byRank_41 : decode yX11_byRank.2.1 41 = .ok (.getfield 20, 3) := by decide +kernel
theorem dX11_byRank_44 : decode yX11_byRank.2.1 44 = .ok (.iload_n 1, 1) := by decide +kernel
theorem dX11_byRank_45 : decode yX11_byRank.2.1 45 = .ok (.aaload, 1) := by decide +kernel
theorem dX11_byRank_46 : decode yX11_byRank.2.1 46 = .ok (.getfield 161, 3) := by decide +kernel
theorem dX11_byRank_49 : decode yX11_byRank.2.1 49 = .ok (.invokevirtual 244, 3) := by decide +kernel
theorem dX11_byRank_52 : decode yX11_byRank.2.1 52 = .ok (.iload_n 3, 1) := by decide +kernel
theorem dX11_byRank_53 : decode yX11_byRank.2.1 53 = .ok (.i2l, 1) := by decide +kernel
theorem dX11_byRank_54 : decode yX11_byRank.2.1 54 = .ok (.aload_n 0, 1) := by decide +kernel
theorem dX11_byRank_55 : decode yX11_byRank.2.1 55 = .ok (.getfield 102, 3) := by decide +kernel
theorem dX11_byRank_58 : decode yX11_byRank.2.1 58 = .ok (.iload_n 2, 1) := by decide +kernel
theorem dX11_byRank_59 : decode yX11_byRank.2.1 59 = .ok (.invokevirtual 251, 3) := by decide +kernel
theorem dX11_byRank_62 : decode yX11_byRank.2.1 62 = .ok (.lcmp, 1) := by decide +kernel
theorem dX11_byRank_63 : decode yX11_byRank.2.1 63 = .ok (.ifCond .lt 6, 3) := by decide +kernel
theorem dX11_byRank_66 : decode yX11_byRank.2.1 66 = .ok (.bipush (-9), 2) := by decide +kernel
theorem dX11_byRank_68 : decode yX11_byRank.2.1 68 = .ok (.ireturn, 1) := by decide +kernel
theorem dX11_byRank_69 : decode yX11_byRank.2.1 69 = .ok (.aload_n 0, 1) := by decide +kernel
theorem dX11_byRank_70 : decode yX11_byRank.2.1 70 = .ok (.getfield 102, 3) := by decide +kernel
theorem dX11_byRank_73 : decode yX11_byRank.2.1 73 = .ok (.iload_n 2, 1) := by decide +kernel
theorem dX11_byRank_74 : decode yX11_byRank.2.1 74 = .ok (.iload_n 3, 1) := by decide +kernel
theorem dX11_byRank_75 : decode yX11_byRank.2.1 75 = .ok (.aload_n 0, 1) := by decide +kernel
theorem dX11_byRank_76 : decode yX11_byRank.2.1 76 = .ok (.getfield 48, 3) := by decide +kernel
theorem dX11_byRank_79 : decode yX11_byRank.2.1 79 = .ok (.invokevirtual 258, 3) := by decide +kernel
theorem dX11_byRank_82 : decode yX11_byRank.2.1 82 = .ok (.aload_n 0, 1) := by decide +kernel
theorem dX11_byRank_83 : decode yX11_byRank.2.1 83 = .ok (.getfield 11, 3) := by decide +kernel
theorem dX11_byRank_86 : decode yX11_byRank.2.1 86 = .ok (.iload 4, 2) := by decide +kernel
theorem dX11_byRank_88 : decode yX11_byRank.2.1 88 = .ok (.aaload, 1) := by decide +kernel
theorem dX11_byRank_89 : decode yX11_byRank.2.1 89 = .ok (.aload_n 0, 1) := by decide +kernel
theorem dX11_byRank_90 : decode yX11_byRank.2.1 90 = .ok (.getfield 48, 3) := by decide +kernel
theorem dX11_byRank_93 : decode yX11_byRank.2.1 93 = .ok (.iload_n 2, 1) := by decide +kernel
theorem dX11_byRank_94 : decode yX11_byRank.2.1 94 = .ok (.invokevirtual 219, 3) := by decide +kernel
theorem dX11_byRank_97 : decode yX11_byRank.2.1 97 = .ok (.ireturn, 1) := by decide +kernel
theorem dX11_arches_0 : decode yX11_arches.2.1 0 = .ok (.aload_n 0, 1) := by decide +kernel
theorem dX11_arches_1 : decode yX11_arches.2.1 1 = .ok (.iload_n 1, 1) := by decide +kernel
theorem dX11_arches_2 : decode yX11_arches.2.1 2 = .ok (.invokevirtual 186, 3) := by decide +kernel
theorem dX11_arches_5 : decode yX11_arches.2.1 5 = .ok (.istore_n 2, 1) := by decide +kernel
theorem dX11_arches_6 : decode yX11_arches.2.1 6 = .ok (.iload_n 2, 1) := by decide +kernel
theorem dX11_arches_7 : decode yX11_arches.2.1 7 = .ok (.ifCond .eq 5, 3) := by decide +kernel
theorem dX11_arches_10 : decode yX11_arches.2.1 10 = .ok (.iload_n 2, 1) := by decide +kernel
theorem dX11_arches_11 : decode yX11_arches.2.1 11 = .ok (.ireturn, 1) := by decide +kernel
theorem dX11_arches_12 : decode yX11_arches.2.1 12 = .ok (.aload_n 0, 1) := by decide +kernel
theorem dX11_arches_13 : decode yX11_arches.2.1 13 = .ok (.getfield 68, 3) := by decide +kernel
theorem dX11_arches_16 : decode yX11_arches.2.1 16 = .ok (.aload_n 0, 1) := by decide +kernel
theorem dX11_arches_17 : decode yX11_arches.2.1 17 = .ok (.getfield 20, 3) := by decide +kernel
theorem dX11_arches_20 : decode yX11_arches.2.1 20 = .ok (.iload_n 1, 1) := by decide +kernel
theorem dX11_arches_21 : decode yX11_arches.2.1 21 = .ok (.aaload, 1) := by decide +kernel
theorem dX11_arches_22 : decode yX11_arches.2.1 22 = .ok (.getfield 161, 3) := by decide +kernel
theorem dX11_arches_25 : decode yX11_arches.2.1 25 = .ok (.aload_n 0, 1) := by decide +kernel
theorem dX11_arches_26 : decode yX11_arches.2.1 26 = .ok (.getfield 24, 3) := by decide +kernel
theorem dX11_arches_29 : decode yX11_arches.2.1 29 = .ok (.invokevirtual 262, 3) := by decide +kernel
theorem dX11_arches_32 : decode yX11_arches.2.1 32 = .ok (.aload_n 0, 1) := by decide +kernel
theorem dX11_arches_33 : decode yX11_arches.2.1 33 = .ok (.aload_n 0, 1) := by decide +kernel
theorem dX11_arches_34 : decode yX11_arches.2.1 34 = .ok (.getfield 68, 3) := by decide +kernel
theorem dX11_arches_37 : decode yX11_arches.2.1 37 = .ok (.getfield 265, 3) := by decide +kernel
theorem dX11_arches_40 : decode yX11_arches.2.1 40 = .ok (.putfield 28, 3) := by decide +kernel
theorem dX11_arches_43 : decode yX11_arches.2.1 43 = .ok (.aload_n 0, 1) := by decide +kernel
theorem dX11_arches_44 : decode yX11_arches.2.1 44 = .ok (.getfield 68, 3) := by decide +kernel
theorem dX11_arches_47 : decode yX11_arches.2.1 47 = .ok (.getfield 268, 3) := by decide +kernel
theorem dX11_arches_50 : decode yX11_arches.2.1 50 = .ok (.ireturn, 1) := by decide +kernel
theorem dX11_absent_0 : decode yX11_absent.2.1 0 = .ok (.iload_n 2, 1) := by decide +kernel
theorem dX11_absent_1 : decode yX11_absent.2.1 1 = .ok (.invokestatic 113, 3) := by decide +kernel
theorem dX11_absent_4 : decode yX11_absent.2.1 4 = .ok (.ifCond .eq 5, 3) := by decide +kernel
theorem dX11_absent_7 : decode yX11_absent.2.1 7 = .ok (.iconst (-1), 1) := by decide +kernel
theorem dX11_absent_8 : decode yX11_absent.2.1 8 = .ok (.ireturn, 1) := by decide +kernel
theorem dX11_absent_9 : decode yX11_absent.2.1 9 = .ok (.aload_n 0, 1) := by decide +kernel
theorem dX11_absent_10 : decode yX11_absent.2.1 10 = .ok (.iload_n 1, 1) := by decide +kernel
theorem dX11_absent_11 : decode yX11_absent.2.1 11 = .ok (.invokevirtual 186, 3) := by decide +kernel
theorem dX11_absent_14 : decode yX11_absent.2.1 14 = .ok (.istore_n 3, 1) := by decide +kernel
theorem dX11_absent_15 : decode yX11_absent.2.1 15 = .ok (.iload_n 3, 1) := by decide +kernel
theorem dX11_absent_16 : decode yX11_absent.2.1 16 = .ok (.ifCond .eq 5, 3) := by decide +kernel
theorem dX11_absent_19 : decode yX11_absent.2.1 19 = .ok (.iload_n 3, 1) := by decide +kernel
theorem dX11_absent_20 : decode yX11_absent.2.1 20 = .ok (.ireturn, 1) := by decide +kernel
theorem dX11_absent_21 : decode yX11_absent.2.1 21 = .ok (.aload_n 0, 1) := by decide +kernel
theorem dX11_absent_22 : decode yX11_absent.2.1 22 = .ok (.getfield 68, 3) := by decide +kernel
theorem dX11_absent_25 : decode yX11_absent.2.1 25 = .ok (.aload_n 0, 1) := by decide +kernel
theorem dX11_absent_26 : decode yX11_absent.2.1 26 = .ok (.getfield 20, 3) := by decide +kernel
theorem dX11_absent_29 : decode yX11_absent.2.1 29 = .ok (.iload_n 1, 1) := by decide +kernel
theorem dX11_absent_30 : decode yX11_absent.2.1 30 = .ok (.aaload, 1) := by decide +kernel
theorem dX11_absent_31 : decode yX11_absent.2.1 31 = .ok (.getfield 161, 3) := by decide +kernel
theorem dX11_absent_34 : decode yX11_absent.2.1 34 = .ok (.aload_n 0, 1) := by decide +kernel
theorem dX11_absent_35 : decode yX11_absent.2.1 35 = .ok (.getfield 24, 3) := by decide +kernel
theorem dX11_absent_38 : decode yX11_absent.2.1 38 = .ok (.invokevirtual 271, 3) := by decide +kernel
theorem dX11_absent_41 : decode yX11_absent.2.1 41 = .ok (.aload_n 0, 1) := by decide +kernel
theorem dX11_absent_42 : decode yX11_absent.2.1 42 = .ok (.aload_n 0, 1) := by decide +kernel
theorem dX11_absent_43 : decode yX11_absent.2.1 43 = .ok (.getfield 68, 3) := by decide +kernel
theorem dX11_absent_46 : decode yX11_absent.2.1 46 = .ok (.getfield 274, 3) := by decide +kernel
theorem dX11_absent_49 : decode yX11_absent.2.1 49 = .ok (.iconst 0, 1) := by decide +kernel
theorem dX11_absent_50 : decode yX11_absent.2.1 50 = .ok (.laload, 1) := by decide +kernel
theorem dX11_absent_51 : decode yX11_absent.2.1 51 = .ok (.putfield 31, 3) := by decide +kernel
theorem dX11_absent_54 : decode yX11_absent.2.1 54 = .ok (.aload_n 0, 1) := by decide +kernel
theorem dX11_absent_55 : decode yX11_absent.2.1 55 = .ok (.getfield 68, 3) := by decide +kernel
theorem dX11_absent_58 : decode yX11_absent.2.1 58 = .ok (.getfield 278, 3) := by decide +kernel
theorem dX11_absent_61 : decode yX11_absent.2.1 61 = .ok (.iconst 0, 1) := by decide +kernel
theorem dX11_absent_62 : decode yX11_absent.2.1 62 = .ok (.iaload, 1) := by decide +kernel
theorem dX11_absent_63 : decode yX11_absent.2.1 63 = .ok (.istore 4, 2) := by decide +kernel
theorem dX11_absent_65 : decode yX11_absent.2.1 65 = .ok (.aload_n 0, 1) := by decide +kernel
theorem dX11_absent_66 : decode yX11_absent.2.1 66 = .ok (.getfield 11, 3) := by decide +kernel
theorem dX11_absent_69 : decode yX11_absent.2.1 69 = .ok (.iload_n 2, 1) := by decide +kernel
theorem dX11_absent_70 : decode yX11_absent.2.1 70 = .ok (.aaload, 1) := by decide +kernel
theorem dX11_absent_71 : decode yX11_absent.2.1 71 = .ok (.aload_n 0, 1) := by decide +kernel
theorem dX11_absent_72 : decode yX11_absent.2.1 72 = .ok (.getfield 48, 3) := by decide +kernel
theorem dX11_absent_75 : decode yX11_absent.2.1 75 = .ok (.aload_n 0, 1) := by decide +kernel
theorem dX11_absent_76 : decode yX11_absent.2.1 76 = .ok (.getfield 68, 3) := by decide +kernel
theorem dX11_absent_79 : decode yX11_absent.2.1 79 = .ok (.aload_n 0, 1) := by decide +kernel
theorem dX11_absent_80 : decode yX11_absent.2.1 80 = .ok (.getfield 24, 3) := by decide +kernel
theorem dX11_absent_83 : decode yX11_absent.2.1 83 = .ok (.aload_n 0, 1) := by decide +kernel
theorem dX11_absent_84 : decode yX11_absent.2.1 84 = .ok (.getfield 48, 3) := by decide +kernel
theorem dX11_absent_87 : decode yX11_absent.2.1 87 = .ok (.invokevirtual 281, 3) := by decide +kernel
theorem dX11_absent_90 : decode yX11_absent.2.1 90 = .ok (.invokevirtual 219, 3) := by decide +kernel
theorem dX11_absent_93 : decode yX11_absent.2.1 93 = .ok (.pop, 1) := by decide +kernel
theorem dX11_absent_94 : decode yX11_absent.2.1 94 = .ok (.iload 4, 2) := by decide +kernel
theorem dX11_absent_96 : decode yX11_absent.2.1 96 = .ok (.ireturn, 1) := by decide +kernel
theorem dX11_added_0 : decode yX11_added.2.1 0 = .ok (.iload_n 2, 1) := by decide +kernel
theorem dX11_added_1 : decode yX11_added.2.1 1 = .ok (.invokestatic 189, 3) := by decide +kernel
theorem dX11_added_4 : decode yX11_added.2.1 4 = .ok (.ifCond .eq 5, 3) := by decide +kernel
theorem dX11_added_7 : decode yX11_added.2.1 7 = .ok (.iconst (-1), 1) := by decide +kernel
theorem dX11_added_8 : decode yX11_added.2.1 8 = .ok (.ireturn, 1) := by decide +kernel
theorem dX11_added_9 : decode yX11_added.2.1 9 = .ok (.aload_n 0, 1) := by decide +kernel
theorem dX11_added_10 : decode yX11_added.2.1 10 = .ok (.iload_n 1, 1) := by decide +kernel
theorem dX11_added_11 : decode yX11_added.2.1 11 = .ok (.invokevirtual 186, 3) := by decide +kernel
theorem dX11_added_14 : decode yX11_added.2.1 14 = .ok (.istore_n 3, 1) := by decide +kernel
theorem dX11_added_15 : decode yX11_added.2.1 15 = .ok (.iload_n 3, 1) := by decide +kernel
theorem dX11_added_16 : decode yX11_added.2.1 16 = .ok (.ifCond .eq 5, 3) := by decide +kernel
theorem dX11_added_19 : decode yX11_added.2.1 19 = .ok (.iload_n 3, 1) := by decide +kernel
theorem dX11_added_20 : decode yX11_added.2.1 20 = .ok (.ireturn, 1) := by decide +kernel
theorem dX11_added_21 : decode yX11_added.2.1 21 = .ok (.aload_n 0, 1) := by decide +kernel
theorem dX11_added_22 : decode yX11_added.2.1 22 = .ok (.getfield 68, 3) := by decide +kernel
theorem dX11_added_25 : decode yX11_added.2.1 25 = .ok (.aload_n 0, 1) := by decide +kernel
theorem dX11_added_26 : decode yX11_added.2.1 26 = .ok (.getfield 20, 3) := by decide +kernel
theorem dX11_added_29 : decode yX11_added.2.1 29 = .ok (.iload_n 1, 1) := by decide +kernel
theorem dX11_added_30 : decode yX11_added.2.1 30 = .ok (.aaload, 1) := by decide +kernel
theorem dX11_added_31 : decode yX11_added.2.1 31 = .ok (.getfield 161, 3) := by decide +kernel
theorem dX11_added_34 : decode yX11_added.2.1 34 = .ok (.aload_n 0, 1) := by decide +kernel
theorem dX11_added_35 : decode yX11_added.2.1 35 = .ok (.getfield 24, 3) := by decide +kernel
theorem dX11_added_38 : decode yX11_added.2.1 38 = .ok (.invokevirtual 262, 3) := by decide +kernel
theorem dX11_added_41 : decode yX11_added.2.1 41 = .ok (.aload_n 0, 1) := by decide +kernel
theorem dX11_added_42 : decode yX11_added.2.1 42 = .ok (.getfield 68, 3) := by decide +kernel
theorem dX11_added_45 : decode yX11_added.2.1 45 = .ok (.iload_n 2, 1) := by decide +kernel
theorem dX11_added_46 : decode yX11_added.2.1 46 = .ok (.aload_n 0, 1) := by decide +kernel
theorem dX11_added_47 : decode yX11_added.2.1 47 = .ok (.getfield 24, 3) := by decide +kernel
theorem dX11_added_50 : decode yX11_added.2.1 50 = .ok (.invokevirtual 285, 3) := by decide +kernel
theorem dX11_added_53 : decode yX11_added.2.1 53 = .ok (.ireturn, 1) := by decide +kernel
theorem dX11_alike_0 : decode yX11_alike.2.1 0 = .ok (.iload_n 3, 1) := by decide +kernel
theorem dX11_alike_1 : decode yX11_alike.2.1 1 = .ok (.invokestatic 189, 3) := by decide +kernel
theorem dX11_alike_4 : decode yX11_alike.2.1 4 = .ok (.ifCond .eq 5, 3) := by decide +kernel
theorem dX11_alike_7 : decode yX11_alike.2.1 7 = .ok (.iconst (-1), 1) := by decide +kernel
theorem dX11_alike_8 : decode yX11_alike.2.1 8 = .ok (.ireturn, 1) := by decide +kernel
theorem dX11_alike_9 : decode yX11_alike.2.1 9 = .ok (.aload_n 0, 1) := by decide +kernel
theorem dX11_alike_10 : decode yX11_alike.2.1 10 = .ok (.iload_n 1, 1) := by decide +kernel
theorem dX11_alike_11 : decode yX11_alike.2.1 11 = .ok (.iload_n 2, 1) := by decide +kernel
theorem dX11_alike_12 : decode yX11_alike.2.1 12 = .ok (.invokevirtual 183, 3) := by decide +kernel
theorem dX11_alike_15 : decode yX11_alike.2.1 15 = .ok (.istore 4, 2) := by decide +kernel
theorem dX11_alike_17 : decode yX11_alike.2.1 17 = .ok (.iload 4, 2) := by decide +kernel
theorem dX11_alike_19 : decode yX11_alike.2.1 19 = .ok (.ifCond .eq 6, 3) := by decide +kernel
theorem dX11_alike_22 : decode yX11_alike.2.1 22 = .ok (.iload 4, 2) := by decide +kernel
theorem dX11_alike_24 : decode yX11_alike.2.1 24 = .ok (.ireturn, 1) := by decide +kernel
theorem dX11_alike_25 : decode yX11_alike.2.1 25 = .ok (.aload_n 0, 1) := by decide +kernel
theorem dX11_alike_26 : decode yX11_alike.2.1 26 = .ok (.getfield 109, 3) := by decide +kernel
theorem dX11_alike_29 : decode yX11_alike.2.1 29 = .ok (.aload_n 0, 1) := by decide +kernel
theorem dX11_alike_30 : decode yX11_alike.2.1 30 = .ok (.getfield 20, 3) := by decide +kernel
theorem dX11_alike_33 : decode yX11_alike.2.1 33 = .ok (.iload_n 1, 1) := by decide +kernel
theorem dX11_alike_34 : decode yX11_alike.2.1 34 = .ok (.aaload, 1) := by decide +kernel
theorem dX11_alike_35 : decode yX11_alike.2.1 35 = .ok (.getfield 161, 3) := by decide +kernel
theorem dX11_alike_38 : decode yX11_alike.2.1 38 = .ok (.aload_n 0, 1) := by decide +kernel
theorem dX11_alike_39 : decode yX11_alike.2.1 39 = .ok (.getfield 20, 3) := by decide +kernel
theorem dX11_alike_42 : decode yX11_alike.2.1 42 = .ok (.iload_n 2, 1) := by decide +kernel
theorem dX11_alike_43 : decode yX11_alike.2.1 43 = .ok (.aaload, 1) := by decide +kernel
theorem dX11_alike_44 : decode yX11_alike.2.1 44 = .ok (.getfield 161, 3) := by decide +kernel
theorem dX11_alike_47 : decode yX11_alike.2.1 47 = .ok (.invokevirtual 288, 3) := by decide +kernel
theorem dX11_alike_50 : decode yX11_alike.2.1 50 = .ok (.istore 5, 2) := by decide +kernel
theorem dX11_alike_52 : decode yX11_alike.2.1 52 = .ok (.iload 5, 2) := by decide +kernel
theorem dX11_alike_54 : decode yX11_alike.2.1 54 = .ok (.ifCond .eq 9, 3) := by decide +kernel
theorem dX11_alike_57 : decode yX11_alike.2.1 57 = .ok (.iload 5, 2) := by decide +kernel
theorem dX11_alike_59 : decode yX11_alike.2.1 59 = .ok (.iload_n 3, 1) := by decide +kernel
theorem dX11_alike_60 : decode yX11_alike.2.1 60 = .ok (.if_icmp .le 7, 3) := by decide +kernel
theorem dX11_alike_63 : decode yX11_alike.2.1 63 = .ok (.iconst 1, 1) := by decide +kernel
theorem dX11_alike_64 : decode yX11_alike.2.1 64 = .ok (.goto 4, 3) := by decide +kernel
theorem dX11_alike_67 : decode yX11_alike.2.1 67 = .ok (.iconst 0, 1) := by decide +kernel
theorem dX11_alike_68 : decode yX11_alike.2.1 68 = .ok (.ireturn, 1) := by decide +kernel
theorem dX11_parting_0 : decode yX11_parting.2.1 0 = .ok (.iload_n 3, 1) := by decide +kernel
theorem dX11_parting_1 : decode yX11_parting.2.1 1 = .ok (.invokestatic 113, 3) := by decide +kernel
theorem dX11_parting_4 : decode yX11_parting.2.1 4 = .ok (.ifCond .eq 5, 3) := by decide +kernel
theorem dX11_parting_7 : decode yX11_parting.2.1 7 = .ok (.iconst (-1), 1) := by decide +kernel
theorem dX11_parting_8 : decode yX11_parting.2.1 8 = .ok (.ireturn, 1) := by decide +kernel
theorem dX11_parting_9 : decode yX11_parting.2.1 9 = .ok (.aload_n 0, 1) := by decide +kernel
theorem dX11_parting_10 : decode yX11_parting.2.1 10 = .ok (.iload_n 1, 1) := by decide +kernel
theorem dX11_parting_11 : decode yX11_parting.2.1 11 = .ok (.iload_n 2, 1) := by decide +kernel
theorem dX11_parting_12 : decode yX11_parting.2.1 12 = .ok (.invokevirtual 183, 3) := by decide +kernel
theorem dX11_parting_15 : decode yX11_parting.2.1 15 = .ok (.istore 4, 2) := by decide +kernel
theorem dX11_parting_17 : decode yX11_parting.2.1 17 = .ok (.iload 4, 2) := by decide +kernel
theorem dX11_parting_19 : decode yX11_parting.2.1 19 = .ok (.ifCond .eq 6, 3) := by decide +kernel
theorem dX11_parting_22 : decode yX11_parting.2.1 22 = .ok (.iload 4, 2) := by decide +kernel
theorem dX11_parting_24 : decode yX11_parting.2.1 24 = .ok (.ireturn, 1) := by decide +kernel
theorem dX11_parting_25 : decode yX11_parting.2.1 25 = .ok (.aload_n 0, 1) := by decide +kernel
theorem dX11_parting_26 : decode yX11_parting.2.1 26 = .ok (.getfield 109, 3) := by decide +kernel
theorem dX11_parting_29 : decode yX11_parting.2.1 29 = .ok (.aload_n 0, 1) := by decide +kernel
theorem dX11_parting_30 : decode yX11_parting.2.1 30 = .ok (.getfield 20, 3) := by decide +kernel
theorem dX11_parting_33 : decode yX11_parting.2.1 33 = .ok (.iload_n 1, 1) := by decide +kernel
theorem dX11_parting_34 : decode yX11_parting.2.1 34 = .ok (.aaload, 1) := by decide +kernel
theorem dX11_parting_35 : decode yX11_parting.2.1 35 = .ok (.getfield 161, 3) := by decide +kernel
theorem dX11_parting_38 : decode yX11_parting.2.1 38 = .ok (.aload_n 0, 1) := by decide +kernel
theorem dX11_parting_39 : decode yX11_parting.2.1 39 = .ok (.getfield 20, 3) := by decide +kernel
theorem dX11_parting_42 : decode yX11_parting.2.1 42 = .ok (.iload_n 2, 1) := by decide +kernel
theorem dX11_parting_43 : decode yX11_parting.2.1 43 = .ok (.aaload, 1) := by decide +kernel
theorem dX11_parting_44 : decode yX11_parting.2.1 44 = .ok (.getfield 161, 3) := by decide +kernel
theorem dX11_parting_47 : decode yX11_parting.2.1 47 = .ok (.invokevirtual 288, 3) := by decide +kernel
theorem dX11_parting_50 : decode yX11_parting.2.1 50 = .ok (.istore 5, 2) := by decide +kernel
theorem dX11_parting_52 : decode yX11_parting.2.1 52 = .ok (.iload 5, 2) := by decide +kernel
theorem dX11_parting_54 : decode yX11_parting.2.1 54 = .ok (.ifCond .ne 6, 3) := by decide +kernel
theorem dX11_parting_57 : decode yX11_parting.2.1 57 = .ok (.bipush (-9), 2) := by decide +kernel
theorem dX11_parting_59 : decode yX11_parting.2.1 59 = .ok (.ireturn, 1) := by decide +kernel
theorem dX11_parting_60 : decode yX11_parting.2.1 60 = .ok (.aload_n 0, 1) := by decide +kernel
theorem dX11_parting_61 : decode yX11_parting.2.1 61 = .ok (.getfield 109, 3) := by decide +kernel
theorem dX11_parting_64 : decode yX11_parting.2.1 64 = .ok (.iload 5, 2) := by decide +kernel
theorem dX11_parting_66 : decode yX11_parting.2.1 66 = .ok (.aload_n 0, 1) := by decide +kernel
theorem dX11_parting_67 : decode yX11_parting.2.1 67 = .ok (.getfield 48, 3) := by decide +kernel
theorem dX11_parting_70 : decode yX11_parting.2.1 70 = .ok (.invokevirtual 291, 3) := by decide +kernel
theorem dX11_parting_73 : decode yX11_parting.2.1 73 = .ok (.aload_n 0, 1) := by decide +kernel
theorem dX11_parting_74 : decode yX11_parting.2.1 74 = .ok (.getfield 11, 3) := by decide +kernel
theorem dX11_parting_77 : decode yX11_parting.2.1 77 = .ok (.iload_n 3, 1) := by decide +kernel
theorem dX11_parting_78 : decode yX11_parting.2.1 78 = .ok (.aaload, 1) := by decide +kernel
theorem dX11_parting_79 : decode yX11_parting.2.1 79 = .ok (.aload_n 0, 1) := by decide +kernel
theorem dX11_parting_80 : decode yX11_parting.2.1 80 = .ok (.getfield 48, 3) := by decide +kernel
theorem dX11_parting_83 : decode yX11_parting.2.1 83 = .ok (.iload 5, 2) := by decide +kernel
theorem dX11_parting_85 : decode yX11_parting.2.1 85 = .ok (.invokevirtual 219, 3) := by decide +kernel
theorem dX11_parting_88 : decode yX11_parting.2.1 88 = .ok (.ireturn, 1) := by decide +kernel
theorem dX11_common_0 : decode yX11_common.2.1 0 = .ok (.aload_n 0, 1) := by decide +kernel
theorem dX11_common_1 : decode yX11_common.2.1 1 = .ok (.iload_n 1, 1) := by decide +kernel
theorem dX11_common_2 : decode yX11_common.2.1 2 = .ok (.iload_n 2, 1) := by decide +kernel
theorem dX11_common_3 : decode yX11_common.2.1 3 = .ok (.invokevirtual 295, 3) := by decide +kernel
theorem dX11_common_6 : decode yX11_common.2.1 6 = .ok (.istore_n 3, 1) := by decide +kernel
theorem dX11_common_7 : decode yX11_common.2.1 7 = .ok (.iload_n 3, 1) := by decide +kernel
theorem dX11_common_8 : decode yX11_common.2.1 8 = .ok (.ifCond .eq 5, 3) := by decide +kernel
theorem dX11_common_11 : decode yX11_common.2.1 11 = .ok (.iload_n 3, 1) := by decide +kernel
theorem dX11_common_12 : decode yX11_common.2.1 12 = .ok (.ireturn, 1) := by decide +kernel
theorem dX11_common_13 : decode yX11_common.2.1 13 = .ok (.aload_n 0, 1) := by decide +kernel
theorem dX11_common_14 : decode yX11_common.2.1 14 = .ok (.getfield 82, 3) := by decide +kernel
theorem dX11_common_17 : decode yX11_common.2.1 17 = .ok (.aload_n 0, 1) := by decide +kernel
theorem dX11_common_18 : decode yX11_common.2.1 18 = .ok (.getfield 48, 3) := by decide +kernel
theorem dX11_common_21 : decode yX11_common.2.1 21 = .ok (.invokevirtual 298, 3) := by decide +kernel
theorem dX11_common_24 : decode yX11_common.2.1 24 = .ok (.istore 4, 2) := by decide +kernel
theorem dX11_common_26 : decode yX11_common.2.1 26 = .ok (.aload_n 0, 1) := by decide +kernel
theorem dX11_common_27 : decode yX11_common.2.1 27 = .ok (.getfield 11, 3) := by decide +kernel
theorem dX11_common_30 : decode yX11_common.2.1 30 = .ok (.iload_n 2, 1) := by decide +kernel
theorem dX11_common_31 : decode yX11_common.2.1 31 = .ok (.aaload, 1) := by decide +kernel
theorem dX11_common_32 : decode yX11_common.2.1 32 = .ok (.aload_n 0, 1) := by decide +kernel
theorem dX11_common_33 : decode yX11_common.2.1 33 = .ok (.getfield 48, 3) := by decide +kernel
theorem dX11_common_36 : decode yX11_common.2.1 36 = .ok (.iload 4, 2) := by decide +kernel
theorem dX11_common_38 : decode yX11_common.2.1 38 = .ok (.invokevirtual 219, 3) := by decide +kernel
theorem dX11_common_41 : decode yX11_common.2.1 41 = .ok (.ireturn, 1) := by decide +kernel
theorem dX11_cover_0 : decode yX11_cover.2.1 0 = .ok (.aload_n 0, 1) := by decide +kernel
theorem dX11_cover_1 : decode yX11_cover.2.1 1 = .ok (.iload_n 1, 1) := by decide +kernel
theorem dX11_cover_2 : decode yX11_cover.2.1 2 = .ok (.iload_n 2, 1) := by decide +kernel
theorem dX11_cover_3 : decode yX11_cover.2.1 3 = .ok (.invokevirtual 295, 3) := by decide +kernel
theorem dX11_cover_6 : decode yX11_cover.2.1 6 = .ok (.istore_n 3, 1) := by decide +kernel
theorem dX11_cover_7 : decode yX11_cover.2.1 7 = .ok (.iload_n 3, 1) := by decide +kernel
theorem dX11_cover_8 : decode yX11_cover.2.1 8 = .ok (.ifCond .eq 5, 3) := by decide +kernel
theorem dX11_cover_11 : decode yX11_cover.2.1 11 = .ok (.iload_n 3, 1) := by decide +kernel
theorem dX11_cover_12 : decode yX11_cover.2.1 12 = .ok (.ireturn, 1) := by decide +kernel
theorem dX11_cover_13 : decode yX11_cover.2.1 13 = .ok (.aload_n 0, 1) := by decide +kernel
theorem dX11_cover_14 : decode yX11_cover.2.1 14 = .ok (.getfield 82, 3) := by decide +kernel
theorem dX11_cover_17 : decode yX11_cover.2.1 17 = .ok (.aload_n 0, 1) := by decide +kernel
theorem dX11_cover_18 : decode yX11_cover.2.1 18 = .ok (.getfield 48, 3) := by decide +kernel
theorem dX11_cover_21 : decode yX11_cover.2.1 21 = .ok (.invokevirtual 302, 3) := by decide +kernel
theorem dX11_cover_24 : decode yX11_cover.2.1 24 = .ok (.istore 4, 2) := by decide +kernel
theorem dX11_cover_26 : decode yX11_cover.2.1 26 = .ok (.aload_n 0, 1) := by decide +kernel
theorem dX11_cover_27 : decode yX11_cover.2.1 27 = .ok (.getfield 11, 3) := by decide +kernel
theorem dX11_cover_30 : decode yX11_cover.2.1 30 = .ok (.iload_n 2, 1) := by decide +kernel
theorem dX11_cover_31 : decode yX11_cover.2.1 31 = .ok (.aaload, 1) := by decide +kernel
theorem dX11_cover_32 : decode yX11_cover.2.1 32 = .ok (.aload_n 0, 1) := by decide +kernel
theorem dX11_cover_33 : decode yX11_cover.2.1 33 = .ok (.getfield 48, 3) := by decide +kernel
theorem dX11_cover_36 : decode yX11_cover.2.1 36 = .ok (.iload 4, 2) := by decide +kernel
theorem dX11_cover_38 : decode yX11_cover.2.1 38 = .ok (.bipush 40, 2) := by decide +kernel
theorem dX11_cover_40 : decode yX11_cover.2.1 40 = .ok (.invokestatic 305, 3) := by decide +kernel
theorem dX11_cover_43 : decode yX11_cover.2.1 43 = .ok (.invokevirtual 219, 3) := by decide +kernel
theorem dX11_cover_46 : decode yX11_cover.2.1 46 = .ok (.pop, 1) := by decide +kernel
theorem dX11_cover_47 : decode yX11_cover.2.1 47 = .ok (.iload 4, 2) := by decide +kernel
theorem dX11_cover_49 : decode yX11_cover.2.1 49 = .ok (.ireturn, 1) := by decide +kernel
theorem dX11_both_0 : decode yX11_both.2.1 0 = .ok (.aload_n 0, 1) := by decide +kernel
theorem dX11_both_1 : decode yX11_both.2.1 1 = .ok (.iload_n 1, 1) := by decide +kernel
theorem dX11_both_2 : decode yX11_both.2.1 2 = .ok (.iload_n 2, 1) := by decide +kernel
theorem dX11_both_3 : decode yX11_both.2.1 3 = .ok (.invokevirtual 183, 3) := by decide +kernel
theorem dX11_both_6 : decode yX11_both.2.1 6 = .ok (.istore_n 3, 1) := by decide +kernel
theorem dX11_both_7 : decode yX11_both.2.1 7 = .ok (.iload_n 3, 1) := by decide +kernel
theorem dX11_both_8 : decode yX11_both.2.1 8 = .ok (.ifCond .eq 5, 3) := by decide +kernel
theorem dX11_both_11 : decode yX11_both.2.1 11 = .ok (.iload_n 3, 1) := by decide +kernel
theorem dX11_both_12 : decode yX11_both.2.1 12 = .ok (.ireturn, 1) := by decide +kernel
theorem dX11_both_13 : decode yX11_both.2.1 13 = .ok (.aload_n 0, 1) := by decide +kernel
theorem dX11_both_14 : decode yX11_both.2.1 14 = .ok (.aload_n 0, 1) := by decide +kernel
theorem dX11_both_15 : decode yX11_both.2.1 15 = .ok (.getfield 109, 3) := by decide +kernel
theorem dX11_both_18 : decode yX11_both.2.1 18 = .ok (.aload_n 0, 1) := by decide +kernel
theorem dX11_both_19 : decode yX11_both.2.1 19 = .ok (.getfield 20, 3) := by decide +kernel
theorem dX11_both_22 : decode yX11_both.2.1 22 = .ok (.iload_n 1, 1) := by decide +kernel
theorem dX11_both_23 : decode yX11_both.2.1 23 = .ok (.aaload, 1) := by decide +kernel
theorem dX11_both_24 : decode yX11_both.2.1 24 = .ok (.getfield 161, 3) := by decide +kernel
theorem dX11_both_27 : decode yX11_both.2.1 27 = .ok (.aload_n 0, 1) := by decide +kernel
theorem dX11_both_28 : decode yX11_both.2.1 28 = .ok (.getfield 20, 3) := by decide +kernel
theorem dX11_both_31 : decode yX11_both.2.1 31 = .ok (.iload_n 2, 1) := by decide +kernel
theorem dX11_both_32 : decode yX11_both.2.1 32 = .ok (.aaload, 1) := by decide +kernel
theorem dX11_both_33 : decode yX11_both.2.1 33 = .ok (.getfield 161, 3) := by decide +kernel
theorem dX11_both_36 : decode yX11_both.2.1 36 = .ok (.invokevirtual 310, 3) := by decide +kernel
theorem dX11_both_39 : decode yX11_both.2.1 39 = .ok (.putfield 31, 3) := by decide +kernel
theorem dX11_both_42 : decode yX11_both.2.1 42 = .ok (.iconst 1, 1) := by decide +kernel
theorem dX11_both_43 : decode yX11_both.2.1 43 = .ok (.ireturn, 1) := by decide +kernel
theorem dX11_twins_0 : decode yX11_twins.2.1 0 = .ok (.iload_n 2, 1) := by decide +kernel
theorem dX11_twins_1 : decode yX11_twins.2.1 1 = .ok (.iconst 1, 1) := by decide +kernel
theorem dX11_twins_2 : decode yX11_twins.2.1 2 = .ok (.if_icmp .lt 15, 3) := by decide +kernel
theorem dX11_twins_5 : decode yX11_twins.2.1 5 = .ok (.iload_n 2, 1) := by decide +kernel
theorem dX11_twins_6 : decode yX11_twins.2.1 6 = .ok (.iconst 3, 1) := by decide +kernel
theorem dX11_twins_7 : decode yX11_twins.2.1 7 = .ok (.if_icmp .gt 10, 3) := by decide +kernel
theorem dX11_twins_10 : decode yX11_twins.2.1 10 = .ok (.iload_n 3, 1) := by decide +kernel
theorem dX11_twins_11 : decode yX11_twins.2.1 11 = .ok (.invokestatic 113, 3) := by decide +kernel
theorem dX11_twins_14 : decode yX11_twins.2.1 14 = .ok (.ifCond .eq 5, 3) := by decide +kernel
theorem dX11_twins_17 : decode yX11_twins.2.1 17 = .ok (.iconst (-1), 1) := by decide +kernel
theorem dX11_twins_18 : decode yX11_twins.2.1 18 = .ok (.ireturn, 1) := by decide +kernel
theorem dX11_twins_19 : decode yX11_twins.2.1 19 = .ok (.aload_n 0, 1) := by decide +kernel
theorem dX11_twins_20 : decode yX11_twins.2.1 20 = .ok (.iload_n 1, 1) := by decide +kernel
theorem dX11_twins_21 : decode yX11_twins.2.1 21 = .ok (.invokevirtual 186, 3) := by decide +kernel
theorem dX11_twins_24 : decode yX11_twins.2.1 24 = .ok (.istore 4, 2) := by decide +kernel
theorem dX11_twins_26 : decode yX11_twins.2.1 26 = .ok (.iload 4, 2) := by decide +kernel
theorem dX11_twins_28 : decode yX11_twins.2.1 28 = .ok (.ifCond .eq 6, 3) := by decide +kernel
theorem dX11_twins_31 : decode yX11_twins.2.1 31 = .ok (.iload 4, 2) := by decide +kernel
theorem dX11_twins_33 : decode yX11_twins.2.1 33 = .ok (.ireturn, 1) := by decide +kernel
theorem dX11_twins_34 : decode yX11_twins.2.1 34 = .ok (.aload_n 0, 1) := by decide +kernel
theorem dX11_twins_35 : decode yX11_twins.2.1 35 = .ok (.getfield 20, 3) := by decide +kernel
theorem dX11_twins_38 : decode yX11_twins.2.1 38 = .ok (.iload_n 1, 1) := by decide +kernel
theorem dX11_twins_39 : decode yX11_twins.2.1 39 = .ok (.aaload, 1) := by decide +kernel
theorem dX11_twins_40 : decode yX11_twins.2.1 40 = .ok (.getfield 161, 3) := by decide +kernel
theorem dX11_twins_43 : decode yX11_twins.2.1 43 = .ok (.astore 5, 2) := by decide +kernel
theorem dX11_twins_45 : decode yX11_twins.2.1 45 = .ok (.aload_n 0, 1) := by decide +kernel
theorem dX11_twins_46 : decode yX11_twins.2.1 46 = .ok (.getfield 24, 3) := by decide +kernel
theorem dX11_twins_49 : decode yX11_twins.2.1 49 = .ok (.aload 5, 2) := by decide +kernel
theorem dX11_twins_51 : decode yX11_twins.2.1 51 = .ok (.getfield 135, 3) := by decide +kernel
theorem dX11_twins_54 : decode yX11_twins.2.1 54 = .ok (.sipush 10000, 3) := by decide +kernel
theorem dX11_twins_57 : decode yX11_twins.2.1 57 = .ok (.invokestatic 313, 3) := by decide +kernel
theorem dX11_twins_60 : decode yX11_twins.2.1 60 = .ok (.ifCond .eq 6, 3) := by decide +kernel
theorem dX11_twins_63 : decode yX11_twins.2.1 63 = .ok (.bipush (-6), 2) := by decide +kernel
theorem dX11_twins_65 : decode yX11_twins.2.1 65 = .ok (.ireturn, 1) := by decide +kernel
theorem dX11_twins_66 : decode yX11_twins.2.1 66 = .ok (.aload_n 0, 1) := by decide +kernel
theorem dX11_twins_67 : decode yX11_twins.2.1 67 = .ok (.getfield 89, 3) := by decide +kernel
theorem dX11_twins_70 : decode yX11_twins.2.1 70 = .ok (.aload 5, 2) := by decide +kernel
theorem dX11_twins_72 : decode yX11_twins.2.1 72 = .ok (.aload_n 0, 1) := by decide +kernel
theorem dX11_twins_73 : decode yX11_twins.2.1 73 = .ok (.getfield 24, 3) := by decide +kernel
theorem dX11_twins_76 : decode yX11_twins.2.1 76 = .ok (.iload_n 2, 1) := by decide +kernel
theorem dX11_twins_77 : decode yX11_twins.2.1 77 = .ok (.invokevirtual 317, 3) := by decide +kernel
theorem dX11_twins_80 : decode yX11_twins.2.1 80 = .ok (.istore 6, 2) := by decide +kernel
theorem dX11_twins_82 : decode yX11_twins.2.1 82 = .ok (.aload_n 0, 1) := by decide +kernel
theorem dX11_twins_83 : decode yX11_twins.2.1 83 = .ok (.getfield 11, 3) := by decide +kernel
theorem dX11_twins_86 : decode yX11_twins.2.1 86 = .ok (.iload_n 3, 1) := by decide +kernel
theorem dX11_twins_87 : decode yX11_twins.2.1 87 = .ok (.aaload, 1) := by decide +kernel
theorem dX11_twins_88 : decode yX11_twins.2.1 88 = .ok (.aload_n 0, 1) := by decide +kernel
theorem dX11_twins_89 : decode yX11_twins.2.1 89 = .ok (.getfield 89, 3) := by decide +kernel
theorem dX11_twins_92 : decode yX11_twins.2.1 92 = .ok (.getfield 321, 3) := by decide +kernel
theorem dX11_twins_95 : decode yX11_twins.2.1 95 = .ok (.aload 5, 2) := by decide +kernel
theorem dX11_twins_97 : decode yX11_twins.2.1 97 = .ok (.getfield 135, 3) := by decide +kernel
theorem dX11_twins_100 : decode yX11_twins.2.1 100 = .ok (.invokevirtual 219, 3) := by decide +kernel
theorem dX11_twins_103 : decode yX11_twins.2.1 103 = .ok (.pop, 1) := by decide +kernel
theorem dX11_twins_104 : decode yX11_twins.2.1 104 = .ok (.iload 6, 2) := by decide +kernel
theorem dX11_twins_106 : decode yX11_twins.2.1 106 = .ok (.ireturn, 1) := by decide +kernel
theorem dX11_odds_0 : decode yX11_odds.2.1 0 = .ok (.aload_n 0, 1) := by decide +kernel
theorem dX11_odds_1 : decode yX11_odds.2.1 1 = .ok (.iload_n 1, 1) := by decide +kernel
theorem dX11_odds_2 : decode yX11_odds.2.1 2 = .ok (.iload_n 2, 1) := by decide +kernel
theorem dX11_odds_3 : decode yX11_odds.2.1 3 = .ok (.invokevirtual 183, 3) := by decide +kernel
theorem dX11_odds_6 : decode yX11_odds.2.1 6 = .ok (.istore_n 3, 1) := by decide +kernel
theorem dX11_odds_7 : decode yX11_odds.2.1 7 = .ok (.iload_n 3, 1) := by decide +kernel
theorem dX11_odds_8 : decode yX11_odds.2.1 8 = .ok (.ifCond .eq 5, 3) := by decide +kernel
theorem dX11_odds_11 : decode yX11_odds.2.1 11 = .ok (.iload_n 3, 1) := by decide +kernel
theorem dX11_odds_12 : decode yX11_odds.2.1 12 = .ok (.ireturn, 1) := by decide +kernel
theorem dX11_odds_13 : decode yX11_odds.2.1 13 = .ok (.aload_n 0, 1) := by decide +kernel
theorem dX11_odds_14 : decode yX11_odds.2.1 14 = .ok (.getfield 20, 3) := by decide +kernel
theorem dX11_odds_17 : decode yX11_odds.2.1 17 = .ok (.iload_n 1, 1) := by decide +kernel
theorem dX11_odds_18 : decode yX11_odds.2.1 18 = .ok (.aaload, 1) := by decide +kernel
theorem dX11_odds_19 : decode yX11_odds.2.1 19 = .ok (.getfield 161, 3) := by decide +kernel
theorem dX11_odds_22 : decode yX11_odds.2.1 22 = .ok (.astore 4, 2) := by decide +kernel
theorem dX11_odds_24 : decode yX11_odds.2.1 24 = .ok (.aload_n 0, 1) := by decide +kernel
theorem dX11_odds_25 : decode yX11_odds.2.1 25 = .ok (.getfield 20, 3) := by decide +kernel
theorem dX11_odds_28 : decode yX11_odds.2.1 28 = .ok (.iload_n 2, 1) := by decide +kernel
theorem dX11_odds_29 : decode yX11_odds.2.1 29 = .ok (.aaload, 1) := by decide +kernel
theorem dX11_odds_30 : decode yX11_odds.2.1 30 = .ok (.getfield 161, 3) := by decide +kernel
theorem dX11_odds_33 : decode yX11_odds.2.1 33 = .ok (.astore 5, 2) := by decide +kernel
theorem dX11_odds_35 : decode yX11_odds.2.1 35 = .ok (.aload 5, 2) := by decide +kernel
theorem dX11_odds_37 : decode yX11_odds.2.1 37 = .ok (.getfield 135, 3) := by decide +kernel
theorem dX11_odds_40 : decode yX11_odds.2.1 40 = .ok (.aload 4, 2) := by decide +kernel
theorem dX11_odds_42 : decode yX11_odds.2.1 42 = .ok (.getfield 135, 3) := by decide +kernel
theorem dX11_odds_45 : decode yX11_odds.2.1 45 = .ok (.if_icmp .le 9, 3) := by decide +kernel
theorem dX11_odds_48 : decode yX11_odds.2.1 48 = .ok (.aload_n 0, 1) := by decide +kernel
theorem dX11_odds_49 : decode yX11_odds.2.1 49 = .ok (.iconst 4, 1) := by decide +kernel
theorem dX11_odds_50 : decode yX11_odds.2.1 50 = .ok (.invokevirtual 117, 3) := by decide +kernel
theorem dX11_odds_53 : decode yX11_odds.2.1 53 = .ok (.ireturn, 1) := by decide +kernel
theorem dX11_odds_54 : decode yX11_odds.2.1 54 = .ok (.aload_n 0, 1) := by decide +kernel
theorem dX11_odds_55 : decode yX11_odds.2.1 55 = .ok (.aload_n 0, 1) := by decide +kernel
theorem dX11_odds_56 : decode yX11_odds.2.1 56 = .ok (.getfield 61, 3) := by decide +kernel
theorem dX11_odds_59 : decode yX11_odds.2.1 59 = .ok (.aload 4, 2) := by decide +kernel
theorem dX11_odds_61 : decode yX11_odds.2.1 61 = .ok (.aload 5, 2) := by decide +kernel
theorem dX11_odds_63 : decode yX11_odds.2.1 63 = .ok (.invokevirtual 205, 3) := by decide +kernel
theorem dX11_odds_66 : decode yX11_odds.2.1 66 = .ok (.aload 4, 2) := by decide +kernel
theorem dX11_odds_68 : decode yX11_odds.2.1 68 = .ok (.getfield 135, 3) := by decide +kernel
theorem dX11_odds_71 : decode yX11_odds.2.1 71 = .ok (.aload 5, 2) := by decide +kernel
theorem dX11_odds_73 : decode yX11_odds.2.1 73 = .ok (.getfield 135, 3) := by decide +kernel
theorem dX11_odds_76 : decode yX11_odds.2.1 76 = .ok (.invokestatic 324, 3) := by decide +kernel
theorem dX11_odds_79 : decode yX11_odds.2.1 79 = .ok (.invokevirtual 328, 3) := by decide +kernel
theorem dX11_odds_82 : decode yX11_odds.2.1 82 = .ok (.iconst 1, 1) := by decide +kernel
theorem dX11_odds_83 : decode yX11_odds.2.1 83 = .ok (.ireturn, 1) := by decide +kernel
theorem dX11_byChance_0 : decode yX11_byChance.2.1 0 = .ok (.iload_n 2, 1) := by decide +kernel
theorem dX11_byChance_1 : decode yX11_byChance.2.1 1 = .ok (.ifCond .lt 9, 3) := by decide +kernel
theorem dX11_byChance_4 : decode yX11_byChance.2.1 4 = .ok (.iload_n 2, 1) := by decide +kernel
theorem dX11_byChance_5 : decode yX11_byChance.2.1 5 = .ok (.bipush 20, 2) := by decide +kernel
theorem dX11_byChance_7 : decode yX11_byChance.2.1 7 = .ok (.if_icmp .le 5, 3) := by decide +kernel
theorem dX11_byChance_10 : decode yX11_byChance.2.1 10 = .ok (.iconst (-1), 1) := by decide +kernel
theorem dX11_byChance_11 : decode yX11_byChance.2.1 11 = .ok (.ireturn, 1) := by decide +kernel
theorem dX11_byChance_12 : decode yX11_byChance.2.1 12 = .ok (.aload_n 0, 1) := by decide +kernel
theorem dX11_byChance_13 : decode yX11_byChance.2.1 13 = .ok (.iload_n 1, 1) := by decide +kernel
theorem dX11_byChance_14 : decode yX11_byChance.2.1 14 = .ok (.invokevirtual 186, 3) := by decide +kernel
theorem dX11_byChance_17 : decode yX11_byChance.2.1 17 = .ok (.istore_n 3, 1) := by decide +kernel
theorem dX11_byChance_18 : decode yX11_byChance.2.1 18 = .ok (.iload_n 3, 1) := by decide +kernel
theorem dX11_byChance_19 : decode yX11_byChance.2.1 19 = .ok (.ifCond .eq 5, 3) := by decide +kernel
theorem dX11_byChance_22 : decode yX11_byChance.2.1 22 = .ok (.iload_n 3, 1) := by decide +kernel
theorem dX11_byChance_23 : decode yX11_byChance.2.1 23 = .ok (.ireturn, 1) := by decide +kernel
theorem dX11_byChance_24 : decode yX11_byChance.2.1 24 = .ok (.lconst 0, 1) := by decide +kernel
theorem dX11_byChance_25 : decode yX11_byChance.2.1 25 = .ok (.lstore 4, 2) := by decide +kernel
theorem dX11_byChance_27 : decode yX11_byChance.2.1 27 = .ok (.aload_n 0, 1) := by decide +kernel
theorem dX11_byChance_28 : decode yX11_byChance.2.1 28 = .ok (.getfield 20, 3) := by decide +kernel
theorem dX11_byChance_31 : decode yX11_byChance.2.1 31 = .ok (.iload_n 1, 1) := by decide +kernel
theorem dX11_byChance_32 : decode yX11_byChance.2.1 32 = .ok (.aaload, 1) := by decide +kernel
theorem dX11_byChance_33 : decode yX11_byChance.2.1 33 = .ok (.getfield 161, 3) := by decide +kernel
theorem dX11_byChance_36 : decode yX11_byChance.2.1 36 = .ok (.getfield 135, 3) := by decide +kernel
theorem dX11_byChance_39 : decode yX11_byChance.2.1 39 = .ok (.istore 6, 2) := by decide +kernel
theorem dX11_byChance_41 : decode yX11_byChance.2.1 41 = .ok (.iload 6, 2) := by decide +kernel
theorem dX11_byChance_43 : decode yX11_byChance.2.1 43 = .ok (.iload_n 2, 1) := by decide +kernel
theorem dX11_byChance_44 : decode yX11_byChance.2.1 44 = .ok (.if_icmp .gt 34, 3) := by decide +kernel
theorem dX11_byChance_47 : decode yX11_byChance.2.1 47 = .ok (.lload 4, 2) := by decide +kernel
theorem dX11_byChance_49 : decode yX11_byChance.2.1 49 = .ok (.iload_n 2, 1) := by decide +kernel
theorem dX11_byChance_50 : decode yX11_byChance.2.1 50 = .ok (.iload 6, 2) := by decide +kernel
theorem dX11_byChance_52 : decode yX11_byChance.2.1 52 = .ok (.invokestatic 324, 3) := by decide +kernel
theorem dX11_byChance_55 : decode yX11_byChance.2.1 55 = .ok (.aload_n 0, 1) := by decide +kernel
theorem dX11_byChance_56 : decode yX11_byChance.2.1 56 = .ok (.getfield 24, 3) := by decide +kernel
theorem dX11_byChance_59 : decode yX11_byChance.2.1 59 = .ok (.iconst 1, 1) := by decide +kernel
theorem dX11_byChance_60 : decode yX11_byChance.2.1 60 = .ok (.isub, 1) := by decide +kernel
theorem dX11_byChance_61 : decode yX11_byChance.2.1 61 = .ok (.iload_n 2, 1) := by decide +kernel
theorem dX11_byChance_62 : decode yX11_byChance.2.1 62 = .ok (.iload 6, 2) := by decide +kernel
theorem dX11_byChance_64 : decode yX11_byChance.2.1 64 = .ok (.isub, 1) := by decide +kernel
theorem dX11_byChance_65 : decode yX11_byChance.2.1 65 = .ok (.invokestatic 332, 3) := by decide +kernel
theorem dX11_byChance_68 : decode yX11_byChance.2.1 68 = .ok (.lmul, 1) := by decide +kernel
theorem dX11_byChance_69 : decode yX11_byChance.2.1 69 = .ok (.ladd, 1) := by decide +kernel
theorem dX11_byChance_70 : decode yX11_byChance.2.1 70 = .ok (.lstore 4, 2) := by decide +kernel
theorem dX11_byChance_72 : decode yX11_byChance.2.1 72 = .ok (.iinc 6 1, 3) := by decide +kernel
theorem dX11_byChance_75 : decode yX11_byChance.2.1 75 = .ok (.goto (-34), 3) := by decide +kernel
theorem dX11_byChance_78 : decode yX11_byChance.2.1 78 = .ok (.aload_n 0, 1) := by decide +kernel
theorem dX11_byChance_79 : decode yX11_byChance.2.1 79 = .ok (.lload 4, 2) := by decide +kernel
theorem dX11_byChance_81 : decode yX11_byChance.2.1 81 = .ok (.aload_n 0, 1) := by decide +kernel
theorem dX11_byChance_82 : decode yX11_byChance.2.1 82 = .ok (.getfield 24, 3) := by decide +kernel
theorem dX11_byChance_85 : decode yX11_byChance.2.1 85 = .ok (.iload_n 2, 1) := by decide +kernel
theorem dX11_byChance_86 : decode yX11_byChance.2.1 86 = .ok (.invokestatic 332, 3) := by decide +kernel
theorem dX11_byChance_89 : decode yX11_byChance.2.1 89 = .ok (.invokevirtual 328, 3) := by decide +kernel
theorem dX11_byChance_92 : decode yX11_byChance.2.1 92 = .ok (.iconst 1, 1) := by decide +kernel
theorem dX11_byChance_93 : decode yX11_byChance.2.1 93 = .ok (.ireturn, 1) := by decide +kernel
theorem dX11_asked_0 : decode yX11_asked.2.1 0 = .ok (.aload_n 0, 1) := by decide +kernel
theorem dX11_asked_1 : decode yX11_asked.2.1 1 = .ok (.getfield 28, 3) := by decide +kernel
theorem dX11_asked_4 : decode yX11_asked.2.1 4 = .ok (.ireturn, 1) := by decide +kernel
theorem dX11_many_0 : decode yX11_many.2.1 0 = .ok (.aload_n 0, 1) := by decide +kernel
theorem dX11_many_1 : decode yX11_many.2.1 1 = .ok (.getfield 31, 3) := by decide +kernel
theorem dX11_many_4 : decode yX11_many.2.1 4 = .ok (.lreturn, 1) := by decide +kernel
theorem dX11_upper_0 : decode yX11_upper.2.1 0 = .ok (.aload_n 0, 1) := by decide +kernel
theorem dX11_upper_1 : decode yX11_upper.2.1 1 = .ok (.getfield 35, 3) := by decide +kernel
theorem dX11_upper_4 : decode yX11_upper.2.1 4 = .ok (.lreturn, 1) := by decide +kernel
theorem dX11_lower_0 : decode yX11_lower.2.1 0 = .ok (.aload_n 0, 1) := by decide +kernel
theorem dX11_lower_1 : decode yX11_lower.2.1 1 = .ok (.getfield 38, 3) := by decide +kernel
theorem dX11_lower_4 : decode yX11_lower.2.1 4 = .ok (.lreturn, 1) := by decide +kernel
theorem dX11_count_0 : decode yX11_count.2.1 0 = .ok (.iload_n 1, 1) := by decide +kernel
theorem dX11_count_1 : decode yX11_count.2.1 1 = .ok (.tableswitch 77 0 5 #[39, 44, 52, 60, 66, 72], 39) := by decide +kernel
theorem dX11_count_40 : decode yX11_count.2.1 40 = .ok (.aload_n 0, 1) := by decide +kernel
theorem dX11_count_41 : decode yX11_count.2.1 41 = .ok (.getfield 24, 3) := by decide +kernel
theorem dX11_count_44 : decode yX11_count.2.1 44 = .ok (.ireturn, 1) := by decide +kernel
theorem dX11_count_45 : decode yX11_count.2.1 45 = .ok (.aload_n 0, 1) := by decide +kernel
theorem dX11_count_46 : decode yX11_count.2.1 46 = .ok (.getfield 11, 3) := by decide +kernel
theorem dX11_count_49 : decode yX11_count.2.1 49 = .ok (.invokestatic 335, 3) := by decide +kernel
theorem dX11_count_52 : decode yX11_count.2.1 52 = .ok (.ireturn, 1) := by decide +kernel
theorem dX11_count_53 : decode yX11_count.2.1 53 = .ok (.aload_n 0, 1) := by decide +kernel
theorem dX11_count_54 : decode yX11_count.2.1 54 = .ok (.getfield 15, 3) := by decide +kernel
theorem dX11_count_57 : decode yX11_count.2.1 57 = .ok (.invokestatic 335, 3) := by decide +kernel
theorem dX11_count_60 : decode yX11_count.2.1 60 = .ok (.ireturn, 1) := by decide +kernel
theorem dX11_count_61 : decode yX11_count.2.1 61 = .ok (.aload_n 0, 1) := by decide +kernel
theorem dX11_count_62 : decode yX11_count.2.1 62 = .ok (.iconst 0, 1) := by decide +kernel
theorem dX11_count_63 : decode yX11_count.2.1 63 = .ok (.invokevirtual 339, 3) := by decide +kernel
theorem dX11_count_66 : decode yX11_count.2.1 66 = .ok (.ireturn, 1) := by decide +kernel
theorem dX11_count_67 : decode yX11_count.2.1 67 = .ok (.aload_n 0, 1) := by decide +kernel
theorem dX11_count_68 : decode yX11_count.2.1 68 = .ok (.iconst 2, 1) := by decide +kernel
theorem dX11_count_69 : decode yX11_count.2.1 69 = .ok (.invokevirtual 339, 3) := by decide +kernel
theorem dX11_count_72 : decode yX11_count.2.1 72 = .ok (.ireturn, 1) := by decide +kernel
theorem dX11_count_73 : decode yX11_count.2.1 73 = .ok (.aload_n 0, 1) := by decide +kernel
theorem dX11_count_74 : decode yX11_count.2.1 74 = .ok (.invokevirtual 342, 3) := by decide +kernel
theorem dX11_count_77 : decode yX11_count.2.1 77 = .ok (.ireturn, 1) := by decide +kernel
theorem dX11_count_78 : decode yX11_count.2.1 78 = .ok (.iconst (-1), 1) := by decide +kernel
theorem dX11_count_79 : decode yX11_count.2.1 79 = .ok (.ireturn, 1) := by decide +kernel
theorem dX11_finding_0 : decode yX11_finding.2.1 0 = .ok (.aload_n 0, 1) := by decide +kernel
theorem dX11_finding_1 : decode yX11_finding.2.1 1 = .ok (.getfield 41, 3) := by decide +kernel
theorem dX11_finding_4 : decode yX11_finding.2.1 4 = .ok (.ireturn, 1) := by decide +kernel
theorem dX11_findings_0 : decode yX11_findings.2.1 0 = .ok (.iload_n 1, 1) := by decide +kernel
theorem dX11_findings_1 : decode yX11_findings.2.1 1 = .ok (.iconst 1, 1) := by decide +kernel
theorem dX11_findings_2 : decode yX11_findings.2.1 2 = .ok (.if_icmp .lt 8, 3) := by decide +kernel
theorem dX11_findings_5 : decode yX11_findings.2.1 5 = .ok (.iload_n 1, 1) := by decide +kernel
theorem dX11_findings_6 : decode yX11_findings.2.1 6 = .ok (.iconst 5, 1) := by decide +kernel
theorem dX11_findings_7 : decode yX11_findings.2.1 7 = .ok (.if_icmp .le 7, 3) := by decide +kernel
theorem dX11_findings_10 : decode yX11_findings.2.1 10 = .ok (.iconst (-1), 1) := by decide +kernel
theorem dX11_findings_11 : decode yX11_findings.2.1 11 = .ok (.goto 9, 3) := by decide +kernel
theorem dX11_findings_14 : decode yX11_findings.2.1 14 = .ok (.aload_n 0, 1) := by decide +kernel
theorem dX11_findings_15 : decode yX11_findings.2.1 15 = .ok (.getfield 44, 3) := by decide +kernel
theorem dX11_findings_18 : decode yX11_findings.2.1 18 = .ok (.iload_n 1, 1) := by decide +kernel
theorem dX11_findings_19 : decode yX11_findings.2.1 19 = .ok (.iaload, 1) := by decide +kernel
theorem dX11_findings_20 : decode yX11_findings.2.1 20 = .ok (.ireturn, 1) := by decide +kernel
theorem dX11_digest_0 : decode yX11_digest.2.1 0 = .ok (.ldc2_w 346, 3) := by decide +kernel
theorem dX11_digest_3 : decode yX11_digest.2.1 3 = .ok (.lstore_n 1, 1) := by decide +kernel
theorem dX11_digest_4 : decode yX11_digest.2.1 4 = .ok (.iconst 0, 1) := by decide +kernel
theorem dX11_digest_5 : decode yX11_digest.2.1 5 = .ok (.istore_n 3, 1) := by decide +kernel
theorem dX11_digest_6 : decode yX11_digest.2.1 6 = .ok (.iload_n 3, 1) := by decide +kernel
theorem dX11_digest_7 : decode yX11_digest.2.1 7 = .ok (.iconst 5, 1) := by decide +kernel
theorem dX11_digest_8 : decode yX11_digest.2.1 8 = .ok (.if_icmp .gt 22, 3) := by decide +kernel
theorem dX11_digest_11 : decode yX11_digest.2.1 11 = .ok (.ldc2_w 348, 3) := by decide +kernel
theorem dX11_digest_14 : decode yX11_digest.2.1 14 = .ok (.lload_n 1, 1) := by decide +kernel
theorem dX11_digest_15 : decode yX11_digest.2.1 15 = .ok (.lmul, 1) := by decide +kernel
theorem dX11_digest_16 : decode yX11_digest.2.1 16 = .ok (.aload_n 0, 1) := by decide +kernel
theorem dX11_digest_17 : decode yX11_digest.2.1 17 = .ok (.iload_n 3, 1) := by decide +kernel
theorem dX11_digest_18 : decode yX11_digest.2.1 18 = .ok (.invokevirtual 350, 3) := by decide +kernel
theorem dX11_digest_21 : decode yX11_digest.2.1 21 = .ok (.i2l, 1) := by decide +kernel
theorem dX11_digest_22 : decode yX11_digest.2.1 22 = .ok (.ladd, 1) := by decide +kernel
theorem dX11_digest_23 : decode yX11_digest.2.1 23 = .ok (.lstore_n 1, 1) := by decide +kernel
theorem dX11_digest_24 : decode yX11_digest.2.1 24 = .ok (.iinc 3 1, 3) := by decide +kernel
theorem dX11_digest_27 : decode yX11_digest.2.1 27 = .ok (.goto (-21), 3) := by decide +kernel
theorem dX11_digest_30 : decode yX11_digest.2.1 30 = .ok (.iconst 0, 1) := by decide +kernel
theorem dX11_digest_31 : decode yX11_digest.2.1 31 = .ok (.istore_n 3, 1) := by decide +kernel
theorem dX11_digest_32 : decode yX11_digest.2.1 32 = .ok (.iload_n 3, 1) := by decide +kernel
theorem dX11_digest_33 : decode yX11_digest.2.1 33 = .ok (.bipush 8, 2) := by decide +kernel
theorem dX11_digest_35 : decode yX11_digest.2.1 35 = .ok (.if_icmp .ge 69, 3) := by decide +kernel
theorem dX11_digest_38 : decode yX11_digest.2.1 38 = .ok (.aload_n 0, 1) := by decide +kernel
theorem dX11_digest_39 : decode yX11_digest.2.1 39 = .ok (.getfield 20, 3) := by decide +kernel
theorem dX11_digest_42 : decode yX11_digest.2.1 42 = .ok (.iload_n 3, 1) := by decide +kernel
theorem dX11_digest_43 : decode yX11_digest.2.1 43 = .ok (.aaload, 1) := by decide +kernel
theorem dX11_digest_44 : decode yX11_digest.2.1 44 = .ok (.astore 4, 2) := by decide +kernel
theorem dX11_digest_46 : decode yX11_digest.2.1 46 = .ok (.aload 4, 2) := by decide +kernel
theorem dX11_digest_48 : decode yX11_digest.2.1 48 = .ok (.getfield 161, 3) := by decide +kernel
theorem dX11_digest_51 : decode yX11_digest.2.1 51 = .ok (.invokevirtual 138, 3) := by decide +kernel
theorem dX11_digest_54 : decode yX11_digest.2.1 54 = .ok (.ifCond .ne 34, 3) := by decide +kernel
theorem dX11_digest_57 : decode yX11_digest.2.1 57 = .ok (.ldc2_w 348, 3) := by decide +kernel
theorem dX11_digest_60 : decode yX11_digest.2.1 60 = .ok (.lload_n 1, 1) := by decide +kernel
theorem dX11_digest_61 : decode yX11_digest.2.1 61 = .ok (.lmul, 1) := by decide +kernel
theorem dX11_digest_62 : decode yX11_digest.2.1 62 = .ok (.aload 4, 2) := by decide +kernel
theorem dX11_digest_64 : decode yX11_digest.2.1 64 = .ok (.getfield 196, 3) := by decide +kernel
theorem dX11_digest_67 : decode yX11_digest.2.1 67 = .ok (.i2l, 1) := by decide +kernel
theorem dX11_digest_68 : decode yX11_digest.2.1 68 = .ok (.ladd, 1) := by decide +kernel
theorem dX11_digest_69 : decode yX11_digest.2.1 69 = .ok (.lstore_n 1, 1) := by decide +kernel
theorem dX11_digest_70 : decode yX11_digest.2.1 70 = .ok (.ldc2_w 348, 3) := by decide +kernel
theorem dX11_digest_73 : decode yX11_digest.2.1 73 = .ok (.lload_n 1, 1) := by decide +kernel
theorem dX11_digest_74 : decode yX11_digest.2.1 74 = .ok (.lmul, 1) := by decide +kernel
theorem dX11_digest_75 : decode yX11_digest.2.1 75 = .ok (.aload 4, 2) := by decide +kernel
theorem dX11_digest_77 : decode yX11_digest.2.1 77 = .ok (.aload 4, 2) := by decide +kernel
theorem dX11_digest_79 : decode yX11_digest.2.1 79 = .ok (.getfield 196, 3) := by decide +kernel
theorem dX11_digest_82 : decode yX11_digest.2.1 82 = .ok (.invokevirtual 202, 3) := by decide +kernel
theorem dX11_digest_85 : decode yX11_digest.2.1 85 = .ok (.i2l, 1) := by decide +kernel
theorem dX11_digest_86 : decode yX11_digest.2.1 86 = .ok (.ladd, 1) := by decide +kernel
theorem dX11_digest_87 : decode yX11_digest.2.1 87 = .ok (.lstore_n 1, 1) := by decide +kernel
theorem dX11_digest_88 : decode yX11_digest.2.1 88 = .ok (.aload 4, 2) := by decide +kernel
theorem dX11_digest_90 : decode yX11_digest.2.1 90 = .ok (.getfield 161, 3) := by decide +kernel
theorem dX11_digest_93 : decode yX11_digest.2.1 93 = .ok (.lload_n 1, 1) := by decide +kernel
theorem dX11_digest_94 : decode yX11_digest.2.1 94 = .ok (.invokevirtual 353, 3) := by decide +kernel
theorem dX11_digest_97 : decode yX11_digest.2.1 97 = .ok (.lstore_n 1, 1) := by decide +kernel
theorem dX11_digest_98 : decode yX11_digest.2.1 98 = .ok (.iinc 3 1, 3) := by decide +kernel
theorem dX11_digest_101 : decode yX11_digest.2.1 101 = .ok (.goto (-69), 3) := by decide +kernel
theorem dX11_digest_104 : decode yX11_digest.2.1 104 = .ok (.iconst 0, 1) := by decide +kernel
theorem dX11_digest_105 : decode yX11_digest.2.1 105 = .ok (.istore_n 3, 1) := by decide +kernel
theorem dX11_digest_106 : decode yX11_digest.2.1 106 = .ok (.iload_n 3, 1) := by decide +kernel
theorem dX11_digest_107 : decode yX11_digest.2.1 107 = .ok (.bipush 6, 2) := by decide +kernel
theorem dX11_digest_109 : decode yX11_digest.2.1 109 = .ok (.if_icmp .ge 20, 3) := by decide +kernel
theorem dX11_digest_112 : decode yX11_digest.2.1 112 = .ok (.aload_n 0, 1) := by decide +kernel
theorem dX11_digest_113 : decode yX11_digest.2.1 113 = .ok (.getfield 11, 3) := by decide +kernel
theorem dX11_digest_116 : decode yX11_digest.2.1 116 = .ok (.iload_n 3, 1) := by decide +kernel
theorem dX11_digest_117 : decode yX11_digest.2.1 117 = .ok (.aaload, 1) := by decide +kernel
theorem dX11_digest_118 : decode yX11_digest.2.1 118 = .ok (.lload_n 1, 1) := by decide +kernel
theorem dX11_digest_119 : decode yX11_digest.2.1 119 = .ok (.invokevirtual 353, 3) := by decide +kernel
theorem dX11_digest_122 : decode yX11_digest.2.1 122 = .ok (.lstore_n 1, 1) := by decide +kernel
theorem dX11_digest_123 : decode yX11_digest.2.1 123 = .ok (.iinc 3 1, 3) := by decide +kernel
theorem dX11_digest_126 : decode yX11_digest.2.1 126 = .ok (.goto (-20), 3) := by decide +kernel
theorem dX11_digest_129 : decode yX11_digest.2.1 129 = .ok (.iconst 0, 1) := by decide +kernel
theorem dX11_digest_130 : decode yX11_digest.2.1 130 = .ok (.istore_n 3, 1) := by decide +kernel
theorem dX11_digest_131 : decode yX11_digest.2.1 131 = .ok (.iload_n 3, 1) := by decide +kernel
theorem dX11_digest_132 : decode yX11_digest.2.1 132 = .ok (.iconst 4, 1) := by decide +kernel
theorem dX11_digest_133 : decode yX11_digest.2.1 133 = .ok (.if_icmp .ge 20, 3) := by decide +kernel
theorem dX11_digest_136 : decode yX11_digest.2.1 136 = .ok (.aload_n 0, 1) := by decide +kernel
theorem dX11_digest_137 : decode yX11_digest.2.1 137 = .ok (.getfield 15, 3) := by decide +kernel
theorem dX11_digest_140 : decode yX11_digest.2.1 140 = .ok (.iload_n 3, 1) := by decide +kernel
theorem dX11_digest_141 : decode yX11_digest.2.1 141 = .ok (.aaload, 1) := by decide +kernel
theorem dX11_digest_142 : decode yX11_digest.2.1 142 = .ok (.lload_n 1, 1) := by decide +kernel
theorem dX11_digest_143 : decode yX11_digest.2.1 143 = .ok (.invokevirtual 353, 3) := by decide +kernel
theorem dX11_digest_146 : decode yX11_digest.2.1 146 = .ok (.lstore_n 1, 1) := by decide +kernel
theorem dX11_digest_147 : decode yX11_digest.2.1 147 = .ok (.iinc 3 1, 3) := by decide +kernel
theorem dX11_digest_150 : decode yX11_digest.2.1 150 = .ok (.goto (-19), 3) := by decide +kernel
theorem dX11_digest_153 : decode yX11_digest.2.1 153 = .ok (.lload_n 1, 1) := by decide +kernel
theorem dX11_digest_154 : decode yX11_digest.2.1 154 = .ok (.lreturn, 1) := by decide +kernel
theorem dX11_noRow_0 : decode yX11_noRow.2.1 0 = .ok (.iload_n 0, 1) := by decide +kernel
theorem dX11_noRow_1 : decode yX11_noRow.2.1 1 = .ok (.ifCond .lt 9, 3) := by decide +kernel
theorem dX11_noRow_4 : decode yX11_noRow.2.1 4 = .ok (.iload_n 0, 1) := by decide +kernel
theorem dX11_noRow_5 : decode yX11_noRow.2.1 5 = .ok (.bipush 6, 2) := by decide +kernel
theorem dX11_noRow_7 : decode yX11_noRow.2.1 7 = .ok (.if_icmp .lt 7, 3) := by decide +kernel
theorem dX11_noRow_10 : decode yX11_noRow.2.1 10 = .ok (.iconst 1, 1) := by decide +kernel
theorem dX11_noRow_11 : decode yX11_noRow.2.1 11 = .ok (.goto 4, 3) := by decide +kernel
theorem dX11_noRow_14 : decode yX11_noRow.2.1 14 = .ok (.iconst 0, 1) := by decide +kernel
theorem dX11_noRow_15 : decode yX11_noRow.2.1 15 = .ok (.ireturn, 1) := by decide +kernel
theorem dX11_noText_0 : decode yX11_noText.2.1 0 = .ok (.iload_n 0, 1) := by decide +kernel
theorem dX11_noText_1 : decode yX11_noText.2.1 1 = .ok (.ifCond .lt 8, 3) := by decide +kernel
theorem dX11_noText_4 : decode yX11_noText.2.1 4 = .ok (.iload_n 0, 1) := by decide +kernel
theorem dX11_noText_5 : decode yX11_noText.2.1 5 = .ok (.iconst 4, 1) := by decide +kernel
theorem dX11_noText_6 : decode yX11_noText.2.1 6 = .ok (.if_icmp .lt 7, 3) := by decide +kernel
theorem dX11_noText_9 : decode yX11_noText.2.1 9 = .ok (.iconst 1, 1) := by decide +kernel
theorem dX11_noText_10 : decode yX11_noText.2.1 10 = .ok (.goto 4, 3) := by decide +kernel
theorem dX11_noText_13 : decode yX11_noText.2.1 13 = .ok (.iconst 0, 1) := by decide +kernel
theorem dX11_noText_14 : decode yX11_noText.2.1 14 = .ok (.ireturn, 1) := by decide +kernel
theorem dX11_noWord_0 : decode yX11_noWord.2.1 0 = .ok (.iload_n 0, 1) := by decide +kernel
theorem dX11_noWord_1 : decode yX11_noWord.2.1 1 = .ok (.ifCond .lt 9, 3) := by decide +kernel
theorem dX11_noWord_4 : decode yX11_noWord.2.1 4 = .ok (.iload_n 0, 1) := by decide +kernel
theorem dX11_noWord_5 : decode yX11_noWord.2.1 5 = .ok (.bipush 8, 2) := by decide +kernel
theorem dX11_noWord_7 : decode yX11_noWord.2.1 7 = .ok (.if_icmp .lt 7, 3) := by decide +kernel
theorem dX11_noWord_10 : decode yX11_noWord.2.1 10 = .ok (.iconst 1, 1) := by decide +kernel
theorem dX11_noWord_11 : decode yX11_noWord.2.1 11 = .ok (.goto 4, 3) := by decide +kernel
theorem dX11_noWord_14 : decode yX11_noWord.2.1 14 = .ok (.iconst 0, 1) := by decide +kernel
theorem dX11_noWord_15 : decode yX11_noWord.2.1 15 = .ok (.ireturn, 1) := by decide +kernel
theorem dX11_noLength_0 : decode yX11_noLength.2.1 0 = .ok (.iload_n 0, 1) := by decide +kernel
theorem dX11_noLength_1 : decode yX11_noLength.2.1 1 = .ok (.ifCond .lt 9, 3) := by decide +kernel
theorem dX11_noLength_4 : decode yX11_noLength.2.1 4 = .ok (.iload_n 0, 1) := by decide +kernel
theorem dX11_noLength_5 : decode yX11_noLength.2.1 5 = .ok (.bipush 40, 2) := by decide +kernel
theorem dX11_noLength_7 : decode yX11_noLength.2.1 7 = .ok (.if_icmp .le 7, 3) := by decide +kernel
theorem dX11_noLength_10 : decode yX11_noLength.2.1 10 = .ok (.iconst 1, 1) := by decide +kernel
theorem dX11_noLength_11 : decode yX11_noLength.2.1 11 = .ok (.goto 4, 3) := by decide +kernel
theorem dX11_noLength_14 : decode yX11_noLength.2.1 14 = .ok (.iconst 0, 1) := by decide +kernel
theorem dX11_noLength_15 : decode yX11_noLength.2.1 15 = .ok (.ireturn, 1) := by decide +kernel
theorem dX11_found_0 : decode yX11_found.2.1 0 = .ok (.aload_n 0, 1) := by decide +kernel
theorem dX11_found_1 : decode yX11_found.2.1 1 = .ok (.iload_n 1, 1) := by decide +kernel
theorem dX11_found_2 : decode yX11_found.2.1 2 = .ok (.putfield 41, 3) := by decide +kernel
theorem dX11_found_5 : decode yX11_found.2.1 5 = .ok (.aload_n 0, 1) := by decide +kernel
theorem dX11_found_6 : decode yX11_found.2.1 6 = .ok (.getfield 44, 3) := by decide +kernel
theorem dX11_found_9 : decode yX11_found.2.1 9 = .ok (.iload_n 1, 1) := by decide +kernel
theorem dX11_found_10 : decode yX11_found.2.1 10 = .ok (.dup2, 1) := by decide +kernel
theorem dX11_found_11 : decode yX11_found.2.1 11 = .ok (.iaload, 1) := by decide +kernel
theorem dX11_found_12 : decode yX11_found.2.1 12 = .ok (.iconst 1, 1) := by decide +kernel
theorem dX11_found_13 : decode yX11_found.2.1 13 = .ok (.iadd, 1) := by decide +kernel
theorem dX11_found_14 : decode yX11_found.2.1 14 = .ok (.iastore, 1) := by decide +kernel
theorem dX11_found_15 : decode yX11_found.2.1 15 = .ok (.bipush (-3), 2) := by decide +kernel
theorem dX11_found_17 : decode yX11_found.2.1 17 = .ok (.ireturn, 1) := by decide +kernel
theorem dX11_refuseRow_0 : decode yX11_refuseRow.2.1 0 = .ok (.iload_n 1, 1) := by decide +kernel
theorem dX11_refuseRow_1 : decode yX11_refuseRow.2.1 1 = .ok (.invokestatic 113, 3) := by decide +kernel
theorem dX11_refuseRow_4 : decode yX11_refuseRow.2.1 4 = .ok (.ifCond .eq 5, 3) := by decide +kernel
theorem dX11_refuseRow_7 : decode yX11_refuseRow.2.1 7 = .ok (.iconst (-1), 1) := by decide +kernel
theorem dX11_refuseRow_8 : decode yX11_refuseRow.2.1 8 = .ok (.ireturn, 1) := by decide +kernel
theorem dX11_refuseRow_9 : decode yX11_refuseRow.2.1 9 = .ok (.aload_n 0, 1) := by decide +kernel
theorem dX11_refuseRow_10 : decode yX11_refuseRow.2.1 10 = .ok (.getfield 11, 3) := by decide +kernel
theorem dX11_refuseRow_13 : decode yX11_refuseRow.2.1 13 = .ok (.iload_n 1, 1) := by decide +kernel
theorem dX11_refuseRow_14 : decode yX11_refuseRow.2.1 14 = .ok (.aaload, 1) := by decide +kernel
theorem dX11_refuseRow_15 : decode yX11_refuseRow.2.1 15 = .ok (.invokevirtual 138, 3) := by decide +kernel
theorem dX11_refuseRow_18 : decode yX11_refuseRow.2.1 18 = .ok (.ifCond .eq 11, 3) := by decide +kernel
theorem dX11_refuseRow_21 : decode yX11_refuseRow.2.1 21 = .ok (.aload_n 0, 1) := by decide +kernel
theorem dX11_refuseRow_22 : decode yX11_refuseRow.2.1 22 = .ok (.iconst 1, 1) := by decide +kernel
theorem dX11_refuseRow_23 : decode yX11_refuseRow.2.1 23 = .ok (.invokevirtual 117, 3) := by decide +kernel
theorem dX11_refuseRow_26 : decode yX11_refuseRow.2.1 26 = .ok (.goto 4, 3) := by decide +kernel
theorem dX11_refuseRow_29 : decode yX11_refuseRow.2.1 29 = .ok (.iconst 0, 1) := by decide +kernel
theorem dX11_refuseRow_30 : decode yX11_refuseRow.2.1 30 = .ok (.ireturn, 1) := by decide +kernel
theorem dX11_refusePlace_0 : decode yX11_refusePlace.2.1 0 = .ok (.aload_n 0, 1) := by decide +kernel
theorem dX11_refusePlace_1 : decode yX11_refusePlace.2.1 1 = .ok (.iload_n 1, 1) := by decide +kernel
theorem dX11_refusePlace_2 : decode yX11_refusePlace.2.1 2 = .ok (.invokevirtual 132, 3) := by decide +kernel
theorem dX11_refusePlace_5 : decode yX11_refusePlace.2.1 5 = .ok (.istore_n 3, 1) := by decide +kernel
theorem dX11_refusePlace_6 : decode yX11_refusePlace.2.1 6 = .ok (.iload_n 3, 1) := by decide +kernel
theorem dX11_refusePlace_7 : decode yX11_refusePlace.2.1 7 = .ok (.ifCond .eq 5, 3) := by decide +kernel
theorem dX11_refusePlace_10 : decode yX11_refusePlace.2.1 10 = .ok (.iload_n 3, 1) := by decide +kernel
theorem dX11_refusePlace_11 : decode yX11_refusePlace.2.1 11 = .ok (.ireturn, 1) := by decide +kernel
theorem dX11_refusePlace_12 : decode yX11_refusePlace.2.1 12 = .ok (.aload_n 0, 1) := by decide +kernel
theorem dX11_refusePlace_13 : decode yX11_refusePlace.2.1 13 = .ok (.getfield 11, 3) := by decide +kernel
theorem dX11_refusePlace_16 : decode yX11_refusePlace.2.1 16 = .ok (.iload_n 1, 1) := by decide +kernel
theorem dX11_refusePlace_17 : decode yX11_refusePlace.2.1 17 = .ok (.aaload, 1) := by decide +kernel
theorem dX11_refusePlace_18 : decode yX11_refusePlace.2.1 18 = .ok (.iload_n 2, 1) := by decide +kernel
theorem dX11_refusePlace_19 : decode yX11_refusePlace.2.1 19 = .ok (.invokevirtual 158, 3) := by decide +kernel
theorem dX11_refusePlace_22 : decode yX11_refusePlace.2.1 22 = .ok (.ifCond .eq 7, 3) := by decide +kernel
theorem dX11_refusePlace_25 : decode yX11_refusePlace.2.1 25 = .ok (.iconst 0, 1) := by decide +kernel
theorem dX11_refusePlace_26 : decode yX11_refusePlace.2.1 26 = .ok (.goto 8, 3) := by decide +kernel
theorem dX11_refusePlace_29 : decode yX11_refusePlace.2.1 29 = .ok (.aload_n 0, 1) := by decide +kernel
theorem dX11_refusePlace_30 : decode yX11_refusePlace.2.1 30 = .ok (.iconst 2, 1) := by decide +kernel
theorem dX11_refusePlace_31 : decode yX11_refusePlace.2.1 31 = .ok (.invokevirtual 117, 3) := by decide +kernel
theorem dX11_refusePlace_34 : decode yX11_refusePlace.2.1 34 = .ok (.ireturn, 1) := by decide +kernel
theorem dX11_refuseText_0 : decode yX11_refuseText.2.1 0 = .ok (.iload_n 1, 1) := by decide +kernel
theorem dX11_refuseText_1 : decode yX11_refuseText.2.1 1 = .ok (.invokestatic 152, 3) := by decide +kernel
theorem dX11_refuseText_4 : decode yX11_refuseText.2.1 4 = .ok (.ifCond .eq 5, 3) := by decide +kernel
theorem dX11_refuseText_7 : decode yX11_refuseText.2.1 7 = .ok (.iconst (-1), 1) := by decide +kernel
theorem dX11_refuseText_8 : decode yX11_refuseText.2.1 8 = .ok (.ireturn, 1) := by decide +kernel
theorem dX11_refuseText_9 : decode yX11_refuseText.2.1 9 = .ok (.aload_n 0, 1) := by decide +kernel
theorem dX11_refuseText_10 : decode yX11_refuseText.2.1 10 = .ok (.getfield 15, 3) := by decide +kernel
theorem dX11_refuseText_13 : decode yX11_refuseText.2.1 13 = .ok (.iload_n 1, 1) := by decide +kernel
theorem dX11_refuseText_14 : decode yX11_refuseText.2.1 14 = .ok (.aaload, 1) := by decide +kernel
theorem dX11_refuseText_15 : decode yX11_refuseText.2.1 15 = .ok (.invokevirtual 138, 3) := by decide +kernel
theorem dX11_refuseText_18 : decode yX11_refuseText.2.1 18 = .ok (.ifCond .eq 11, 3) := by decide +kernel
theorem dX11_refuseText_21 : decode yX11_refuseText.2.1 21 = .ok (.aload_n 0, 1) := by decide +kernel
theorem dX11_refuseText_22 : decode yX11_refuseText.2.1 22 = .ok (.iconst 1, 1) := by decide +kernel
theorem dX11_refuseText_23 : decode yX11_refuseText.2.1 23 = .ok (.invokevirtual 117, 3) := by decide +kernel
theorem dX11_refuseText_26 : decode yX11_refuseText.2.1 26 = .ok (.goto 4, 3) := by decide +kernel
theorem dX11_refuseText_29 : decode yX11_refuseText.2.1 29 = .ok (.iconst 0, 1) := by decide +kernel
theorem dX11_refuseText_30 : decode yX11_refuseText.2.1 30 = .ok (.ireturn, 1) := by decide +kernel
theorem dX11_refuseWord_0 : decode yX11_refuseWord.2.1 0 = .ok (.aload_n 0, 1) := by decide +kernel
theorem dX11_refuseWord_1 : decode yX11_refuseWord.2.1 1 = .ok (.iload_n 1, 1) := by decide +kernel
theorem dX11_refuseWord_2 : decode yX11_refuseWord.2.1 2 = .ok (.iload_n 1, 1) := by decide +kernel
theorem dX11_refuseWord_3 : decode yX11_refuseWord.2.1 3 = .ok (.invokevirtual 183, 3) := by decide +kernel
theorem dX11_refuseWord_6 : decode yX11_refuseWord.2.1 6 = .ok (.ireturn, 1) := by decide +kernel
theorem dX11_refuseWords_0 : decode yX11_refuseWords.2.1 0 = .ok (.iload_n 1, 1) := by decide +kernel
theorem dX11_refuseWords_1 : decode yX11_refuseWords.2.1 1 = .ok (.invokestatic 168, 3) := by decide +kernel
theorem dX11_refuseWords_4 : decode yX11_refuseWords.2.1 4 = .ok (.ifCond .ne 10, 3) := by decide +kernel
theorem dX11_refuseWords_7 : decode yX11_refuseWords.2.1 7 = .ok (.iload_n 2, 1) := by decide +kernel
theorem dX11_refuseWords_8 : decode yX11_refuseWords.2.1 8 = .ok (.invokestatic 168, 3) := by decide +kernel
theorem dX11_refuseWords_11 : decode yX11_refuseWords.2.1 11 = .ok (.ifCond .eq 5, 3) := by decide +kernel
theorem dX11_refuseWords_14 : decode yX11_refuseWords.2.1 14 = .ok (.iconst (-1), 1) := by decide +kernel
theorem dX11_refuseWords_15 : decode yX11_refuseWords.2.1 15 = .ok (.ireturn, 1) := by decide +kernel
theorem dX11_refuseWords_16 : decode yX11_refuseWords.2.1 16 = .ok (.aload_n 0, 1) := by decide +kernel
theorem dX11_refuseWords_17 : decode yX11_refuseWords.2.1 17 = .ok (.getfield 20, 3) := by decide +kernel
theorem dX11_refuseWords_20 : decode yX11_refuseWords.2.1 20 = .ok (.iload_n 1, 1) := by decide +kernel
theorem dX11_refuseWords_21 : decode yX11_refuseWords.2.1 21 = .ok (.aaload, 1) := by decide +kernel
theorem dX11_refuseWords_22 : decode yX11_refuseWords.2.1 22 = .ok (.getfield 161, 3) := by decide +kernel
theorem dX11_refuseWords_25 : decode yX11_refuseWords.2.1 25 = .ok (.invokevirtual 138, 3) := by decide +kernel
theorem dX11_refuseWords_28 : decode yX11_refuseWords.2.1 28 = .ok (.ifCond .ne 18, 3) := by decide +kernel
theorem dX11_refuseWords_31 : decode yX11_refuseWords.2.1 31 = .ok (.aload_n 0, 1) := by decide +kernel
theorem dX11_refuseWords_32 : decode yX11_refuseWords.2.1 32 = .ok (.getfield 20, 3) := by decide +kernel
theorem dX11_refuseWords_35 : decode yX11_refuseWords.2.1 35 = .ok (.iload_n 2, 1) := by decide +kernel
theorem dX11_refuseWords_36 : decode yX11_refuseWords.2.1 36 = .ok (.aaload, 1) := by decide +kernel
theorem dX11_refuseWords_37 : decode yX11_refuseWords.2.1 37 = .ok (.getfield 161, 3) := by decide +kernel
theorem dX11_refuseWords_40 : decode yX11_refuseWords.2.1 40 = .ok (.invokevirtual 138, 3) := by decide +kernel
theorem dX11_refuseWords_43 : decode yX11_refuseWords.2.1 43 = .ok (.ifCond .eq 11, 3) := by decide +kernel
theorem dX11_refuseWords_46 : decode yX11_refuseWords.2.1 46 = .ok (.aload_n 0, 1) := by decide +kernel
theorem dX11_refuseWords_47 : decode yX11_refuseWords.2.1 47 = .ok (.iconst 1, 1) := by decide +kernel
theorem dX11_refuseWords_48 : decode yX11_refuseWords.2.1 48 = .ok (.invokevirtual 117, 3) := by decide +kernel
theorem dX11_refuseWords_51 : decode yX11_refuseWords.2.1 51 = .ok (.goto 4, 3) := by decide +kernel
theorem dX11_refuseWords_54 : decode yX11_refuseWords.2.1 54 = .ok (.iconst 0, 1) := by decide +kernel
theorem dX11_refuseWords_55 : decode yX11_refuseWords.2.1 55 = .ok (.ireturn, 1) := by decide +kernel
theorem dX11_refuseSet_0 : decode yX11_refuseSet.2.1 0 = .ok (.iload_n 2, 1) := by decide +kernel
theorem dX11_refuseSet_1 : decode yX11_refuseSet.2.1 1 = .ok (.invokestatic 113, 3) := by decide +kernel
theorem dX11_refuseSet_4 : decode yX11_refuseSet.2.1 4 = .ok (.ifCond .ne 23, 3) := by decide +kernel
theorem dX11_refuseSet_7 : decode yX11_refuseSet.2.1 7 = .ok (.iload_n 1, 1) := by decide +kernel
theorem dX11_refuseSet_8 : decode yX11_refuseSet.2.1 8 = .ok (.iconst 1, 1) := by decide +kernel
theorem dX11_refuseSet_9 : decode yX11_refuseSet.2.1 9 = .ok (.if_icmp .lt 18, 3) := by decide +kernel
theorem dX11_refuseSet_12 : decode yX11_refuseSet.2.1 12 = .ok (.iload_n 1, 1) := by decide +kernel
theorem dX11_refuseSet_13 : decode yX11_refuseSet.2.1 13 = .ok (.sipush 256, 3) := by decide +kernel
theorem dX11_refuseSet_16 : decode yX11_refuseSet.2.1 16 = .ok (.if_icmp .ge 11, 3) := by decide +kernel
theorem dX11_refuseSet_19 : decode yX11_refuseSet.2.1 19 = .ok (.iload_n 1, 1) := by decide +kernel
theorem dX11_refuseSet_20 : decode yX11_refuseSet.2.1 20 = .ok (.invokestatic 357, 3) := by decide +kernel
theorem dX11_refuseSet_23 : decode yX11_refuseSet.2.1 23 = .ok (.iconst 4, 1) := by decide +kernel
theorem dX11_refuseSet_24 : decode yX11_refuseSet.2.1 24 = .ok (.if_icmp .le 5, 3) := by decide +kernel
theorem dX11_refuseSet_27 : decode yX11_refuseSet.2.1 27 = .ok (.iconst (-1), 1) := by decide +kernel
theorem dX11_refuseSet_28 : decode yX11_refuseSet.2.1 28 = .ok (.ireturn, 1) := by decide +kernel
theorem dX11_refuseSet_29 : decode yX11_refuseSet.2.1 29 = .ok (.aload_n 0, 1) := by decide +kernel
theorem dX11_refuseSet_30 : decode yX11_refuseSet.2.1 30 = .ok (.getfield 82, 3) := by decide +kernel
theorem dX11_refuseSet_33 : decode yX11_refuseSet.2.1 33 = .ok (.invokevirtual 361, 3) := by decide +kernel
theorem dX11_refuseSet_36 : decode yX11_refuseSet.2.1 36 = .ok (.iconst 0, 1) := by decide +kernel
theorem dX11_refuseSet_37 : decode yX11_refuseSet.2.1 37 = .ok (.istore_n 3, 1) := by decide +kernel
theorem dX11_refuseSet_38 : decode yX11_refuseSet.2.1 38 = .ok (.iload_n 3, 1) := by decide +kernel
theorem dX11_refuseSet_39 : decode yX11_refuseSet.2.1 39 = .ok (.bipush 8, 2) := by decide +kernel
theorem dX11_refuseSet_41 : decode yX11_refuseSet.2.1 41 = .ok (.if_icmp .ge 57, 3) := by decide +kernel
theorem dX11_refuseSet_44 : decode yX11_refuseSet.2.1 44 = .ok (.iload_n 1, 1) := by decide +kernel
theorem dX11_refuseSet_45 : decode yX11_refuseSet.2.1 45 = .ok (.iload_n 3, 1) := by decide +kernel
theorem dX11_refuseSet_46 : decode yX11_refuseSet.2.1 46 = .ok (.ishr, 1) := by decide +kernel
theorem dX11_refuseSet_47 : decode yX11_refuseSet.2.1 47 = .ok (.iconst 1, 1) := by decide +kernel
theorem dX11_refuseSet_48 : decode yX11_refuseSet.2.1 48 = .ok (.iand, 1) := by decide +kernel
theorem dX11_refuseSet_49 : decode yX11_refuseSet.2.1 49 = .ok (.ifCond .ne 6, 3) := by decide +kernel
theorem dX11_refuseSet_52 : decode yX11_refuseSet.2.1 52 = .ok (.goto 40, 3) := by decide +kernel
theorem dX11_refuseSet_55 : decode yX11_refuseSet.2.1 55 = .ok (.aload_n 0, 1) := by decide +kernel
theorem dX11_refuseSet_56 : decode yX11_refuseSet.2.1 56 = .ok (.getfield 20, 3) := by decide +kernel
theorem dX11_refuseSet_59 : decode yX11_refuseSet.2.1 59 = .ok (.iload_n 3, 1) := by decide +kernel
theorem dX11_refuseSet_60 : decode yX11_refuseSet.2.1 60 = .ok (.aaload, 1) := by decide +kernel
theorem dX11_refuseSet_61 : decode yX11_refuseSet.2.1 61 = .ok (.getfield 161, 3) := by decide +kernel
theorem dX11_refuseSet_64 : decode yX11_refuseSet.2.1 64 = .ok (.invokevirtual 138, 3) := by decide +kernel
theorem dX11_refuseSet_67 : decode yX11_refuseSet.2.1 67 = .ok (.ifCond .eq 9, 3) := by decide +kernel
theorem dX11_refuseSet_70 : decode yX11_refuseSet.2.1 70 = .ok (.aload_n 0, 1) := by decide +kernel
theorem dX11_refuseSet_71 : decode yX11_refuseSet.2.1 71 = .ok (.iconst 1, 1) := by decide +kernel
theorem dX11_refuseSet_72 : decode yX11_refuseSet.2.1 72 = .ok (.invokevirtual 117, 3) := by decide +kernel
theorem dX11_refuseSet_75 : decode yX11_refuseSet.2.1 75 = .ok (.ireturn, 1) := by decide +kernel
theorem dX11_refuseSet_76 : decode yX11_refuseSet.2.1 76 = .ok (.aload_n 0, 1) := by decide +kernel
theorem dX11_refuseSet_77 : decode yX11_refuseSet.2.1 77 = .ok (.getfield 82, 3) := by decide +kernel
theorem dX11_refuseSet_80 : decode yX11_refuseSet.2.1 80 = .ok (.aload_n 0, 1) := by decide +kernel
theorem dX11_refuseSet_81 : decode yX11_refuseSet.2.1 81 = .ok (.getfield 20, 3) := by decide +kernel
theorem dX11_refuseSet_84 : decode yX11_refuseSet.2.1 84 = .ok (.iload_n 3, 1) := by decide +kernel
theorem dX11_refuseSet_85 : decode yX11_refuseSet.2.1 85 = .ok (.aaload, 1) := by decide +kernel
theorem dX11_refuseSet_86 : decode yX11_refuseSet.2.1 86 = .ok (.getfield 161, 3) := by decide +kernel
theorem dX11_refuseSet_89 : decode yX11_refuseSet.2.1 89 = .ok (.invokevirtual 363, 3) := by decide +kernel
theorem dX11_refuseSet_92 : decode yX11_refuseSet.2.1 92 = .ok (.iinc 3 1, 3) := by decide +kernel
theorem dX11_refuseSet_95 : decode yX11_refuseSet.2.1 95 = .ok (.goto (-57), 3) := by decide +kernel
theorem dX11_refuseSet_98 : decode yX11_refuseSet.2.1 98 = .ok (.aload_n 0, 1) := by decide +kernel
theorem dX11_refuseSet_99 : decode yX11_refuseSet.2.1 99 = .ok (.getfield 82, 3) := by decide +kernel
theorem dX11_refuseSet_102 : decode yX11_refuseSet.2.1 102 = .ok (.invokevirtual 365, 3) := by decide +kernel
theorem dX11_refuseSet_105 : decode yX11_refuseSet.2.1 105 = .ok (.sipush 20000, 3) := by decide +kernel
theorem dX11_refuseSet_108 : decode yX11_refuseSet.2.1 108 = .ok (.if_icmp .le 8, 3) := by decide +kernel
theorem dX11_refuseSet_111 : decode yX11_refuseSet.2.1 111 = .ok (.bipush (-6), 2) := by decide +kernel
theorem dX11_refuseSet_113 : decode yX11_refuseSet.2.1 113 = .ok (.goto 4, 3) := by decide +kernel
theorem dX11_refuseSet_116 : decode yX11_refuseSet.2.1 116 = .ok (.iconst 0, 1) := by decide +kernel
theorem dX11_refuseSet_117 : decode yX11_refuseSet.2.1 117 = .ok (.ireturn, 1) := by decide +kernel
theorem dX11_countThere_0 : decode yX11_countThere.2.1 0 = .ok (.iconst 0, 1) := by decide +kernel
theorem dX11_countThere_1 : decode yX11_countThere.2.1 1 = .ok (.istore_n 1, 1) := by decide +kernel
theorem dX11_countThere_2 : decode yX11_countThere.2.1 2 = .ok (.iconst 0, 1) := by decide +kernel
theorem dX11_countThere_3 : decode yX11_countThere.2.1 3 = .ok (.istore_n 2, 1) := by decide +kernel
theorem dX11_countThere_4 : decode yX11_countThere.2.1 4 = .ok (.iload_n 2, 1) := by decide +kernel
theorem dX11_countThere_5 : decode yX11_countThere.2.1 5 = .ok (.aload_n 0, 1) := by decide +kernel
theorem dX11_countThere_6 : decode yX11_countThere.2.1 6 = .ok (.arraylength, 1) := by decide +kernel
theorem dX11_countThere_7 : decode yX11_countThere.2.1 7 = .ok (.if_icmp .ge 26, 3) := by decide +kernel
theorem dX11_countThere_10 : decode yX11_countThere.2.1 10 = .ok (.iload_n 1, 1) := by decide +kernel
theorem dX11_countThere_11 : decode yX11_countThere.2.1 11 = .ok (.aload_n 0, 1) := by decide +kernel
theorem dX11_countThere_12 : decode yX11_countThere.2.1 12 = .ok (.iload_n 2, 1) := by decide +kernel
theorem dX11_countThere_13 : decode yX11_countThere.2.1 13 = .ok (.aaload, 1) := by decide +kernel
theorem dX11_countThere_14 : decode yX11_countThere.2.1 14 = .ok (.invokevirtual 138, 3) := by decide +kernel
theorem dX11_countThere_17 : decode yX11_countThere.2.1 17 = .ok (.ifCond .eq 7, 3) := by decide +kernel
theorem dX11_countThere_20 : decode yX11_countThere.2.1 20 = .ok (.iconst 0, 1) := by decide +kernel
theorem dX11_countThere_21 : decode yX11_countThere.2.1 21 = .ok (.goto 4, 3) := by decide +kernel
theorem dX11_countThere_24 : decode yX11_countThere.2.1 24 = .ok (.iconst 1, 1) := by decide +kernel
theorem dX11_countThere_25 : decode yX11_countThere.2.1 25 = .ok (.iadd, 1) := by decide +kernel
theorem dX11_countThere_26 : decode yX11_countThere.2.1 26 = .ok (.istore_n 1, 1) := by decide +kernel
theorem dX11_countThere_27 : decode yX11_countThere.2.1 27 = .ok (.iinc 2 1, 3) := by decide +kernel
theorem dX11_countThere_30 : decode yX11_countThere.2.1 30 = .ok (.goto (-26), 3) := by decide +kernel
theorem dX11_countThere_33 : decode yX11_countThere.2.1 33 = .ok (.iload_n 1, 1) := by decide +kernel
theorem dX11_countThere_34 : decode yX11_countThere.2.1 34 = .ok (.ireturn, 1) := by decide +kernel
theorem dX11_countWords_0 : decode yX11_countWords.2.1 0 = .ok (.iconst 0, 1) := by decide +kernel
theorem dX11_countWords_1 : decode yX11_countWords.2.1 1 = .ok (.istore_n 2, 1) := by decide +kernel
theorem dX11_countWords_2 : decode yX11_countWords.2.1 2 = .ok (.iconst 0, 1) := by decide +kernel
theorem dX11_countWords_3 : decode yX11_countWords.2.1 3 = .ok (.istore_n 3, 1) := by decide +kernel
theorem dX11_countWords_4 : decode yX11_countWords.2.1 4 = .ok (.iload_n 3, 1) := by decide +kernel
theorem dX11_countWords_5 : decode yX11_countWords.2.1 5 = .ok (.bipush 8, 2) := by decide +kernel
theorem dX11_countWords_7 : decode yX11_countWords.2.1 7 = .ok (.if_icmp .ge 45, 3) := by decide +kernel
theorem dX11_countWords_10 : decode yX11_countWords.2.1 10 = .ok (.iload_n 2, 1) := by decide +kernel
theorem dX11_countWords_11 : decode yX11_countWords.2.1 11 = .ok (.aload_n 0, 1) := by decide +kernel
theorem dX11_countWords_12 : decode yX11_countWords.2.1 12 = .ok (.getfield 20, 3) := by decide +kernel
theorem dX11_countWords_15 : decode yX11_countWords.2.1 15 = .ok (.iload_n 3, 1) := by decide +kernel
theorem dX11_countWords_16 : decode yX11_countWords.2.1 16 = .ok (.aaload, 1) := by decide +kernel
theorem dX11_countWords_17 : decode yX11_countWords.2.1 17 = .ok (.getfield 161, 3) := by decide +kernel
theorem dX11_countWords_20 : decode yX11_countWords.2.1 20 = .ok (.invokevirtual 138, 3) := by decide +kernel
theorem dX11_countWords_23 : decode yX11_countWords.2.1 23 = .ok (.ifCond .ne 20, 3) := by decide +kernel
theorem dX11_countWords_26 : decode yX11_countWords.2.1 26 = .ok (.aload_n 0, 1) := by decide +kernel
theorem dX11_countWords_27 : decode yX11_countWords.2.1 27 = .ok (.getfield 20, 3) := by decide +kernel
theorem dX11_countWords_30 : decode yX11_countWords.2.1 30 = .ok (.iload_n 3, 1) := by decide +kernel
theorem dX11_countWords_31 : decode yX11_countWords.2.1 31 = .ok (.aaload, 1) := by decide +kernel
theorem dX11_countWords_32 : decode yX11_countWords.2.1 32 = .ok (.getfield 196, 3) := by decide +kernel
theorem dX11_countWords_35 : decode yX11_countWords.2.1 35 = .ok (.iload_n 1, 1) := by decide +kernel
theorem dX11_countWords_36 : decode yX11_countWords.2.1 36 = .ok (.if_icmp .lt 7, 3) := by decide +kernel
theorem dX11_countWords_39 : decode yX11_countWords.2.1 39 = .ok (.iconst 1, 1) := by decide +kernel
theorem dX11_countWords_40 : decode yX11_countWords.2.1 40 = .ok (.goto 4, 3) := by decide +kernel
theorem dX11_countWords_43 : decode yX11_countWords.2.1 43 = .ok (.iconst 0, 1) := by decide +kernel
theorem dX11_countWords_44 : decode yX11_countWords.2.1 44 = .ok (.iadd, 1) := by decide +kernel
theorem dX11_countWords_45 : decode yX11_countWords.2.1 45 = .ok (.istore_n 2, 1) := by decide +kernel
theorem dX11_countWords_46 : decode yX11_countWords.2.1 46 = .ok (.iinc 3 1, 3) := by decide +kernel
theorem dX11_countWords_49 : decode yX11_countWords.2.1 49 = .ok (.goto (-45), 3) := by decide +kernel
theorem dX11_countWords_52 : decode yX11_countWords.2.1 52 = .ok (.iload_n 2, 1) := by decide +kernel
theorem dX11_countWords_53 : decode yX11_countWords.2.1 53 = .ok (.ireturn, 1) := by decide +kernel
theorem dX11_countLetters_0 : decode yX11_countLetters.2.1 0 = .ok (.iconst 0, 1) := by decide +kernel
theorem dX11_countLetters_1 : decode yX11_countLetters.2.1 1 = .ok (.istore_n 1, 1) := by decide +kernel
theorem dX11_countLetters_2 : decode yX11_countLetters.2.1 2 = .ok (.iconst 0, 1) := by decide +kernel
theorem dX11_countLetters_3 : decode yX11_countLetters.2.1 3 = .ok (.istore_n 2, 1) := by decide +kernel
theorem dX11_countLetters_4 : decode yX11_countLetters.2.1 4 = .ok (.iload_n 2, 1) := by decide +kernel
theorem dX11_countLetters_5 : decode yX11_countLetters.2.1 5 = .ok (.bipush 8, 2) := by decide +kernel
theorem dX11_countLetters_7 : decode yX11_countLetters.2.1 7 = .ok (.if_icmp .ge 28, 3) := by decide +kernel
theorem dX11_countLetters_10 : decode yX11_countLetters.2.1 10 = .ok (.iload_n 1, 1) := by decide +kernel
theorem dX11_countLetters_11 : decode yX11_countLetters.2.1 11 = .ok (.aload_n 0, 1) := by decide +kernel
theorem dX11_countLetters_12 : decode yX11_countLetters.2.1 12 = .ok (.getfield 20, 3) := by decide +kernel
theorem dX11_countLetters_15 : decode yX11_countLetters.2.1 15 = .ok (.iload_n 2, 1) := by decide +kernel
theorem dX11_countLetters_16 : decode yX11_countLetters.2.1 16 = .ok (.aaload, 1) := by decide +kernel
theorem dX11_countLetters_17 : decode yX11_countLetters.2.1 17 = .ok (.getfield 161, 3) := by decide +kernel
theorem dX11_countLetters_20 : decode yX11_countLetters.2.1 20 = .ok (.getfield 135, 3) := by decide +kernel
theorem dX11_countLetters_23 : decode yX11_countLetters.2.1 23 = .ok (.iconst 0, 1) := by decide +kernel
theorem dX11_countLetters_24 : decode yX11_countLetters.2.1 24 = .ok (.invokestatic 368, 3) := by decide +kernel
theorem dX11_countLetters_27 : decode yX11_countLetters.2.1 27 = .ok (.iadd, 1) := by decide +kernel
theorem dX11_countLetters_28 : decode yX11_countLetters.2.1 28 = .ok (.istore_n 1, 1) := by decide +kernel
theorem dX11_countLetters_29 : decode yX11_countLetters.2.1 29 = .ok (.iinc 2 1, 3) := by decide +kernel
theorem dX11_countLetters_32 : decode yX11_countLetters.2.1 32 = .ok (.goto (-28), 3) := by decide +kernel
theorem dX11_countLetters_35 : decode yX11_countLetters.2.1 35 = .ok (.iload_n 1, 1) := by decide +kernel
theorem dX11_countLetters_36 : decode yX11_countLetters.2.1 36 = .ok (.ireturn, 1) := by decide +kernel
theorem dX11_tellFraction_0 : decode yX11_tellFraction.2.1 0 = .ok (.lload_n 3, 1) := by decide +kernel
theorem dX11_tellFraction_1 : decode yX11_tellFraction.2.1 1 = .ok (.lload_n 1, 1) := by decide +kernel
theorem dX11_tellFraction_2 : decode yX11_tellFraction.2.1 2 = .ok (.invokestatic 371, 3) := by decide +kernel
theorem dX11_tellFraction_5 : decode yX11_tellFraction.2.1 5 = .ok (.lstore 5, 2) := by decide +kernel
theorem dX11_tellFraction_7 : decode yX11_tellFraction.2.1 7 = .ok (.lload 5, 2) := by decide +kernel
theorem dX11_tellFraction_9 : decode yX11_tellFraction.2.1 9 = .ok (.lconst 1, 1) := by decide +kernel
theorem dX11_tellFraction_10 : decode yX11_tellFraction.2.1 10 = .ok (.lcmp, 1) := by decide +kernel
theorem dX11_tellFraction_11 : decode yX11_tellFraction.2.1 11 = .ok (.ifCond .ge 4, 3) := by decide +kernel
theorem dX11_tellFraction_14 : decode yX11_tellFraction.2.1 14 = .ok (.return_, 1) := by decide +kernel
theorem dX11_tellFraction_15 : decode yX11_tellFraction.2.1 15 = .ok (.aload_n 0, 1) := by decide +kernel
theorem dX11_tellFraction_16 : decode yX11_tellFraction.2.1 16 = .ok (.lload_n 1, 1) := by decide +kernel
theorem dX11_tellFraction_17 : decode yX11_tellFraction.2.1 17 = .ok (.lload 5, 2) := by decide +kernel
theorem dX11_tellFraction_19 : decode yX11_tellFraction.2.1 19 = .ok (.ldiv, 1) := by decide +kernel
theorem dX11_tellFraction_20 : decode yX11_tellFraction.2.1 20 = .ok (.putfield 35, 3) := by decide +kernel
theorem dX11_tellFraction_23 : decode yX11_tellFraction.2.1 23 = .ok (.aload_n 0, 1) := by decide +kernel
theorem dX11_tellFraction_24 : decode yX11_tellFraction.2.1 24 = .ok (.lload_n 3, 1) := by decide +kernel
theorem dX11_tellFraction_25 : decode yX11_tellFraction.2.1 25 = .ok (.lload 5, 2) := by decide +kernel
theorem dX11_tellFraction_27 : decode yX11_tellFraction.2.1 27 = .ok (.ldiv, 1) := by decide +kernel
theorem dX11_tellFraction_28 : decode yX11_tellFraction.2.1 28 = .ok (.putfield 38, 3) := by decide +kernel
theorem dX11_tellFraction_31 : decode yX11_tellFraction.2.1 31 = .ok (.return_, 1) := by decide +kernel
theorem dX11_commonDivisor_0 : decode yX11_commonDivisor.2.1 0 = .ok (.iconst 0, 1) := by decide +kernel
theorem dX11_commonDivisor_1 : decode yX11_commonDivisor.2.1 1 = .ok (.istore 4, 2) := by decide +kernel
theorem dX11_commonDivisor_3 : decode yX11_commonDivisor.2.1 3 = .ok (.iload 4, 2) := by decide +kernel
theorem dX11_commonDivisor_5 : decode yX11_commonDivisor.2.1 5 = .ok (.bipush 100, 2) := by decide +kernel
theorem dX11_commonDivisor_7 : decode yX11_commonDivisor.2.1 7 = .ok (.if_icmp .ge 25, 3) := by decide +kernel
theorem dX11_commonDivisor_10 : decode yX11_commonDivisor.2.1 10 = .ok (.lload_n 2, 1) := by decide +kernel
theorem dX11_commonDivisor_11 : decode yX11_commonDivisor.2.1 11 = .ok (.lconst 0, 1) := by decide +kernel
theorem dX11_commonDivisor_12 : decode yX11_commonDivisor.2.1 12 = .ok (.lcmp, 1) := by decide +kernel
theorem dX11_commonDivisor_13 : decode yX11_commonDivisor.2.1 13 = .ok (.ifCond .eq 19, 3) := by decide +kernel
theorem dX11_commonDivisor_16 : decode yX11_commonDivisor.2.1 16 = .ok (.lload_n 0, 1) := by decide +kernel
theorem dX11_commonDivisor_17 : decode yX11_commonDivisor.2.1 17 = .ok (.lload_n 2, 1) := by decide +kernel
theorem dX11_commonDivisor_18 : decode yX11_commonDivisor.2.1 18 = .ok (.lrem, 1) := by decide +kernel
theorem dX11_commonDivisor_19 : decode yX11_commonDivisor.2.1 19 = .ok (.lstore 5, 2) := by decide +kernel
theorem dX11_commonDivisor_21 : decode yX11_commonDivisor.2.1 21 = .ok (.lload_n 2, 1) := by decide +kernel
theorem dX11_commonDivisor_22 : decode yX11_commonDivisor.2.1 22 = .ok (.lstore_n 0, 1) := by decide +kernel
theorem dX11_commonDivisor_23 : decode yX11_commonDivisor.2.1 23 = .ok (.lload 5, 2) := by decide +kernel
theorem dX11_commonDivisor_25 : decode yX11_commonDivisor.2.1 25 = .ok (.lstore_n 2, 1) := by decide +kernel
theorem dX11_commonDivisor_26 : decode yX11_commonDivisor.2.1 26 = .ok (.iinc 4 1, 3) := by decide +kernel
theorem dX11_commonDivisor_29 : decode yX11_commonDivisor.2.1 29 = .ok (.goto (-26), 3) := by decide +kernel
theorem dX11_commonDivisor_32 : decode yX11_commonDivisor.2.1 32 = .ok (.lload_n 0, 1) := by decide +kernel
theorem dX11_commonDivisor_33 : decode yX11_commonDivisor.2.1 33 = .ok (.lreturn, 1) := by decide +kernel
theorem dX11_choose_0 : decode yX11_choose.2.1 0 = .ok (.lconst 1, 1) := by decide +kernel
theorem dX11_choose_1 : decode yX11_choose.2.1 1 = .ok (.lstore_n 2, 1) := by decide +kernel
theorem dX11_choose_2 : decode yX11_choose.2.1 2 = .ok (.iconst 0, 1) := by decide +kernel
theorem dX11_choose_3 : decode yX11_choose.2.1 3 = .ok (.istore 4, 2) := by decide +kernel
theorem dX11_choose_5 : decode yX11_choose.2.1 5 = .ok (.iload 4, 2) := by decide +kernel
theorem dX11_choose_7 : decode yX11_choose.2.1 7 = .ok (.iload_n 1, 1) := by decide +kernel
theorem dX11_choose_8 : decode yX11_choose.2.1 8 = .ok (.if_icmp .ge 23, 3) := by decide +kernel
theorem dX11_choose_11 : decode yX11_choose.2.1 11 = .ok (.lload_n 2, 1) := by decide +kernel
theorem dX11_choose_12 : decode yX11_choose.2.1 12 = .ok (.iload_n 0, 1) := by decide +kernel
theorem dX11_choose_13 : decode yX11_choose.2.1 13 = .ok (.iload 4, 2) := by decide +kernel
theorem dX11_choose_15 : decode yX11_choose.2.1 15 = .ok (.isub, 1) := by decide +kernel
theorem dX11_choose_16 : decode yX11_choose.2.1 16 = .ok (.i2l, 1) := by decide +kernel
theorem dX11_choose_17 : decode yX11_choose.2.1 17 = .ok (.lmul, 1) := by decide +kernel
theorem dX11_choose_18 : decode yX11_choose.2.1 18 = .ok (.iload 4, 2) := by decide +kernel
theorem dX11_choose_20 : decode yX11_choose.2.1 20 = .ok (.iconst 1, 1) := by decide +kernel
theorem dX11_choose_21 : decode yX11_choose.2.1 21 = .ok (.iadd, 1) := by decide +kernel
theorem dX11_choose_22 : decode yX11_choose.2.1 22 = .ok (.i2l, 1) := by decide +kernel
theorem dX11_choose_23 : decode yX11_choose.2.1 23 = .ok (.ldiv, 1) := by decide +kernel
theorem dX11_choose_24 : decode yX11_choose.2.1 24 = .ok (.lstore_n 2, 1) := by decide +kernel
theorem dX11_choose_25 : decode yX11_choose.2.1 25 = .ok (.iinc 4 1, 3) := by decide +kernel
theorem dX11_choose_28 : decode yX11_choose.2.1 28 = .ok (.goto (-23), 3) := by decide +kernel
theorem dX11_choose_31 : decode yX11_choose.2.1 31 = .ok (.lload_n 2, 1) := by decide +kernel
theorem dX11_choose_32 : decode yX11_choose.2.1 32 = .ok (.lreturn, 1) := by decide +kernel
theorem dX11_power_0 : decode yX11_power.2.1 0 = .ok (.lconst 1, 1) := by decide +kernel
theorem dX11_power_1 : decode yX11_power.2.1 1 = .ok (.lstore_n 2, 1) := by decide +kernel
theorem dX11_power_2 : decode yX11_power.2.1 2 = .ok (.iconst 0, 1) := by decide +kernel
theorem dX11_power_3 : decode yX11_power.2.1 3 = .ok (.istore 4, 2) := by decide +kernel
theorem dX11_power_5 : decode yX11_power.2.1 5 = .ok (.iload 4, 2) := by decide +kernel
theorem dX11_power_7 : decode yX11_power.2.1 7 = .ok (.iload_n 1, 1) := by decide +kernel
theorem dX11_power_8 : decode yX11_power.2.1 8 = .ok (.if_icmp .ge 14, 3) := by decide +kernel
theorem dX11_power_11 : decode yX11_power.2.1 11 = .ok (.lload_n 2, 1) := by decide +kernel
theorem dX11_power_12 : decode yX11_power.2.1 12 = .ok (.iload_n 0, 1) := by decide +kernel
theorem dX11_power_13 : decode yX11_power.2.1 13 = .ok (.i2l, 1) := by decide +kernel
theorem dX11_power_14 : decode yX11_power.2.1 14 = .ok (.lmul, 1) := by decide +kernel
theorem dX11_power_15 : decode yX11_power.2.1 15 = .ok (.lstore_n 2, 1) := by decide +kernel
theorem dX11_power_16 : decode yX11_power.2.1 16 = .ok (.iinc 4 1, 3) := by decide +kernel
theorem dX11_power_19 : decode yX11_power.2.1 19 = .ok (.goto (-14), 3) := by decide +kernel
theorem dX11_power_22 : decode yX11_power.2.1 22 = .ok (.lload_n 2, 1) := by decide +kernel
theorem dX11_power_23 : decode yX11_power.2.1 23 = .ok (.lreturn, 1) := by decide +kernel
theorem dX11_isPowerAbove_0 : decode yX11_isPowerAbove.2.1 0 = .ok (.lconst 1, 1) := by decide +kernel
theorem dX11_isPowerAbove_1 : decode yX11_isPowerAbove.2.1 1 = .ok (.lstore_n 3, 1) := by decide +kernel
theorem dX11_isPowerAbove_2 : decode yX11_isPowerAbove.2.1 2 = .ok (.iconst 0, 1) := by decide +kernel
theorem dX11_isPowerAbove_3 : decode yX11_isPowerAbove.2.1 3 = .ok (.istore 5, 2) := by decide +kernel
theorem dX11_isPowerAbove_5 : decode yX11_isPowerAbove.2.1 5 = .ok (.iload 5, 2) := by decide +kernel
theorem dX11_isPowerAbove_7 : decode yX11_isPowerAbove.2.1 7 = .ok (.iload_n 1, 1) := by decide +kernel
theorem dX11_isPowerAbove_8 : decode yX11_isPowerAbove.2.1 8 = .ok (.if_icmp .ge 21, 3) := by decide +kernel
theorem dX11_isPowerAbove_11 : decode yX11_isPowerAbove.2.1 11 = .ok (.lload_n 3, 1) := by decide +kernel
theorem dX11_isPowerAbove_12 : decode yX11_isPowerAbove.2.1 12 = .ok (.iload_n 2, 1) := by decide +kernel
theorem dX11_isPowerAbove_13 : decode yX11_isPowerAbove.2.1 13 = .ok (.i2l, 1) := by decide +kernel
theorem dX11_isPowerAbove_14 : decode yX11_isPowerAbove.2.1 14 = .ok (.lcmp, 1) := by decide +kernel
theorem dX11_isPowerAbove_15 : decode yX11_isPowerAbove.2.1 15 = .ok (.ifCond .gt 14, 3) := by decide +kernel
theorem dX11_isPowerAbove_18 : decode yX11_isPowerAbove.2.1 18 = .ok (.lload_n 3, 1) := by decide +kernel
theorem dX11_isPowerAbove_19 : decode yX11_isPowerAbove.2.1 19 = .ok (.iload_n 0, 1) := by decide +kernel
theorem dX11_isPowerAbove_20 : decode yX11_isPowerAbove.2.1 20 = .ok (.i2l, 1) := by decide +kernel
theorem dX11_isPowerAbove_21 : decode yX11_isPowerAbove.2.1 21 = .ok (.lmul, 1) := by decide +kernel
theorem dX11_isPowerAbove_22 : decode yX11_isPowerAbove.2.1 22 = .ok (.lstore_n 3, 1) := by decide +kernel
theorem dX11_isPowerAbove_23 : decode yX11_isPowerAbove.2.1 23 = .ok (.iinc 5 1, 3) := by decide +kernel
theorem dX11_isPowerAbove_26 : decode yX11_isPowerAbove.2.1 26 = .ok (.goto (-21), 3) := by decide +kernel
theorem dX11_isPowerAbove_29 : decode yX11_isPowerAbove.2.1 29 = .ok (.lload_n 3, 1) := by decide +kernel
theorem dX11_isPowerAbove_30 : decode yX11_isPowerAbove.2.1 30 = .ok (.iload_n 2, 1) := by decide +kernel
theorem dX11_isPowerAbove_31 : decode yX11_isPowerAbove.2.1 31 = .ok (.i2l, 1) := by decide +kernel
theorem dX11_isPowerAbove_32 : decode yX11_isPowerAbove.2.1 32 = .ok (.lcmp, 1) := by decide +kernel
theorem dX11_isPowerAbove_33 : decode yX11_isPowerAbove.2.1 33 = .ok (.ifCond .le 7, 3) := by decide +kernel
theorem dX11_isPowerAbove_36 : decode yX11_isPowerAbove.2.1 36 = .ok (.iconst 1, 1) := by decide +kernel
theorem dX11_isPowerAbove_37 : decode yX11_isPowerAbove.2.1 37 = .ok (.goto 4, 3) := by decide +kernel
theorem dX11_isPowerAbove_40 : decode yX11_isPowerAbove.2.1 40 = .ok (.iconst 0, 1) := by decide +kernel
theorem dX11_isPowerAbove_41 : decode yX11_isPowerAbove.2.1 41 = .ok (.ireturn, 1) := by decide +kernel
