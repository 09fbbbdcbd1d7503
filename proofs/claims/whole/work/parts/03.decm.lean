theorem dX10_in_0 : decode cX10_in 0 = .ok (.lload_n 0, 1) := by decide +kernel
theorem dX10_in_1 : decode cX10_in 1 = .ok (.lload_n 2, 1) := by decide +kernel
theorem dX10_in_2 : decode cX10_in 2 = .ok (.lcmp, 1) := by decide +kernel
theorem dX10_in_3 : decode cX10_in 3 = .ok (.ifCond .lt 14, 3) := by decide +kernel
theorem dX10_in_6 : decode cX10_in 6 = .ok (.lload_n 0, 1) := by decide +kernel
theorem dX10_in_7 : decode cX10_in 7 = .ok (.lload 4, 2) := by decide +kernel
theorem dX10_in_9 : decode cX10_in 9 = .ok (.lcmp, 1) := by decide +kernel
theorem dX10_in_10 : decode cX10_in 10 = .ok (.ifCond .gt 7, 3) := by decide +kernel
theorem dX10_in_13 : decode cX10_in 13 = .ok (.iconst 1, 1) := by decide +kernel
theorem dX10_in_14 : decode cX10_in 14 = .ok (.goto 4, 3) := by decide +kernel
theorem dX10_in_17 : decode cX10_in 17 = .ok (.iconst 0, 1) := by decide +kernel
theorem dX10_in_18 : decode cX10_in 18 = .ok (.ireturn, 1) := by decide +kernel
theorem dX10_within_0 : decode cX10_within 0 = .ok (.iload_n 0, 1) := by decide +kernel
theorem dX10_within_1 : decode cX10_within 1 = .ok (.iload_n 1, 1) := by decide +kernel
theorem dX10_within_2 : decode cX10_within 2 = .ok (.if_icmp .ge 7, 3) := by decide +kernel
theorem dX10_within_5 : decode cX10_within 5 = .ok (.iload_n 1, 1) := by decide +kernel
theorem dX10_within_6 : decode cX10_within 6 = .ok (.goto 13, 3) := by decide +kernel
theorem dX10_within_9 : decode cX10_within 9 = .ok (.iload_n 0, 1) := by decide +kernel
theorem dX10_within_10 : decode cX10_within 10 = .ok (.iload_n 2, 1) := by decide +kernel
theorem dX10_within_11 : decode cX10_within 11 = .ok (.if_icmp .le 7, 3) := by decide +kernel
theorem dX10_within_14 : decode cX10_within 14 = .ok (.iload_n 2, 1) := by decide +kernel
theorem dX10_within_15 : decode cX10_within 15 = .ok (.goto 4, 3) := by decide +kernel
theorem dX10_within_18 : decode cX10_within 18 = .ok (.iload_n 0, 1) := by decide +kernel
theorem dX10_within_19 : decode cX10_within 19 = .ok (.ireturn, 1) := by decide +kernel
theorem dX10_init_0 : decode cX10_init 0 = .ok (.aload_n 0, 1) := by decide +kernel
theorem dX10_init_1 : decode cX10_init 1 = .ok (.invokespecial 7, 3) := by decide +kernel
theorem dX10_init_4 : decode cX10_init 4 = .ok (.aload_n 0, 1) := by decide +kernel
theorem dX10_init_5 : decode cX10_init 5 = .ok (.sipush 960, 3) := by decide +kernel
theorem dX10_init_8 : decode cX10_init 8 = .ok (.newarray .int, 2) := by decide +kernel
theorem dX10_init_10 : decode cX10_init 10 = .ok (.putfield 13, 3) := by decide +kernel
theorem dX10_init_13 : decode cX10_init 13 = .ok (.aload_n 0, 1) := by decide +kernel
theorem dX10_init_14 : decode cX10_init 14 = .ok (.bipush 6, 2) := by decide +kernel
theorem dX10_init_16 : decode cX10_init 16 = .ok (.newarray .int, 2) := by decide +kernel
theorem dX10_init_18 : decode cX10_init 18 = .ok (.putfield 17, 3) := by decide +kernel
theorem dX10_init_21 : decode cX10_init 21 = .ok (.aload_n 0, 1) := by decide +kernel
theorem dX10_init_22 : decode cX10_init 22 = .ok (.sipush 160, 3) := by decide +kernel
theorem dX10_init_25 : decode cX10_init 25 = .ok (.newarray .int, 2) := by decide +kernel
theorem dX10_init_27 : decode cX10_init 27 = .ok (.putfield 20, 3) := by decide +kernel
theorem dX10_init_30 : decode cX10_init 30 = .ok (.aload_n 0, 1) := by decide +kernel
theorem dX10_init_31 : decode cX10_init 31 = .ok (.iconst 3, 1) := by decide +kernel
theorem dX10_init_32 : decode cX10_init 32 = .ok (.newarray .int, 2) := by decide +kernel
theorem dX10_init_34 : decode cX10_init 34 = .ok (.putfield 23, 3) := by decide +kernel
theorem dX10_init_37 : decode cX10_init 37 = .ok (.aload_n 0, 1) := by decide +kernel
theorem dX10_init_38 : decode cX10_init 38 = .ok (.iconst 5, 1) := by decide +kernel
theorem dX10_init_39 : decode cX10_init 39 = .ok (.newarray .int, 2) := by decide +kernel
theorem dX10_init_41 : decode cX10_init 41 = .ok (.putfield 26, 3) := by decide +kernel
theorem dX10_init_44 : decode cX10_init 44 = .ok (.aload_n 0, 1) := by decide +kernel
theorem dX10_init_45 : decode cX10_init 45 = .ok (.bipush 15, 2) := by decide +kernel
theorem dX10_init_47 : decode cX10_init 47 = .ok (.newarray .int, 2) := by decide +kernel
theorem dX10_init_49 : decode cX10_init 49 = .ok (.putfield 29, 3) := by decide +kernel
theorem dX10_init_52 : decode cX10_init 52 = .ok (.aload_n 0, 1) := by decide +kernel
theorem dX10_init_53 : decode cX10_init 53 = .ok (.iconst 5, 1) := by decide +kernel
theorem dX10_init_54 : decode cX10_init 54 = .ok (.newarray .int, 2) := by decide +kernel
theorem dX10_init_56 : decode cX10_init 56 = .ok (.putfield 32, 3) := by decide +kernel
theorem dX10_init_59 : decode cX10_init 59 = .ok (.aload_n 0, 1) := by decide +kernel
theorem dX10_init_60 : decode cX10_init 60 = .ok (.bipush 6, 2) := by decide +kernel
theorem dX10_init_62 : decode cX10_init 62 = .ok (.newarray .int, 2) := by decide +kernel
theorem dX10_init_64 : decode cX10_init 64 = .ok (.putfield 35, 3) := by decide +kernel
theorem dX10_init_67 : decode cX10_init 67 = .ok (.aload_n 0, 1) := by decide +kernel
theorem dX10_init_68 : decode cX10_init 68 = .ok (.iconst 5, 1) := by decide +kernel
theorem dX10_init_69 : decode cX10_init 69 = .ok (.newarray .boolean, 2) := by decide +kernel
theorem dX10_init_71 : decode cX10_init 71 = .ok (.putfield 38, 3) := by decide +kernel
theorem dX10_init_74 : decode cX10_init 74 = .ok (.aload_n 0, 1) := by decide +kernel
theorem dX10_init_75 : decode cX10_init 75 = .ok (.iconst 5, 1) := by decide +kernel
theorem dX10_init_76 : decode cX10_init 76 = .ok (.newarray .boolean, 2) := by decide +kernel
theorem dX10_init_78 : decode cX10_init 78 = .ok (.putfield 42, 3) := by decide +kernel
theorem dX10_init_81 : decode cX10_init 81 = .ok (.aload_n 0, 1) := by decide +kernel
theorem dX10_init_82 : decode cX10_init 82 = .ok (.iconst 5, 1) := by decide +kernel
theorem dX10_init_83 : decode cX10_init 83 = .ok (.newarray .int, 2) := by decide +kernel
theorem dX10_init_85 : decode cX10_init 85 = .ok (.putfield 45, 3) := by decide +kernel
theorem dX10_init_88 : decode cX10_init 88 = .ok (.aload_n 0, 1) := by decide +kernel
theorem dX10_init_89 : decode cX10_init 89 = .ok (.iconst 5, 1) := by decide +kernel
theorem dX10_init_90 : decode cX10_init 90 = .ok (.newarray .int, 2) := by decide +kernel
theorem dX10_init_92 : decode cX10_init 92 = .ok (.putfield 48, 3) := by decide +kernel
theorem dX10_init_95 : decode cX10_init 95 = .ok (.aload_n 0, 1) := by decide +kernel
theorem dX10_init_96 : decode cX10_init 96 = .ok (.iconst 3, 1) := by decide +kernel
theorem dX10_init_97 : decode cX10_init 97 = .ok (.newarray .int, 2) := by decide +kernel
theorem dX10_init_99 : decode cX10_init 99 = .ok (.putfield 51, 3) := by decide +kernel
theorem dX10_init_102 : decode cX10_init 102 = .ok (.aload_n 0, 1) := by decide +kernel
theorem dX10_init_103 : decode cX10_init 103 = .ok (.bipush 15, 2) := by decide +kernel
theorem dX10_init_105 : decode cX10_init 105 = .ok (.newarray .int, 2) := by decide +kernel
theorem dX10_init_107 : decode cX10_init 107 = .ok (.putfield 54, 3) := by decide +kernel
theorem dX10_init_110 : decode cX10_init 110 = .ok (.aload_n 0, 1) := by decide +kernel
theorem dX10_init_111 : decode cX10_init 111 = .ok (.iconst (-1), 1) := by decide +kernel
theorem dX10_init_112 : decode cX10_init 112 = .ok (.putfield 57, 3) := by decide +kernel
theorem dX10_init_115 : decode cX10_init 115 = .ok (.aload_n 0, 1) := by decide +kernel
theorem dX10_init_116 : decode cX10_init 116 = .ok (.iconst 4, 1) := by decide +kernel
theorem dX10_init_117 : decode cX10_init 117 = .ok (.newarray .boolean, 2) := by decide +kernel
theorem dX10_init_119 : decode cX10_init 119 = .ok (.putfield 60, 3) := by decide +kernel
theorem dX10_init_122 : decode cX10_init 122 = .ok (.aload_n 0, 1) := by decide +kernel
theorem dX10_init_123 : decode cX10_init 123 = .ok (.iconst 4, 1) := by decide +kernel
theorem dX10_init_124 : decode cX10_init 124 = .ok (.newarray .int, 2) := by decide +kernel
theorem dX10_init_126 : decode cX10_init 126 = .ok (.putfield 63, 3) := by decide +kernel
theorem dX10_init_129 : decode cX10_init 129 = .ok (.aload_n 0, 1) := by decide +kernel
theorem dX10_init_130 : decode cX10_init 130 = .ok (.iconst 4, 1) := by decide +kernel
theorem dX10_init_131 : decode cX10_init 131 = .ok (.newarray .int, 2) := by decide +kernel
theorem dX10_init_133 : decode cX10_init 133 = .ok (.putfield 66, 3) := by decide +kernel
theorem dX10_init_136 : decode cX10_init 136 = .ok (.aload_n 0, 1) := by decide +kernel
theorem dX10_init_137 : decode cX10_init 137 = .ok (.sipush 160, 3) := by decide +kernel
theorem dX10_init_140 : decode cX10_init 140 = .ok (.newarray .int, 2) := by decide +kernel
theorem dX10_init_142 : decode cX10_init 142 = .ok (.putfield 69, 3) := by decide +kernel
theorem dX10_init_145 : decode cX10_init 145 = .ok (.aload_n 0, 1) := by decide +kernel
theorem dX10_init_146 : decode cX10_init 146 = .ok (.getfield 23, 3) := by decide +kernel
theorem dX10_init_149 : decode cX10_init 149 = .ok (.iconst 0, 1) := by decide +kernel
theorem dX10_init_150 : decode cX10_init 150 = .ok (.bipush 20, 2) := by decide +kernel
theorem dX10_init_152 : decode cX10_init 152 = .ok (.iastore, 1) := by decide +kernel
theorem dX10_init_153 : decode cX10_init 153 = .ok (.aload_n 0, 1) := by decide +kernel
theorem dX10_init_154 : decode cX10_init 154 = .ok (.getfield 23, 3) := by decide +kernel
theorem dX10_init_157 : decode cX10_init 157 = .ok (.iconst 1, 1) := by decide +kernel
theorem dX10_init_158 : decode cX10_init 158 = .ok (.bipush 70, 2) := by decide +kernel
theorem dX10_init_160 : decode cX10_init 160 = .ok (.iastore, 1) := by decide +kernel
theorem dX10_init_161 : decode cX10_init 161 = .ok (.aload_n 0, 1) := by decide +kernel
theorem dX10_init_162 : decode cX10_init 162 = .ok (.iconst 0, 1) := by decide +kernel
theorem dX10_init_163 : decode cX10_init 163 = .ok (.bipush 119, 2) := by decide +kernel
theorem dX10_init_165 : decode cX10_init 165 = .ok (.bipush 97, 2) := by decide +kernel
theorem dX10_init_167 : decode cX10_init 167 = .ok (.bipush 114, 2) := by decide +kernel
theorem dX10_init_169 : decode cX10_init 169 = .ok (.bipush 109, 2) := by decide +kernel
theorem dX10_init_171 : decode cX10_init 171 = .ok (.bipush 115, 2) := by decide +kernel
theorem dX10_init_173 : decode cX10_init 173 = .ok (.bipush 32, 2) := by decide +kernel
theorem dX10_init_175 : decode cX10_init 175 = .ok (.bipush 53, 2) := by decide +kernel
theorem dX10_init_177 : decode cX10_init 177 = .ok (.bipush 32, 2) := by decide +kernel
theorem dX10_init_179 : decode cX10_init 179 = .ok (.invokevirtual 72, 3) := by decide +kernel
theorem dX10_init_182 : decode cX10_init 182 = .ok (.aload_n 0, 1) := by decide +kernel
theorem dX10_init_183 : decode cX10_init 183 = .ok (.bipush 8, 2) := by decide +kernel
theorem dX10_init_185 : decode cX10_init 185 = .ok (.bipush 43, 2) := by decide +kernel
theorem dX10_init_187 : decode cX10_init 187 = .ok (.bipush 32, 2) := by decide +kernel
theorem dX10_init_189 : decode cX10_init 189 = .ok (.bipush 116, 2) := by decide +kernel
theorem dX10_init_191 : decode cX10_init 191 = .ok (.bipush 111, 2) := by decide +kernel
theorem dX10_init_193 : decode cX10_init 193 = .ok (.bipush 112, 2) := by decide +kernel
theorem dX10_init_195 : decode cX10_init 195 = .ok (.bipush 105, 2) := by decide +kernel
theorem dX10_init_197 : decode cX10_init 197 = .ok (.bipush 99, 2) := by decide +kernel
theorem dX10_init_199 : decode cX10_init 199 = .ok (.bipush 32, 2) := by decide +kernel
theorem dX10_init_201 : decode cX10_init 201 = .ok (.invokevirtual 72, 3) := by decide +kernel
theorem dX10_init_204 : decode cX10_init 204 = .ok (.aload_n 0, 1) := by decide +kernel
theorem dX10_init_205 : decode cX10_init 205 = .ok (.bipush 16, 2) := by decide +kernel
theorem dX10_init_207 : decode cX10_init 207 = .ok (.bipush 59, 2) := by decide +kernel
theorem dX10_init_209 : decode cX10_init 209 = .ok (.bipush 32, 2) := by decide +kernel
theorem dX10_init_211 : decode cX10_init 211 = .ok (.bipush 99, 2) := by decide +kernel
theorem dX10_init_213 : decode cX10_init 213 = .ok (.bipush 111, 2) := by decide +kernel
theorem dX10_init_215 : decode cX10_init 215 = .ok (.bipush 111, 2) := by decide +kernel
theorem dX10_init_217 : decode cX10_init 217 = .ok (.bipush 108, 2) := by decide +kernel
theorem dX10_init_219 : decode cX10_init 219 = .ok (.bipush 115, 2) := by decide +kernel
theorem dX10_init_221 : decode cX10_init 221 = .ok (.bipush 32, 2) := by decide +kernel
theorem dX10_init_223 : decode cX10_init 223 = .ok (.invokevirtual 72, 3) := by decide +kernel
theorem dX10_init_226 : decode cX10_init 226 = .ok (.aload_n 0, 1) := by decide +kernel
theorem dX10_init_227 : decode cX10_init 227 = .ok (.bipush 24, 2) := by decide +kernel
theorem dX10_init_229 : decode cX10_init 229 = .ok (.bipush 50, 2) := by decide +kernel
theorem dX10_init_231 : decode cX10_init 231 = .ok (.bipush 32, 2) := by decide +kernel
theorem dX10_init_233 : decode cX10_init 233 = .ok (.bipush 59, 2) := by decide +kernel
theorem dX10_init_235 : decode cX10_init 235 = .ok (.bipush 32, 2) := by decide +kernel
theorem dX10_init_237 : decode cX10_init 237 = .ok (.bipush 115, 2) := by decide +kernel
theorem dX10_init_239 : decode cX10_init 239 = .ok (.bipush 99, 2) := by decide +kernel
theorem dX10_init_241 : decode cX10_init 241 = .ok (.bipush 114, 2) := by decide +kernel
theorem dX10_init_243 : decode cX10_init 243 = .ok (.bipush 101, 2) := by decide +kernel
theorem dX10_init_245 : decode cX10_init 245 = .ok (.invokevirtual 72, 3) := by decide +kernel
theorem dX10_init_248 : decode cX10_init 248 = .ok (.aload_n 0, 1) := by decide +kernel
theorem dX10_init_249 : decode cX10_init 249 = .ok (.bipush 32, 2) := by decide +kernel
theorem dX10_init_251 : decode cX10_init 251 = .ok (.bipush 97, 2) := by decide +kernel
theorem dX10_init_253 : decode cX10_init 253 = .ok (.bipush 109, 2) := by decide +kernel
theorem dX10_init_255 : decode cX10_init 255 = .ok (.bipush 115, 2) := by decide +kernel
theorem dX10_init_257 : decode cX10_init 257 = .ok (.bipush 32, 2) := by decide +kernel
theorem dX10_init_259 : decode cX10_init 259 = .ok (.bipush 108, 2) := by decide +kernel
theorem dX10_init_261 : decode cX10_init 261 = .ok (.bipush 97, 2) := by decide +kernel
theorem dX10_init_263 : decode cX10_init 263 = .ok (.bipush 115, 2) := by decide +kernel
theorem dX10_init_265 : decode cX10_init 265 = .ok (.bipush 116, 2) := by decide +kernel
theorem dX10_init_267 : decode cX10_init 267 = .ok (.invokevirtual 72, 3) := by decide +kernel
theorem dX10_init_270 : decode cX10_init 270 = .ok (.aload_n 0, 1) := by decide +kernel
theorem dX10_init_271 : decode cX10_init 271 = .ok (.bipush 40, 2) := by decide +kernel
theorem dX10_init_273 : decode cX10_init 273 = .ok (.bipush 32, 2) := by decide +kernel
theorem dX10_init_275 : decode cX10_init 275 = .ok (.bipush 60, 2) := by decide +kernel
theorem dX10_init_277 : decode cX10_init 277 = .ok (.bipush 32, 2) := by decide +kernel
theorem dX10_init_279 : decode cX10_init 279 = .ok (.bipush 52, 2) := by decide +kernel
theorem dX10_init_281 : decode cX10_init 281 = .ok (.bipush 32, 2) := by decide +kernel
theorem dX10_init_283 : decode cX10_init 283 = .ok (.bipush 59, 2) := by decide +kernel
theorem dX10_init_285 : decode cX10_init 285 = .ok (.bipush 32, 2) := by decide +kernel
theorem dX10_init_287 : decode cX10_init 287 = .ok (.bipush 32, 2) := by decide +kernel
theorem dX10_init_289 : decode cX10_init 289 = .ok (.invokevirtual 72, 3) := by decide +kernel
theorem dX10_init_292 : decode cX10_init 292 = .ok (.aload_n 0, 1) := by decide +kernel
theorem dX10_init_293 : decode cX10_init 293 = .ok (.getfield 17, 3) := by decide +kernel
theorem dX10_init_296 : decode cX10_init 296 = .ok (.iconst 0, 1) := by decide +kernel
theorem dX10_init_297 : decode cX10_init 297 = .ok (.bipush 48, 2) := by decide +kernel
theorem dX10_init_299 : decode cX10_init 299 = .ok (.iastore, 1) := by decide +kernel
theorem dX10_init_300 : decode cX10_init 300 = .ok (.aload_n 0, 1) := by decide +kernel
theorem dX10_init_301 : decode cX10_init 301 = .ok (.iconst 1, 1) := by decide +kernel
theorem dX10_init_302 : decode cX10_init 302 = .ok (.putfield 76, 3) := by decide +kernel
theorem dX10_init_305 : decode cX10_init 305 = .ok (.return_, 1) := by decide +kernel
theorem dX10_spell_0 : decode cX10_spell 0 = .ok (.aload_n 0, 1) := by decide +kernel
theorem dX10_spell_1 : decode cX10_spell 1 = .ok (.getfield 13, 3) := by decide +kernel
theorem dX10_spell_4 : decode cX10_spell 4 = .ok (.iload_n 1, 1) := by decide +kernel
theorem dX10_spell_5 : decode cX10_spell 5 = .ok (.iload_n 2, 1) := by decide +kernel
theorem dX10_spell_6 : decode cX10_spell 6 = .ok (.iastore, 1) := by decide +kernel
theorem dX10_spell_7 : decode cX10_spell 7 = .ok (.aload_n 0, 1) := by decide +kernel
theorem dX10_spell_8 : decode cX10_spell 8 = .ok (.getfield 13, 3) := by decide +kernel
theorem dX10_spell_11 : decode cX10_spell 11 = .ok (.iload_n 1, 1) := by decide +kernel
theorem dX10_spell_12 : decode cX10_spell 12 = .ok (.iconst 1, 1) := by decide +kernel
theorem dX10_spell_13 : decode cX10_spell 13 = .ok (.iadd, 1) := by decide +kernel
theorem dX10_spell_14 : decode cX10_spell 14 = .ok (.iload_n 3, 1) := by decide +kernel
theorem dX10_spell_15 : decode cX10_spell 15 = .ok (.iastore, 1) := by decide +kernel
theorem dX10_spell_16 : decode cX10_spell 16 = .ok (.aload_n 0, 1) := by decide +kernel
theorem dX10_spell_17 : decode cX10_spell 17 = .ok (.getfield 13, 3) := by decide +kernel
theorem dX10_spell_20 : decode cX10_spell 20 = .ok (.iload_n 1, 1) := by decide +kernel
theorem dX10_spell_21 : decode cX10_spell 21 = .ok (.iconst 2, 1) := by decide +kernel
theorem dX10_spell_22 : decode cX10_spell 22 = .ok (.iadd, 1) := by decide +kernel
theorem dX10_spell_23 : decode cX10_spell 23 = .ok (.iload 4, 2) := by decide +kernel
theorem dX10_spell_25 : decode cX10_spell 25 = .ok (.iastore, 1) := by decide +kernel
theorem dX10_spell_26 : decode cX10_spell 26 = .ok (.aload_n 0, 1) := by decide +kernel
theorem dX10_spell_27 : decode cX10_spell 27 = .ok (.getfield 13, 3) := by decide +kernel
theorem dX10_spell_30 : decode cX10_spell 30 = .ok (.iload_n 1, 1) := by decide +kernel
theorem dX10_spell_31 : decode cX10_spell 31 = .ok (.iconst 3, 1) := by decide +kernel
theorem dX10_spell_32 : decode cX10_spell 32 = .ok (.iadd, 1) := by decide +kernel
theorem dX10_spell_33 : decode cX10_spell 33 = .ok (.iload 5, 2) := by decide +kernel
theorem dX10_spell_35 : decode cX10_spell 35 = .ok (.iastore, 1) := by decide +kernel
theorem dX10_spell_36 : decode cX10_spell 36 = .ok (.aload_n 0, 1) := by decide +kernel
theorem dX10_spell_37 : decode cX10_spell 37 = .ok (.getfield 13, 3) := by decide +kernel
theorem dX10_spell_40 : decode cX10_spell 40 = .ok (.iload_n 1, 1) := by decide +kernel
theorem dX10_spell_41 : decode cX10_spell 41 = .ok (.iconst 4, 1) := by decide +kernel
theorem dX10_spell_42 : decode cX10_spell 42 = .ok (.iadd, 1) := by decide +kernel
theorem dX10_spell_43 : decode cX10_spell 43 = .ok (.iload 6, 2) := by decide +kernel
theorem dX10_spell_45 : decode cX10_spell 45 = .ok (.iastore, 1) := by decide +kernel
theorem dX10_spell_46 : decode cX10_spell 46 = .ok (.aload_n 0, 1) := by decide +kernel
theorem dX10_spell_47 : decode cX10_spell 47 = .ok (.getfield 13, 3) := by decide +kernel
theorem dX10_spell_50 : decode cX10_spell 50 = .ok (.iload_n 1, 1) := by decide +kernel
theorem dX10_spell_51 : decode cX10_spell 51 = .ok (.iconst 5, 1) := by decide +kernel
theorem dX10_spell_52 : decode cX10_spell 52 = .ok (.iadd, 1) := by decide +kernel
theorem dX10_spell_53 : decode cX10_spell 53 = .ok (.iload 7, 2) := by decide +kernel
theorem dX10_spell_55 : decode cX10_spell 55 = .ok (.iastore, 1) := by decide +kernel
theorem dX10_spell_56 : decode cX10_spell 56 = .ok (.aload_n 0, 1) := by decide +kernel
theorem dX10_spell_57 : decode cX10_spell 57 = .ok (.getfield 13, 3) := by decide +kernel
theorem dX10_spell_60 : decode cX10_spell 60 = .ok (.iload_n 1, 1) := by decide +kernel
theorem dX10_spell_61 : decode cX10_spell 61 = .ok (.bipush 6, 2) := by decide +kernel
theorem dX10_spell_63 : decode cX10_spell 63 = .ok (.iadd, 1) := by decide +kernel
theorem dX10_spell_64 : decode cX10_spell 64 = .ok (.iload 8, 2) := by decide +kernel
theorem dX10_spell_66 : decode cX10_spell 66 = .ok (.iastore, 1) := by decide +kernel
theorem dX10_spell_67 : decode cX10_spell 67 = .ok (.aload_n 0, 1) := by decide +kernel
theorem dX10_spell_68 : decode cX10_spell 68 = .ok (.getfield 13, 3) := by decide +kernel
theorem dX10_spell_71 : decode cX10_spell 71 = .ok (.iload_n 1, 1) := by decide +kernel
theorem dX10_spell_72 : decode cX10_spell 72 = .ok (.bipush 7, 2) := by decide +kernel
theorem dX10_spell_74 : decode cX10_spell 74 = .ok (.iadd, 1) := by decide +kernel
theorem dX10_spell_75 : decode cX10_spell 75 = .ok (.iload 9, 2) := by decide +kernel
theorem dX10_spell_77 : decode cX10_spell 77 = .ok (.iastore, 1) := by decide +kernel
theorem dX10_spell_78 : decode cX10_spell 78 = .ok (.return_, 1) := by decide +kernel
theorem dX10_isOne_0 : decode cX10_isOne 0 = .ok (.iload_n 1, 1) := by decide +kernel
theorem dX10_isOne_1 : decode cX10_isOne 1 = .ok (.i2l, 1) := by decide +kernel
theorem dX10_isOne_2 : decode cX10_isOne 2 = .ok (.lconst 0, 1) := by decide +kernel
theorem dX10_isOne_3 : decode cX10_isOne 3 = .ok (.aload_n 0, 1) := by decide +kernel
theorem dX10_isOne_4 : decode cX10_isOne 4 = .ok (.getfield 79, 3) := by decide +kernel
theorem dX10_isOne_7 : decode cX10_isOne 7 = .ok (.iconst 1, 1) := by decide +kernel
theorem dX10_isOne_8 : decode cX10_isOne 8 = .ok (.isub, 1) := by decide +kernel
theorem dX10_isOne_9 : decode cX10_isOne 9 = .ok (.i2l, 1) := by decide +kernel
theorem dX10_isOne_10 : decode cX10_isOne 10 = .ok (.invokestatic 82, 3) := by decide +kernel
theorem dX10_isOne_13 : decode cX10_isOne 13 = .ok (.ireturn, 1) := by decide +kernel
theorem dX10_mostOf_0 : decode cX10_mostOf 0 = .ok (.iload_n 0, 1) := by decide +kernel
theorem dX10_mostOf_1 : decode cX10_mostOf 1 = .ok (.iconst 2, 1) := by decide +kernel
theorem dX10_mostOf_2 : decode cX10_mostOf 2 = .ok (.if_icmp .ge 8, 3) := by decide +kernel
theorem dX10_mostOf_5 : decode cX10_mostOf 5 = .ok (.bipush 99, 2) := by decide +kernel
theorem dX10_mostOf_7 : decode cX10_mostOf 7 = .ok (.goto 35, 3) := by decide +kernel
theorem dX10_mostOf_10 : decode cX10_mostOf 10 = .ok (.iload_n 0, 1) := by decide +kernel
theorem dX10_mostOf_11 : decode cX10_mostOf 11 = .ok (.iconst 2, 1) := by decide +kernel
theorem dX10_mostOf_12 : decode cX10_mostOf 12 = .ok (.if_icmp .ne 9, 3) := by decide +kernel
theorem dX10_mostOf_15 : decode cX10_mostOf 15 = .ok (.sipush 999, 3) := by decide +kernel
theorem dX10_mostOf_18 : decode cX10_mostOf 18 = .ok (.goto 24, 3) := by decide +kernel
theorem dX10_mostOf_21 : decode cX10_mostOf 21 = .ok (.iload_n 0, 1) := by decide +kernel
theorem dX10_mostOf_22 : decode cX10_mostOf 22 = .ok (.iconst 3, 1) := by decide +kernel
theorem dX10_mostOf_23 : decode cX10_mostOf 23 = .ok (.if_icmp .ne 8, 3) := by decide +kernel
theorem dX10_mostOf_26 : decode cX10_mostOf 26 = .ok (.bipush 9, 2) := by decide +kernel
theorem dX10_mostOf_28 : decode cX10_mostOf 28 = .ok (.goto 14, 3) := by decide +kernel
theorem dX10_mostOf_31 : decode cX10_mostOf 31 = .ok (.iload_n 0, 1) := by decide +kernel
theorem dX10_mostOf_32 : decode cX10_mostOf 32 = .ok (.iconst 4, 1) := by decide +kernel
theorem dX10_mostOf_33 : decode cX10_mostOf 33 = .ok (.if_icmp .ne 8, 3) := by decide +kernel
theorem dX10_mostOf_36 : decode cX10_mostOf 36 = .ok (.bipush 7, 2) := by decide +kernel
theorem dX10_mostOf_38 : decode cX10_mostOf 38 = .ok (.goto 4, 3) := by decide +kernel
theorem dX10_mostOf_41 : decode cX10_mostOf 41 = .ok (.iconst 1, 1) := by decide +kernel
theorem dX10_mostOf_42 : decode cX10_mostOf 42 = .ok (.ireturn, 1) := by decide +kernel
theorem dX10_set_0 : decode cX10_set 0 = .ok (.iload_n 1, 1) := by decide +kernel
theorem dX10_set_1 : decode cX10_set 1 = .ok (.i2l, 1) := by decide +kernel
theorem dX10_set_2 : decode cX10_set 2 = .ok (.lconst 0, 1) := by decide +kernel
theorem dX10_set_3 : decode cX10_set 3 = .ok (.ldc2_w 86, 3) := by decide +kernel
theorem dX10_set_6 : decode cX10_set 6 = .ok (.invokestatic 82, 3) := by decide +kernel
theorem dX10_set_9 : decode cX10_set 9 = .ok (.ifCond .eq 39, 3) := by decide +kernel
theorem dX10_set_12 : decode cX10_set 12 = .ok (.iload_n 1, 1) := by decide +kernel
theorem dX10_set_13 : decode cX10_set 13 = .ok (.iconst 2, 1) := by decide +kernel
theorem dX10_set_14 : decode cX10_set 14 = .ok (.if_icmp .le 11, 3) := by decide +kernel
theorem dX10_set_17 : decode cX10_set 17 = .ok (.aload_n 0, 1) := by decide +kernel
theorem dX10_set_18 : decode cX10_set 18 = .ok (.iload_n 2, 1) := by decide +kernel
theorem dX10_set_19 : decode cX10_set 19 = .ok (.invokevirtual 88, 3) := by decide +kernel
theorem dX10_set_22 : decode cX10_set 22 = .ok (.ifCond .eq 26, 3) := by decide +kernel
theorem dX10_set_25 : decode cX10_set 25 = .ok (.iload_n 3, 1) := by decide +kernel
theorem dX10_set_26 : decode cX10_set 26 = .ok (.i2l, 1) := by decide +kernel
theorem dX10_set_27 : decode cX10_set 27 = .ok (.iload_n 1, 1) := by decide +kernel
theorem dX10_set_28 : decode cX10_set 28 = .ok (.iconst 1, 1) := by decide +kernel
theorem dX10_set_29 : decode cX10_set 29 = .ok (.if_icmp .ne 7, 3) := by decide +kernel
theorem dX10_set_32 : decode cX10_set 32 = .ok (.lconst 1, 1) := by decide +kernel
theorem dX10_set_33 : decode cX10_set 33 = .ok (.goto 4, 3) := by decide +kernel
theorem dX10_set_36 : decode cX10_set 36 = .ok (.lconst 0, 1) := by decide +kernel
theorem dX10_set_37 : decode cX10_set 37 = .ok (.iload_n 1, 1) := by decide +kernel
theorem dX10_set_38 : decode cX10_set 38 = .ok (.invokestatic 92, 3) := by decide +kernel
theorem dX10_set_41 : decode cX10_set 41 = .ok (.i2l, 1) := by decide +kernel
theorem dX10_set_42 : decode cX10_set 42 = .ok (.invokestatic 82, 3) := by decide +kernel
theorem dX10_set_45 : decode cX10_set 45 = .ok (.ifCond .ne 6, 3) := by decide +kernel
theorem dX10_set_48 : decode cX10_set 48 = .ok (.bipush (-2), 2) := by decide +kernel
theorem dX10_set_50 : decode cX10_set 50 = .ok (.ireturn, 1) := by decide +kernel
theorem dX10_set_51 : decode cX10_set 51 = .ok (.aload_n 0, 1) := by decide +kernel
theorem dX10_set_52 : decode cX10_set 52 = .ok (.iload_n 2, 1) := by decide +kernel
theorem dX10_set_53 : decode cX10_set 53 = .ok (.iload_n 1, 1) := by decide +kernel
theorem dX10_set_54 : decode cX10_set 54 = .ok (.invokevirtual 96, 3) := by decide +kernel
theorem dX10_set_57 : decode cX10_set 57 = .ok (.istore 4, 2) := by decide +kernel
theorem dX10_set_59 : decode cX10_set 59 = .ok (.aload_n 0, 1) := by decide +kernel
theorem dX10_set_60 : decode cX10_set 60 = .ok (.iload_n 1, 1) := by decide +kernel
theorem dX10_set_61 : decode cX10_set 61 = .ok (.iload_n 2, 1) := by decide +kernel
theorem dX10_set_62 : decode cX10_set 62 = .ok (.iload_n 3, 1) := by decide +kernel
theorem dX10_set_63 : decode cX10_set 63 = .ok (.invokevirtual 100, 3) := by decide +kernel
theorem dX10_set_66 : decode cX10_set 66 = .ok (.iload 4, 2) := by decide +kernel
theorem dX10_set_68 : decode cX10_set 68 = .ok (.ireturn, 1) := by decide +kernel
theorem dX10_lays_0 : decode cX10_lays 0 = .ok (.iload_n 1, 1) := by decide +kernel
theorem dX10_lays_1 : decode cX10_lays 1 = .ok (.iconst 3, 1) := by decide +kernel
theorem dX10_lays_2 : decode cX10_lays 2 = .ok (.if_icmp .ge 13, 3) := by decide +kernel
theorem dX10_lays_5 : decode cX10_lays 5 = .ok (.aload_n 0, 1) := by decide +kernel
theorem dX10_lays_6 : decode cX10_lays 6 = .ok (.getfield 23, 3) := by decide +kernel
theorem dX10_lays_9 : decode cX10_lays 9 = .ok (.iload_n 1, 1) := by decide +kernel
theorem dX10_lays_10 : decode cX10_lays 10 = .ok (.iload_n 3, 1) := by decide +kernel
theorem dX10_lays_11 : decode cX10_lays 11 = .ok (.iastore, 1) := by decide +kernel
theorem dX10_lays_12 : decode cX10_lays 12 = .ok (.goto 46, 3) := by decide +kernel
theorem dX10_lays_15 : decode cX10_lays 15 = .ok (.iload_n 1, 1) := by decide +kernel
theorem dX10_lays_16 : decode cX10_lays 16 = .ok (.bipush 6, 2) := by decide +kernel
theorem dX10_lays_18 : decode cX10_lays 18 = .ok (.if_icmp .ge 19, 3) := by decide +kernel
theorem dX10_lays_21 : decode cX10_lays 21 = .ok (.aload_n 0, 1) := by decide +kernel
theorem dX10_lays_22 : decode cX10_lays 22 = .ok (.getfield 29, 3) := by decide +kernel
theorem dX10_lays_25 : decode cX10_lays 25 = .ok (.iconst 3, 1) := by decide +kernel
theorem dX10_lays_26 : decode cX10_lays 26 = .ok (.iload_n 2, 1) := by decide +kernel
theorem dX10_lays_27 : decode cX10_lays 27 = .ok (.imul, 1) := by decide +kernel
theorem dX10_lays_28 : decode cX10_lays 28 = .ok (.iload_n 1, 1) := by decide +kernel
theorem dX10_lays_29 : decode cX10_lays 29 = .ok (.iadd, 1) := by decide +kernel
theorem dX10_lays_30 : decode cX10_lays 30 = .ok (.iconst 3, 1) := by decide +kernel
theorem dX10_lays_31 : decode cX10_lays 31 = .ok (.isub, 1) := by decide +kernel
theorem dX10_lays_32 : decode cX10_lays 32 = .ok (.iload_n 3, 1) := by decide +kernel
theorem dX10_lays_33 : decode cX10_lays 33 = .ok (.iastore, 1) := by decide +kernel
theorem dX10_lays_34 : decode cX10_lays 34 = .ok (.goto 24, 3) := by decide +kernel
theorem dX10_lays_37 : decode cX10_lays 37 = .ok (.iload_n 1, 1) := by decide +kernel
theorem dX10_lays_38 : decode cX10_lays 38 = .ok (.bipush 6, 2) := by decide +kernel
theorem dX10_lays_40 : decode cX10_lays 40 = .ok (.if_icmp .ne 13, 3) := by decide +kernel
theorem dX10_lays_43 : decode cX10_lays 43 = .ok (.aload_n 0, 1) := by decide +kernel
theorem dX10_lays_44 : decode cX10_lays 44 = .ok (.getfield 26, 3) := by decide +kernel
theorem dX10_lays_47 : decode cX10_lays 47 = .ok (.iload_n 2, 1) := by decide +kernel
theorem dX10_lays_48 : decode cX10_lays 48 = .ok (.iload_n 3, 1) := by decide +kernel
theorem dX10_lays_49 : decode cX10_lays 49 = .ok (.iastore, 1) := by decide +kernel
theorem dX10_lays_50 : decode cX10_lays 50 = .ok (.goto 8, 3) := by decide +kernel
theorem dX10_lays_53 : decode cX10_lays 53 = .ok (.aload_n 0, 1) := by decide +kernel
theorem dX10_lays_54 : decode cX10_lays 54 = .ok (.iload_n 3, 1) := by decide +kernel
theorem dX10_lays_55 : decode cX10_lays 55 = .ok (.putfield 104, 3) := by decide +kernel
theorem dX10_lays_58 : decode cX10_lays 58 = .ok (.return_, 1) := by decide +kernel
theorem dX10_guest_0 : decode cX10_guest 0 = .ok (.iload_n 1, 1) := by decide +kernel
theorem dX10_guest_1 : decode cX10_guest 1 = .ok (.i2l, 1) := by decide +kernel
theorem dX10_guest_2 : decode cX10_guest 2 = .ok (.lconst 0, 1) := by decide +kernel
theorem dX10_guest_3 : decode cX10_guest 3 = .ok (.ldc2_w 86, 3) := by decide +kernel
theorem dX10_guest_6 : decode cX10_guest 6 = .ok (.invokestatic 82, 3) := by decide +kernel
theorem dX10_guest_9 : decode cX10_guest 9 = .ok (.ifCond .eq 27, 3) := by decide +kernel
theorem dX10_guest_12 : decode cX10_guest 12 = .ok (.iload_n 2, 1) := by decide +kernel
theorem dX10_guest_13 : decode cX10_guest 13 = .ok (.i2l, 1) := by decide +kernel
theorem dX10_guest_14 : decode cX10_guest 14 = .ok (.lconst 0, 1) := by decide +kernel
theorem dX10_guest_15 : decode cX10_guest 15 = .ok (.ldc2_w 107, 3) := by decide +kernel
theorem dX10_guest_18 : decode cX10_guest 18 = .ok (.invokestatic 82, 3) := by decide +kernel
theorem dX10_guest_21 : decode cX10_guest 21 = .ok (.ifCond .eq 15, 3) := by decide +kernel
theorem dX10_guest_24 : decode cX10_guest 24 = .ok (.iload_n 3, 1) := by decide +kernel
theorem dX10_guest_25 : decode cX10_guest 25 = .ok (.i2l, 1) := by decide +kernel
theorem dX10_guest_26 : decode cX10_guest 26 = .ok (.lconst 0, 1) := by decide +kernel
theorem dX10_guest_27 : decode cX10_guest 27 = .ok (.ldc2_w 109, 3) := by decide +kernel
theorem dX10_guest_30 : decode cX10_guest 30 = .ok (.invokestatic 82, 3) := by decide +kernel
theorem dX10_guest_33 : decode cX10_guest 33 = .ok (.ifCond .ne 6, 3) := by decide +kernel
theorem dX10_guest_36 : decode cX10_guest 36 = .ok (.bipush (-2), 2) := by decide +kernel
theorem dX10_guest_38 : decode cX10_guest 38 = .ok (.ireturn, 1) := by decide +kernel
theorem dX10_guest_39 : decode cX10_guest 39 = .ok (.aload_n 0, 1) := by decide +kernel
theorem dX10_guest_40 : decode cX10_guest 40 = .ok (.getfield 79, 3) := by decide +kernel
theorem dX10_guest_43 : decode cX10_guest 43 = .ok (.iconst 5, 1) := by decide +kernel
theorem dX10_guest_44 : decode cX10_guest 44 = .ok (.if_icmp .ne 6, 3) := by decide +kernel
theorem dX10_guest_47 : decode cX10_guest 47 = .ok (.bipush (-4), 2) := by decide +kernel
theorem dX10_guest_49 : decode cX10_guest 49 = .ok (.ireturn, 1) := by decide +kernel
theorem dX10_guest_50 : decode cX10_guest 50 = .ok (.aload_n 0, 1) := by decide +kernel
theorem dX10_guest_51 : decode cX10_guest 51 = .ok (.getfield 26, 3) := by decide +kernel
theorem dX10_guest_54 : decode cX10_guest 54 = .ok (.aload_n 0, 1) := by decide +kernel
theorem dX10_guest_55 : decode cX10_guest 55 = .ok (.getfield 79, 3) := by decide +kernel
theorem dX10_guest_58 : decode cX10_guest 58 = .ok (.iload_n 1, 1) := by decide +kernel
theorem dX10_guest_59 : decode cX10_guest 59 = .ok (.iastore, 1) := by decide +kernel
theorem dX10_guest_60 : decode cX10_guest 60 = .ok (.aload_n 0, 1) := by decide +kernel
theorem dX10_guest_61 : decode cX10_guest 61 = .ok (.getfield 29, 3) := by decide +kernel
theorem dX10_guest_64 : decode cX10_guest 64 = .ok (.iconst 3, 1) := by decide +kernel
theorem dX10_guest_65 : decode cX10_guest 65 = .ok (.aload_n 0, 1) := by decide +kernel
theorem dX10_guest_66 : decode cX10_guest 66 = .ok (.getfield 79, 3) := by decide +kernel
theorem dX10_guest_69 : decode cX10_guest 69 = .ok (.imul, 1) := by decide +kernel
theorem dX10_guest_70 : decode cX10_guest 70 = .ok (.iload_n 2, 1) := by decide +kernel
theorem dX10_guest_71 : decode cX10_guest 71 = .ok (.iastore, 1) := by decide +kernel
theorem dX10_guest_72 : decode cX10_guest 72 = .ok (.aload_n 0, 1) := by decide +kernel
theorem dX10_guest_73 : decode cX10_guest 73 = .ok (.getfield 29, 3) := by decide +kernel
theorem dX10_guest_76 : decode cX10_guest 76 = .ok (.iconst 3, 1) := by decide +kernel
theorem dX10_guest_77 : decode cX10_guest 77 = .ok (.aload_n 0, 1) := by decide +kernel
theorem dX10_guest_78 : decode cX10_guest 78 = .ok (.getfield 79, 3) := by decide +kernel
theorem dX10_guest_81 : decode cX10_guest 81 = .ok (.imul, 1) := by decide +kernel
theorem dX10_guest_82 : decode cX10_guest 82 = .ok (.iconst 1, 1) := by decide +kernel
theorem dX10_guest_83 : decode cX10_guest 83 = .ok (.iadd, 1) := by decide +kernel
theorem dX10_guest_84 : decode cX10_guest 84 = .ok (.iload_n 3, 1) := by decide +kernel
theorem dX10_guest_85 : decode cX10_guest 85 = .ok (.iastore, 1) := by decide +kernel
theorem dX10_guest_86 : decode cX10_guest 86 = .ok (.aload_n 0, 1) := by decide +kernel
theorem dX10_guest_87 : decode cX10_guest 87 = .ok (.getfield 29, 3) := by decide +kernel
theorem dX10_guest_90 : decode cX10_guest 90 = .ok (.iconst 3, 1) := by decide +kernel
theorem dX10_guest_91 : decode cX10_guest 91 = .ok (.aload_n 0, 1) := by decide +kernel
theorem dX10_guest_92 : decode cX10_guest 92 = .ok (.getfield 79, 3) := by decide +kernel
theorem dX10_guest_95 : decode cX10_guest 95 = .ok (.imul, 1) := by decide +kernel
theorem dX10_guest_96 : decode cX10_guest 96 = .ok (.iconst 2, 1) := by decide +kernel
theorem dX10_guest_97 : decode cX10_guest 97 = .ok (.iadd, 1) := by decide +kernel
theorem dX10_guest_98 : decode cX10_guest 98 = .ok (.iconst 1, 1) := by decide +kernel
theorem dX10_guest_99 : decode cX10_guest 99 = .ok (.iastore, 1) := by decide +kernel
theorem dX10_guest_100 : decode cX10_guest 100 = .ok (.aload_n 0, 1) := by decide +kernel
theorem dX10_guest_101 : decode cX10_guest 101 = .ok (.dup, 1) := by decide +kernel
theorem dX10_guest_102 : decode cX10_guest 102 = .ok (.getfield 79, 3) := by decide +kernel
theorem dX10_guest_105 : decode cX10_guest 105 = .ok (.iconst 1, 1) := by decide +kernel
theorem dX10_guest_106 : decode cX10_guest 106 = .ok (.iadd, 1) := by decide +kernel
theorem dX10_guest_107 : decode cX10_guest 107 = .ok (.putfield 79, 3) := by decide +kernel
theorem dX10_guest_110 : decode cX10_guest 110 = .ok (.aload_n 0, 1) := by decide +kernel
theorem dX10_guest_111 : decode cX10_guest 111 = .ok (.getfield 79, 3) := by decide +kernel
theorem dX10_guest_114 : decode cX10_guest 114 = .ok (.iconst 1, 1) := by decide +kernel
theorem dX10_guest_115 : decode cX10_guest 115 = .ok (.isub, 1) := by decide +kernel
theorem dX10_guest_116 : decode cX10_guest 116 = .ok (.ireturn, 1) := by decide +kernel
theorem dX10_told_0 : decode cX10_told 0 = .ok (.iload_n 2, 1) := by decide +kernel
theorem dX10_told_1 : decode cX10_told 1 = .ok (.i2l, 1) := by decide +kernel
theorem dX10_told_2 : decode cX10_told 2 = .ok (.lconst 0, 1) := by decide +kernel
theorem dX10_told_3 : decode cX10_told 3 = .ok (.ldc2_w 111, 3) := by decide +kernel
theorem dX10_told_6 : decode cX10_told 6 = .ok (.invokestatic 82, 3) := by decide +kernel
theorem dX10_told_9 : decode cX10_told 9 = .ok (.ifCond .eq 16, 3) := by decide +kernel
theorem dX10_told_12 : decode cX10_told 12 = .ok (.iload_n 2, 1) := by decide +kernel
theorem dX10_told_13 : decode cX10_told 13 = .ok (.iconst 2, 1) := by decide +kernel
theorem dX10_told_14 : decode cX10_told 14 = .ok (.if_icmp .le 15, 3) := by decide +kernel
theorem dX10_told_17 : decode cX10_told 17 = .ok (.aload_n 0, 1) := by decide +kernel
theorem dX10_told_18 : decode cX10_told 18 = .ok (.iload_n 1, 1) := by decide +kernel
theorem dX10_told_19 : decode cX10_told 19 = .ok (.invokevirtual 88, 3) := by decide +kernel
theorem dX10_told_22 : decode cX10_told 22 = .ok (.ifCond .ne 7, 3) := by decide +kernel
theorem dX10_told_25 : decode cX10_told 25 = .ok (.sipush (-1000), 3) := by decide +kernel
theorem dX10_told_28 : decode cX10_told 28 = .ok (.ireturn, 1) := by decide +kernel
theorem dX10_told_29 : decode cX10_told 29 = .ok (.iload_n 2, 1) := by decide +kernel
theorem dX10_told_30 : decode cX10_told 30 = .ok (.bipush 7, 2) := by decide +kernel
theorem dX10_told_32 : decode cX10_told 32 = .ok (.if_icmp .ge 45, 3) := by decide +kernel
theorem dX10_told_35 : decode cX10_told 35 = .ok (.iload_n 2, 1) := by decide +kernel
theorem dX10_told_36 : decode cX10_told 36 = .ok (.iconst 3, 1) := by decide +kernel
theorem dX10_told_37 : decode cX10_told 37 = .ok (.if_icmp .ge 12, 3) := by decide +kernel
theorem dX10_told_40 : decode cX10_told 40 = .ok (.aload_n 0, 1) := by decide +kernel
theorem dX10_told_41 : decode cX10_told 41 = .ok (.getfield 23, 3) := by decide +kernel
theorem dX10_told_44 : decode cX10_told 44 = .ok (.iload_n 2, 1) := by decide +kernel
theorem dX10_told_45 : decode cX10_told 45 = .ok (.iaload, 1) := by decide +kernel
theorem dX10_told_46 : decode cX10_told 46 = .ok (.goto 30, 3) := by decide +kernel
theorem dX10_told_49 : decode cX10_told 49 = .ok (.iload_n 2, 1) := by decide +kernel
theorem dX10_told_50 : decode cX10_told 50 = .ok (.bipush 6, 2) := by decide +kernel
theorem dX10_told_52 : decode cX10_told 52 = .ok (.if_icmp .ge 18, 3) := by decide +kernel
theorem dX10_told_55 : decode cX10_told 55 = .ok (.aload_n 0, 1) := by decide +kernel
theorem dX10_told_56 : decode cX10_told 56 = .ok (.getfield 29, 3) := by decide +kernel
theorem dX10_told_59 : decode cX10_told 59 = .ok (.iconst 3, 1) := by decide +kernel
theorem dX10_told_60 : decode cX10_told 60 = .ok (.iload_n 1, 1) := by decide +kernel
theorem dX10_told_61 : decode cX10_told 61 = .ok (.imul, 1) := by decide +kernel
theorem dX10_told_62 : decode cX10_told 62 = .ok (.iload_n 2, 1) := by decide +kernel
theorem dX10_told_63 : decode cX10_told 63 = .ok (.iadd, 1) := by decide +kernel
theorem dX10_told_64 : decode cX10_told 64 = .ok (.iconst 3, 1) := by decide +kernel
theorem dX10_told_65 : decode cX10_told 65 = .ok (.isub, 1) := by decide +kernel
theorem dX10_told_66 : decode cX10_told 66 = .ok (.iaload, 1) := by decide +kernel
theorem dX10_told_67 : decode cX10_told 67 = .ok (.goto 9, 3) := by decide +kernel
theorem dX10_told_70 : decode cX10_told 70 = .ok (.aload_n 0, 1) := by decide +kernel
theorem dX10_told_71 : decode cX10_told 71 = .ok (.getfield 26, 3) := by decide +kernel
theorem dX10_told_74 : decode cX10_told 74 = .ok (.iload_n 1, 1) := by decide +kernel
theorem dX10_told_75 : decode cX10_told 75 = .ok (.iaload, 1) := by decide +kernel
theorem dX10_told_76 : decode cX10_told 76 = .ok (.ireturn, 1) := by decide +kernel
theorem dX10_told_77 : decode cX10_told 77 = .ok (.aload_n 0, 1) := by decide +kernel
theorem dX10_told_78 : decode cX10_told 78 = .ok (.invokevirtual 113, 3) := by decide +kernel
theorem dX10_told_81 : decode cX10_told 81 = .ok (.aload_n 0, 1) := by decide +kernel
theorem dX10_told_82 : decode cX10_told 82 = .ok (.iload_n 1, 1) := by decide +kernel
theorem dX10_told_83 : decode cX10_told 83 = .ok (.iconst 0, 1) := by decide +kernel
theorem dX10_told_84 : decode cX10_told 84 = .ok (.invokevirtual 116, 3) := by decide +kernel
theorem dX10_told_87 : decode cX10_told 87 = .ok (.iload_n 2, 1) := by decide +kernel
theorem dX10_told_88 : decode cX10_told 88 = .ok (.bipush 7, 2) := by decide +kernel
theorem dX10_told_90 : decode cX10_told 90 = .ok (.if_icmp .ne 12, 3) := by decide +kernel
theorem dX10_told_93 : decode cX10_told 93 = .ok (.aload_n 0, 1) := by decide +kernel
theorem dX10_told_94 : decode cX10_told 94 = .ok (.iload_n 1, 1) := by decide +kernel
theorem dX10_told_95 : decode cX10_told 95 = .ok (.iconst 0, 1) := by decide +kernel
theorem dX10_told_96 : decode cX10_told 96 = .ok (.invokevirtual 120, 3) := by decide +kernel
theorem dX10_told_99 : decode cX10_told 99 = .ok (.goto 9, 3) := by decide +kernel
theorem dX10_told_102 : decode cX10_told 102 = .ok (.aload_n 0, 1) := by decide +kernel
theorem dX10_told_103 : decode cX10_told 103 = .ok (.iload_n 1, 1) := by decide +kernel
theorem dX10_told_104 : decode cX10_told 104 = .ok (.iconst 0, 1) := by decide +kernel
theorem dX10_told_105 : decode cX10_told 105 = .ok (.invokevirtual 124, 3) := by decide +kernel
theorem dX10_told_108 : decode cX10_told 108 = .ok (.ireturn, 1) := by decide +kernel
theorem dX10_feed_0 : decode cX10_feed 0 = .ok (.iload_n 1, 1) := by decide +kernel
theorem dX10_feed_1 : decode cX10_feed 1 = .ok (.i2l, 1) := by decide +kernel
theorem dX10_feed_2 : decode cX10_feed 2 = .ok (.lconst 0, 1) := by decide +kernel
theorem dX10_feed_3 : decode cX10_feed 3 = .ok (.ldc2_w 127, 3) := by decide +kernel
theorem dX10_feed_6 : decode cX10_feed 6 = .ok (.invokestatic 82, 3) := by decide +kernel
theorem dX10_feed_9 : decode cX10_feed 9 = .ok (.ifCond .ne 6, 3) := by decide +kernel
theorem dX10_feed_12 : decode cX10_feed 12 = .ok (.bipush (-2), 2) := by decide +kernel
theorem dX10_feed_14 : decode cX10_feed 14 = .ok (.ireturn, 1) := by decide +kernel
theorem dX10_feed_15 : decode cX10_feed 15 = .ok (.aload_n 0, 1) := by decide +kernel
theorem dX10_feed_16 : decode cX10_feed 16 = .ok (.getfield 129, 3) := by decide +kernel
theorem dX10_feed_19 : decode cX10_feed 19 = .ok (.sipush 160, 3) := by decide +kernel
theorem dX10_feed_22 : decode cX10_feed 22 = .ok (.if_icmp .ne 6, 3) := by decide +kernel
theorem dX10_feed_25 : decode cX10_feed 25 = .ok (.bipush (-4), 2) := by decide +kernel
theorem dX10_feed_27 : decode cX10_feed 27 = .ok (.ireturn, 1) := by decide +kernel
theorem dX10_feed_28 : decode cX10_feed 28 = .ok (.aload_n 0, 1) := by decide +kernel
theorem dX10_feed_29 : decode cX10_feed 29 = .ok (.getfield 20, 3) := by decide +kernel
theorem dX10_feed_32 : decode cX10_feed 32 = .ok (.aload_n 0, 1) := by decide +kernel
theorem dX10_feed_33 : decode cX10_feed 33 = .ok (.getfield 129, 3) := by decide +kernel
theorem dX10_feed_36 : decode cX10_feed 36 = .ok (.iload_n 1, 1) := by decide +kernel
theorem dX10_feed_37 : decode cX10_feed 37 = .ok (.iastore, 1) := by decide +kernel
theorem dX10_feed_38 : decode cX10_feed 38 = .ok (.aload_n 0, 1) := by decide +kernel
theorem dX10_feed_39 : decode cX10_feed 39 = .ok (.dup, 1) := by decide +kernel
theorem dX10_feed_40 : decode cX10_feed 40 = .ok (.getfield 129, 3) := by decide +kernel
theorem dX10_feed_43 : decode cX10_feed 43 = .ok (.iconst 1, 1) := by decide +kernel
theorem dX10_feed_44 : decode cX10_feed 44 = .ok (.iadd, 1) := by decide +kernel
theorem dX10_feed_45 : decode cX10_feed 45 = .ok (.putfield 129, 3) := by decide +kernel
theorem dX10_feed_48 : decode cX10_feed 48 = .ok (.aload_n 0, 1) := by decide +kernel
theorem dX10_feed_49 : decode cX10_feed 49 = .ok (.getfield 129, 3) := by decide +kernel
theorem dX10_feed_52 : decode cX10_feed 52 = .ok (.ireturn, 1) := by decide +kernel
theorem dX10_byteAt_0 : decode cX10_byteAt 0 = .ok (.iload_n 1, 1) := by decide +kernel
theorem dX10_byteAt_1 : decode cX10_byteAt 1 = .ok (.aload_n 0, 1) := by decide +kernel
theorem dX10_byteAt_2 : decode cX10_byteAt 2 = .ok (.getfield 132, 3) := by decide +kernel
theorem dX10_byteAt_5 : decode cX10_byteAt 5 = .ok (.if_icmp .ge 17, 3) := by decide +kernel
theorem dX10_byteAt_8 : decode cX10_byteAt 8 = .ok (.aload_n 0, 1) := by decide +kernel
theorem dX10_byteAt_9 : decode cX10_byteAt 9 = .ok (.getfield 13, 3) := by decide +kernel
theorem dX10_byteAt_12 : decode cX10_byteAt 12 = .ok (.aload_n 0, 1) := by decide +kernel
theorem dX10_byteAt_13 : decode cX10_byteAt 13 = .ok (.getfield 135, 3) := by decide +kernel
theorem dX10_byteAt_16 : decode cX10_byteAt 16 = .ok (.iload_n 1, 1) := by decide +kernel
theorem dX10_byteAt_17 : decode cX10_byteAt 17 = .ok (.iadd, 1) := by decide +kernel
theorem dX10_byteAt_18 : decode cX10_byteAt 18 = .ok (.iaload, 1) := by decide +kernel
theorem dX10_byteAt_19 : decode cX10_byteAt 19 = .ok (.goto 4, 3) := by decide +kernel
theorem dX10_byteAt_22 : decode cX10_byteAt 22 = .ok (.iconst (-1), 1) := by decide +kernel
theorem dX10_byteAt_23 : decode cX10_byteAt 23 = .ok (.ireturn, 1) := by decide +kernel
theorem dX10_next_0 : decode cX10_next 0 = .ok (.aload_n 0, 1) := by decide +kernel
theorem dX10_next_1 : decode cX10_next 1 = .ok (.aload_n 0, 1) := by decide +kernel
theorem dX10_next_2 : decode cX10_next 2 = .ok (.getfield 138, 3) := by decide +kernel
theorem dX10_next_5 : decode cX10_next 5 = .ok (.invokevirtual 141, 3) := by decide +kernel
theorem dX10_next_8 : decode cX10_next 8 = .ok (.bipush 32, 2) := by decide +kernel
theorem dX10_next_10 : decode cX10_next 10 = .ok (.if_icmp .eq 16, 3) := by decide +kernel
theorem dX10_next_13 : decode cX10_next 13 = .ok (.aload_n 0, 1) := by decide +kernel
theorem dX10_next_14 : decode cX10_next 14 = .ok (.aload_n 0, 1) := by decide +kernel
theorem dX10_next_15 : decode cX10_next 15 = .ok (.getfield 138, 3) := by decide +kernel
theorem dX10_next_18 : decode cX10_next 18 = .ok (.invokevirtual 141, 3) := by decide +kernel
theorem dX10_next_21 : decode cX10_next 21 = .ok (.bipush 10, 2) := by decide +kernel
theorem dX10_next_23 : decode cX10_next 23 = .ok (.if_icmp .ne 16, 3) := by decide +kernel
theorem dX10_next_26 : decode cX10_next 26 = .ok (.aload_n 0, 1) := by decide +kernel
theorem dX10_next_27 : decode cX10_next 27 = .ok (.dup, 1) := by decide +kernel
theorem dX10_next_28 : decode cX10_next 28 = .ok (.getfield 138, 3) := by decide +kernel
theorem dX10_next_31 : decode cX10_next 31 = .ok (.iconst 1, 1) := by decide +kernel
theorem dX10_next_32 : decode cX10_next 32 = .ok (.iadd, 1) := by decide +kernel
theorem dX10_next_33 : decode cX10_next 33 = .ok (.putfield 138, 3) := by decide +kernel
theorem dX10_next_36 : decode cX10_next 36 = .ok (.goto (-36), 3) := by decide +kernel
theorem dX10_next_39 : decode cX10_next 39 = .ok (.aload_n 0, 1) := by decide +kernel
theorem dX10_next_40 : decode cX10_next 40 = .ok (.aload_n 0, 1) := by decide +kernel
theorem dX10_next_41 : decode cX10_next 41 = .ok (.getfield 138, 3) := by decide +kernel
theorem dX10_next_44 : decode cX10_next 44 = .ok (.putfield 144, 3) := by decide +kernel
theorem dX10_next_47 : decode cX10_next 47 = .ok (.aload_n 0, 1) := by decide +kernel
theorem dX10_next_48 : decode cX10_next 48 = .ok (.aload_n 0, 1) := by decide +kernel
theorem dX10_next_49 : decode cX10_next 49 = .ok (.getfield 138, 3) := by decide +kernel
theorem dX10_next_52 : decode cX10_next 52 = .ok (.invokevirtual 141, 3) := by decide +kernel
theorem dX10_next_55 : decode cX10_next 55 = .ok (.istore_n 1, 1) := by decide +kernel
theorem dX10_next_56 : decode cX10_next 56 = .ok (.aload_n 0, 1) := by decide +kernel
theorem dX10_next_57 : decode cX10_next 57 = .ok (.iconst 4, 1) := by decide +kernel
theorem dX10_next_58 : decode cX10_next 58 = .ok (.putfield 147, 3) := by decide +kernel
theorem dX10_next_61 : decode cX10_next 61 = .ok (.iload_n 1, 1) := by decide +kernel
theorem dX10_next_62 : decode cX10_next 62 = .ok (.ifCond .ge 19, 3) := by decide +kernel
theorem dX10_next_65 : decode cX10_next 65 = .ok (.aload_n 0, 1) := by decide +kernel
theorem dX10_next_66 : decode cX10_next 66 = .ok (.iconst 0, 1) := by decide +kernel
theorem dX10_next_67 : decode cX10_next 67 = .ok (.putfield 147, 3) := by decide +kernel
theorem dX10_next_70 : decode cX10_next 70 = .ok (.aload_n 0, 1) := by decide +kernel
theorem dX10_next_71 : decode cX10_next 71 = .ok (.aload_n 0, 1) := by decide +kernel
theorem dX10_next_72 : decode cX10_next 72 = .ok (.getfield 132, 3) := by decide +kernel
theorem dX10_next_75 : decode cX10_next 75 = .ok (.putfield 144, 3) := by decide +kernel
theorem dX10_next_78 : decode cX10_next 78 = .ok (.goto 243, 3) := by decide +kernel
theorem dX10_next_81 : decode cX10_next 81 = .ok (.iload_n 1, 1) := by decide +kernel
theorem dX10_next_82 : decode cX10_next 82 = .ok (.i2l, 1) := by decide +kernel
theorem dX10_next_83 : decode cX10_next 83 = .ok (.ldc2_w 150, 3) := by decide +kernel
theorem dX10_next_86 : decode cX10_next 86 = .ok (.ldc2_w 152, 3) := by decide +kernel
theorem dX10_next_89 : decode cX10_next 89 = .ok (.invokestatic 82, 3) := by decide +kernel
theorem dX10_next_92 : decode cX10_next 92 = .ok (.ifCond .eq 42, 3) := by decide +kernel
theorem dX10_next_95 : decode cX10_next 95 = .ok (.aload_n 0, 1) := by decide +kernel
theorem dX10_next_96 : decode cX10_next 96 = .ok (.iconst 1, 1) := by decide +kernel
theorem dX10_next_97 : decode cX10_next 97 = .ok (.putfield 147, 3) := by decide +kernel
theorem dX10_next_100 : decode cX10_next 100 = .ok (.aload_n 0, 1) := by decide +kernel
theorem dX10_next_101 : decode cX10_next 101 = .ok (.aload_n 0, 1) := by decide +kernel
theorem dX10_next_102 : decode cX10_next 102 = .ok (.getfield 138, 3) := by decide +kernel
theorem dX10_next_105 : decode cX10_next 105 = .ok (.invokevirtual 141, 3) := by decide +kernel
theorem dX10_next_108 : decode cX10_next 108 = .ok (.i2l, 1) := by decide +kernel
theorem dX10_next_109 : decode cX10_next 109 = .ok (.ldc2_w 150, 3) := by decide +kernel
theorem dX10_next_112 : decode cX10_next 112 = .ok (.ldc2_w 152, 3) := by decide +kernel
theorem dX10_next_115 : decode cX10_next 115 = .ok (.invokestatic 82, 3) := by decide +kernel
theorem dX10_next_118 : decode cX10_next 118 = .ok (.ifCond .eq 203, 3) := by decide +kernel
theorem dX10_next_121 : decode cX10_next 121 = .ok (.aload_n 0, 1) := by decide +kernel
theorem dX10_next_122 : decode cX10_next 122 = .ok (.dup, 1) := by decide +kernel
theorem dX10_next_123 : decode cX10_next 123 = .ok (.getfield 138, 3) := by decide +kernel
theorem dX10_next_126 : decode cX10_next 126 = .ok (.iconst 1, 1) := by decide +kernel
theorem dX10_next_127 : decode cX10_next 127 = .ok (.iadd, 1) := by decide +kernel
theorem dX10_next_128 : decode cX10_next 128 = .ok (.putfield 138, 3) := by decide +kernel
theorem dX10_next_131 : decode cX10_next 131 = .ok (.goto (-31), 3) := by decide +kernel
theorem dX10_next_134 : decode cX10_next 134 = .ok (.iload_n 1, 1) := by decide +kernel
theorem dX10_next_135 : decode cX10_next 135 = .ok (.i2l, 1) := by decide +kernel
theorem dX10_next_136 : decode cX10_next 136 = .ok (.ldc2_w 154, 3) := by decide +kernel
theorem dX10_next_139 : decode cX10_next 139 = .ok (.ldc2_w 156, 3) := by decide +kernel
theorem dX10_next_142 : decode cX10_next 142 = .ok (.invokestatic 82, 3) := by decide +kernel
theorem dX10_next_145 : decode cX10_next 145 = .ok (.ifCond .eq 107, 3) := by decide +kernel
theorem dX10_next_148 : decode cX10_next 148 = .ok (.aload_n 0, 1) := by decide +kernel
theorem dX10_next_149 : decode cX10_next 149 = .ok (.iconst 2, 1) := by decide +kernel
theorem dX10_next_150 : decode cX10_next 150 = .ok (.putfield 147, 3) := by decide +kernel
theorem dX10_next_153 : decode cX10_next 153 = .ok (.aload_n 0, 1) := by decide +kernel
theorem dX10_next_154 : decode cX10_next 154 = .ok (.lconst 0, 1) := by decide +kernel
theorem dX10_next_155 : decode cX10_next 155 = .ok (.putfield 158, 3) := by decide +kernel
theorem dX10_next_158 : decode cX10_next 158 = .ok (.iconst 0, 1) := by decide +kernel
theorem dX10_next_159 : decode cX10_next 159 = .ok (.istore_n 2, 1) := by decide +kernel
theorem dX10_next_160 : decode cX10_next 160 = .ok (.aload_n 0, 1) := by decide +kernel
theorem dX10_next_161 : decode cX10_next 161 = .ok (.aload_n 0, 1) := by decide +kernel
theorem dX10_next_162 : decode cX10_next 162 = .ok (.getfield 138, 3) := by decide +kernel
theorem dX10_next_165 : decode cX10_next 165 = .ok (.invokevirtual 141, 3) := by decide +kernel
theorem dX10_next_168 : decode cX10_next 168 = .ok (.i2l, 1) := by decide +kernel
theorem dX10_next_169 : decode cX10_next 169 = .ok (.ldc2_w 154, 3) := by decide +kernel
theorem dX10_next_172 : decode cX10_next 172 = .ok (.ldc2_w 156, 3) := by decide +kernel
theorem dX10_next_175 : decode cX10_next 175 = .ok (.invokestatic 82, 3) := by decide +kernel
theorem dX10_next_178 : decode cX10_next 178 = .ok (.ifCond .eq 57, 3) := by decide +kernel
theorem dX10_next_181 : decode cX10_next 181 = .ok (.aload_n 0, 1) := by decide +kernel
theorem dX10_next_182 : decode cX10_next 182 = .ok (.iload_n 2, 1) := by decide +kernel
theorem dX10_next_183 : decode cX10_next 183 = .ok (.iconst 4, 1) := by decide +kernel
theorem dX10_next_184 : decode cX10_next 184 = .ok (.if_icmp .ge 28, 3) := by decide +kernel
theorem dX10_next_187 : decode cX10_next 187 = .ok (.ldc2_w 162, 3) := by decide +kernel
theorem dX10_next_190 : decode cX10_next 190 = .ok (.aload_n 0, 1) := by decide +kernel
theorem dX10_next_191 : decode cX10_next 191 = .ok (.getfield 158, 3) := by decide +kernel
theorem dX10_next_194 : decode cX10_next 194 = .ok (.lmul, 1) := by decide +kernel
theorem dX10_next_195 : decode cX10_next 195 = .ok (.aload_n 0, 1) := by decide +kernel
theorem dX10_next_196 : decode cX10_next 196 = .ok (.aload_n 0, 1) := by decide +kernel
theorem dX10_next_197 : decode cX10_next 197 = .ok (.getfield 138, 3) := by decide +kernel
theorem dX10_next_200 : decode cX10_next 200 = .ok (.invokevirtual 141, 3) := by decide +kernel
theorem dX10_next_203 : decode cX10_next 203 = .ok (.i2l, 1) := by decide +kernel
theorem dX10_next_204 : decode cX10_next 204 = .ok (.ladd, 1) := by decide +kernel
theorem dX10_next_205 : decode cX10_next 205 = .ok (.ldc2_w 154, 3) := by decide +kernel
theorem dX10_next_208 : decode cX10_next 208 = .ok (.lsub, 1) := by decide +kernel
theorem dX10_next_209 : decode cX10_next 209 = .ok (.goto 7, 3) := by decide +kernel
theorem dX10_next_212 : decode cX10_next 212 = .ok (.aload_n 0, 1) := by decide +kernel
theorem dX10_next_213 : decode cX10_next 213 = .ok (.getfield 158, 3) := by decide +kernel
theorem dX10_next_216 : decode cX10_next 216 = .ok (.putfield 158, 3) := by decide +kernel
theorem dX10_next_219 : decode cX10_next 219 = .ok (.iinc 2 1, 3) := by decide +kernel
theorem dX10_next_222 : decode cX10_next 222 = .ok (.aload_n 0, 1) := by decide +kernel
theorem dX10_next_223 : decode cX10_next 223 = .ok (.dup, 1) := by decide +kernel
theorem dX10_next_224 : decode cX10_next 224 = .ok (.getfield 138, 3) := by decide +kernel
theorem dX10_next_227 : decode cX10_next 227 = .ok (.iconst 1, 1) := by decide +kernel
theorem dX10_next_228 : decode cX10_next 228 = .ok (.iadd, 1) := by decide +kernel
theorem dX10_next_229 : decode cX10_next 229 = .ok (.putfield 138, 3) := by decide +kernel
theorem dX10_next_232 : decode cX10_next 232 = .ok (.goto (-72), 3) := by decide +kernel
theorem dX10_next_235 : decode cX10_next 235 = .ok (.aload_n 0, 1) := by decide +kernel
theorem dX10_next_236 : decode cX10_next 236 = .ok (.iload_n 2, 1) := by decide +kernel
theorem dX10_next_237 : decode cX10_next 237 = .ok (.iconst 4, 1) := by decide +kernel
theorem dX10_next_238 : decode cX10_next 238 = .ok (.if_icmp .le 7, 3) := by decide +kernel
theorem dX10_next_241 : decode cX10_next 241 = .ok (.iconst 4, 1) := by decide +kernel
theorem dX10_next_242 : decode cX10_next 242 = .ok (.goto 4, 3) := by decide +kernel
theorem dX10_next_245 : decode cX10_next 245 = .ok (.iconst 2, 1) := by decide +kernel
theorem dX10_next_246 : decode cX10_next 246 = .ok (.putfield 147, 3) := by decide +kernel
theorem dX10_next_249 : decode cX10_next 249 = .ok (.goto 72, 3) := by decide +kernel
theorem dX10_next_252 : decode cX10_next 252 = .ok (.iload_n 1, 1) := by decide +kernel
theorem dX10_next_253 : decode cX10_next 253 = .ok (.bipush 40, 2) := by decide +kernel
theorem dX10_next_255 : decode cX10_next 255 = .ok (.if_icmp .eq 45, 3) := by decide +kernel
theorem dX10_next_258 : decode cX10_next 258 = .ok (.iload_n 1, 1) := by decide +kernel
theorem dX10_next_259 : decode cX10_next 259 = .ok (.bipush 41, 2) := by decide +kernel
theorem dX10_next_261 : decode cX10_next 261 = .ok (.if_icmp .eq 39, 3) := by decide +kernel
theorem dX10_next_264 : decode cX10_next 264 = .ok (.iload_n 1, 1) := by decide +kernel
theorem dX10_next_265 : decode cX10_next 265 = .ok (.bipush 59, 2) := by decide +kernel
theorem dX10_next_267 : decode cX10_next 267 = .ok (.if_icmp .eq 33, 3) := by decide +kernel
theorem dX10_next_270 : decode cX10_next 270 = .ok (.iload_n 1, 1) := by decide +kernel
theorem dX10_next_271 : decode cX10_next 271 = .ok (.bipush 43, 2) := by decide +kernel
theorem dX10_next_273 : decode cX10_next 273 = .ok (.if_icmp .eq 27, 3) := by decide +kernel
theorem dX10_next_276 : decode cX10_next 276 = .ok (.iload_n 1, 1) := by decide +kernel
theorem dX10_next_277 : decode cX10_next 277 = .ok (.bipush 45, 2) := by decide +kernel
theorem dX10_next_279 : decode cX10_next 279 = .ok (.if_icmp .eq 21, 3) := by decide +kernel
theorem dX10_next_282 : decode cX10_next 282 = .ok (.iload_n 1, 1) := by decide +kernel
theorem dX10_next_283 : decode cX10_next 283 = .ok (.bipush 42, 2) := by decide +kernel
theorem dX10_next_285 : decode cX10_next 285 = .ok (.if_icmp .eq 15, 3) := by decide +kernel
theorem dX10_next_288 : decode cX10_next 288 = .ok (.iload_n 1, 1) := by decide +kernel
theorem dX10_next_289 : decode cX10_next 289 = .ok (.bipush 60, 2) := by decide +kernel
theorem dX10_next_291 : decode cX10_next 291 = .ok (.if_icmp .eq 9, 3) := by decide +kernel
theorem dX10_next_294 : decode cX10_next 294 = .ok (.iload_n 1, 1) := by decide +kernel
theorem dX10_next_295 : decode cX10_next 295 = .ok (.bipush 61, 2) := by decide +kernel
theorem dX10_next_297 : decode cX10_next 297 = .ok (.if_icmp .ne 24, 3) := by decide +kernel
theorem dX10_next_300 : decode cX10_next 300 = .ok (.aload_n 0, 1) := by decide +kernel
theorem dX10_next_301 : decode cX10_next 301 = .ok (.iconst 3, 1) := by decide +kernel
theorem dX10_next_302 : decode cX10_next 302 = .ok (.putfield 147, 3) := by decide +kernel
theorem dX10_next_305 : decode cX10_next 305 = .ok (.aload_n 0, 1) := by decide +kernel
theorem dX10_next_306 : decode cX10_next 306 = .ok (.iload_n 1, 1) := by decide +kernel
theorem dX10_next_307 : decode cX10_next 307 = .ok (.i2l, 1) := by decide +kernel
theorem dX10_next_308 : decode cX10_next 308 = .ok (.putfield 158, 3) := by decide +kernel
theorem dX10_next_311 : decode cX10_next 311 = .ok (.aload_n 0, 1) := by decide +kernel
theorem dX10_next_312 : decode cX10_next 312 = .ok (.dup, 1) := by decide +kernel
theorem dX10_next_313 : decode cX10_next 313 = .ok (.getfield 138, 3) := by decide +kernel
theorem dX10_next_316 : decode cX10_next 316 = .ok (.iconst 1, 1) := by decide +kernel
theorem dX10_next_317 : decode cX10_next 317 = .ok (.iadd, 1) := by decide +kernel
theorem dX10_next_318 : decode cX10_next 318 = .ok (.putfield 138, 3) := by decide +kernel
theorem dX10_next_321 : decode cX10_next 321 = .ok (.return_, 1) := by decide +kernel
theorem dX10_fail_0 : decode cX10_fail 0 = .ok (.aload_n 0, 1) := by decide +kernel
theorem dX10_fail_1 : decode cX10_fail 1 = .ok (.getfield 164, 3) := by decide +kernel
theorem dX10_fail_4 : decode cX10_fail 4 = .ok (.ifCond .ne 16, 3) := by decide +kernel
theorem dX10_fail_7 : decode cX10_fail 7 = .ok (.aload_n 0, 1) := by decide +kernel
theorem dX10_fail_8 : decode cX10_fail 8 = .ok (.iconst 1, 1) := by decide +kernel
theorem dX10_fail_9 : decode cX10_fail 9 = .ok (.putfield 164, 3) := by decide +kernel
theorem dX10_fail_12 : decode cX10_fail 12 = .ok (.aload_n 0, 1) := by decide +kernel
theorem dX10_fail_13 : decode cX10_fail 13 = .ok (.aload_n 0, 1) := by decide +kernel
theorem dX10_fail_14 : decode cX10_fail 14 = .ok (.getfield 144, 3) := by decide +kernel
theorem dX10_fail_17 : decode cX10_fail 17 = .ok (.putfield 168, 3) := by decide +kernel
theorem dX10_fail_20 : decode cX10_fail 20 = .ok (.return_, 1) := by decide +kernel
theorem dX10_isLetter_0 : decode cX10_isLetter 0 = .ok (.aload_n 0, 1) := by decide +kernel
theorem dX10_isLetter_1 : decode cX10_isLetter 1 = .ok (.getfield 144, 3) := by decide +kernel
theorem dX10_isLetter_4 : decode cX10_isLetter 4 = .ok (.iload_n 1, 1) := by decide +kernel
theorem dX10_isLetter_5 : decode cX10_isLetter 5 = .ok (.iadd, 1) := by decide +kernel
theorem dX10_isLetter_6 : decode cX10_isLetter 6 = .ok (.aload_n 0, 1) := by decide +kernel
theorem dX10_isLetter_7 : decode cX10_isLetter 7 = .ok (.getfield 138, 3) := by decide +kernel
theorem dX10_isLetter_10 : decode cX10_isLetter 10 = .ok (.if_icmp .ge 25, 3) := by decide +kernel
theorem dX10_isLetter_13 : decode cX10_isLetter 13 = .ok (.aload_n 0, 1) := by decide +kernel
theorem dX10_isLetter_14 : decode cX10_isLetter 14 = .ok (.aload_n 0, 1) := by decide +kernel
theorem dX10_isLetter_15 : decode cX10_isLetter 15 = .ok (.getfield 144, 3) := by decide +kernel
theorem dX10_isLetter_18 : decode cX10_isLetter 18 = .ok (.iload_n 1, 1) := by decide +kernel
theorem dX10_isLetter_19 : decode cX10_isLetter 19 = .ok (.iadd, 1) := by decide +kernel
theorem dX10_isLetter_20 : decode cX10_isLetter 20 = .ok (.invokevirtual 141, 3) := by decide +kernel
theorem dX10_isLetter_23 : decode cX10_isLetter 23 = .ok (.iload_n 2, 1) := by decide +kernel
theorem dX10_isLetter_24 : decode cX10_isLetter 24 = .ok (.if_icmp .ne 7, 3) := by decide +kernel
theorem dX10_isLetter_27 : decode cX10_isLetter 27 = .ok (.iconst 1, 1) := by decide +kernel
theorem dX10_isLetter_28 : decode cX10_isLetter 28 = .ok (.goto 16, 3) := by decide +kernel
theorem dX10_isLetter_31 : decode cX10_isLetter 31 = .ok (.iconst 0, 1) := by decide +kernel
theorem dX10_isLetter_32 : decode cX10_isLetter 32 = .ok (.goto 12, 3) := by decide +kernel
theorem dX10_isLetter_35 : decode cX10_isLetter 35 = .ok (.iload_n 2, 1) := by decide +kernel
theorem dX10_isLetter_36 : decode cX10_isLetter 36 = .ok (.ifCond .ne 7, 3) := by decide +kernel
theorem dX10_isLetter_39 : decode cX10_isLetter 39 = .ok (.iconst 1, 1) := by decide +kernel
theorem dX10_isLetter_40 : decode cX10_isLetter 40 = .ok (.goto 4, 3) := by decide +kernel
theorem dX10_isLetter_43 : decode cX10_isLetter 43 = .ok (.iconst 0, 1) := by decide +kernel
theorem dX10_isLetter_44 : decode cX10_isLetter 44 = .ok (.ireturn, 1) := by decide +kernel
theorem dX10_isWord_0 : decode cX10_isWord 0 = .ok (.aload_n 0, 1) := by decide +kernel
theorem dX10_isWord_1 : decode cX10_isWord 1 = .ok (.getfield 164, 3) := by decide +kernel
theorem dX10_isWord_4 : decode cX10_isWord 4 = .ok (.ifCond .ne 108, 3) := by decide +kernel
theorem dX10_isWord_7 : decode cX10_isWord 7 = .ok (.aload_n 0, 1) := by decide +kernel
theorem dX10_isWord_8 : decode cX10_isWord 8 = .ok (.getfield 147, 3) := by decide +kernel
theorem dX10_isWord_11 : decode cX10_isWord 11 = .ok (.iconst 1, 1) := by decide +kernel
theorem dX10_isWord_12 : decode cX10_isWord 12 = .ok (.if_icmp .ne 100, 3) := by decide +kernel
theorem dX10_isWord_15 : decode cX10_isWord 15 = .ok (.aload_n 0, 1) := by decide +kernel
theorem dX10_isWord_16 : decode cX10_isWord 16 = .ok (.getfield 138, 3) := by decide +kernel
theorem dX10_isWord_19 : decode cX10_isWord 19 = .ok (.aload_n 0, 1) := by decide +kernel
theorem dX10_isWord_20 : decode cX10_isWord 20 = .ok (.getfield 144, 3) := by decide +kernel
theorem dX10_isWord_23 : decode cX10_isWord 23 = .ok (.bipush 8, 2) := by decide +kernel
theorem dX10_isWord_25 : decode cX10_isWord 25 = .ok (.iadd, 1) := by decide +kernel
theorem dX10_isWord_26 : decode cX10_isWord 26 = .ok (.if_icmp .gt 86, 3) := by decide +kernel
theorem dX10_isWord_29 : decode cX10_isWord 29 = .ok (.aload_n 0, 1) := by decide +kernel
theorem dX10_isWord_30 : decode cX10_isWord 30 = .ok (.iconst 0, 1) := by decide +kernel
theorem dX10_isWord_31 : decode cX10_isWord 31 = .ok (.iload_n 1, 1) := by decide +kernel
theorem dX10_isWord_32 : decode cX10_isWord 32 = .ok (.invokevirtual 171, 3) := by decide +kernel
theorem dX10_isWord_35 : decode cX10_isWord 35 = .ok (.ifCond .eq 77, 3) := by decide +kernel
theorem dX10_isWord_38 : decode cX10_isWord 38 = .ok (.aload_n 0, 1) := by decide +kernel
theorem dX10_isWord_39 : decode cX10_isWord 39 = .ok (.iconst 1, 1) := by decide +kernel
theorem dX10_isWord_40 : decode cX10_isWord 40 = .ok (.iload_n 2, 1) := by decide +kernel
theorem dX10_isWord_41 : decode cX10_isWord 41 = .ok (.invokevirtual 171, 3) := by decide +kernel
theorem dX10_isWord_44 : decode cX10_isWord 44 = .ok (.ifCond .eq 68, 3) := by decide +kernel
theorem dX10_isWord_47 : decode cX10_isWord 47 = .ok (.aload_n 0, 1) := by decide +kernel
theorem dX10_isWord_48 : decode cX10_isWord 48 = .ok (.iconst 2, 1) := by decide +kernel
theorem dX10_isWord_49 : decode cX10_isWord 49 = .ok (.iload_n 3, 1) := by decide +kernel
theorem dX10_isWord_50 : decode cX10_isWord 50 = .ok (.invokevirtual 171, 3) := by decide +kernel
theorem dX10_isWord_53 : decode cX10_isWord 53 = .ok (.ifCond .eq 59, 3) := by decide +kernel
theorem dX10_isWord_56 : decode cX10_isWord 56 = .ok (.aload_n 0, 1) := by decide +kernel
theorem dX10_isWord_57 : decode cX10_isWord 57 = .ok (.iconst 3, 1) := by decide +kernel
theorem dX10_isWord_58 : decode cX10_isWord 58 = .ok (.iload 4, 2) := by decide +kernel
theorem dX10_isWord_60 : decode cX10_isWord 60 = .ok (.invokevirtual 171, 3) := by decide +kernel
theorem dX10_isWord_63 : decode cX10_isWord 63 = .ok (.ifCond .eq 49, 3) := by decide +kernel
theorem dX10_isWord_66 : decode cX10_isWord 66 = .ok (.aload_n 0, 1) := by decide +kernel
theorem dX10_isWord_67 : decode cX10_isWord 67 = .ok (.iconst 4, 1) := by decide +kernel
theorem dX10_isWord_68 : decode cX10_isWord 68 = .ok (.iload 5, 2) := by decide +kernel
theorem dX10_isWord_70 : decode cX10_isWord 70 = .ok (.invokevirtual 171, 3) := by decide +kernel
theorem dX10_isWord_73 : decode cX10_isWord 73 = .ok (.ifCond .eq 39, 3) := by decide +kernel
theorem dX10_isWord_76 : decode cX10_isWord 76 = .ok (.aload_n 0, 1) := by decide +kernel
theorem dX10_isWord_77 : decode cX10_isWord 77 = .ok (.iconst 5, 1) := by decide +kernel
theorem dX10_isWord_78 : decode cX10_isWord 78 = .ok (.iload 6, 2) := by decide +kernel
theorem dX10_isWord_80 : decode cX10_isWord 80 = .ok (.invokevirtual 171, 3) := by decide +kernel
theorem dX10_isWord_83 : decode cX10_isWord 83 = .ok (.ifCond .eq 29, 3) := by decide +kernel
theorem dX10_isWord_86 : decode cX10_isWord 86 = .ok (.aload_n 0, 1) := by decide +kernel
theorem dX10_isWord_87 : decode cX10_isWord 87 = .ok (.bipush 6, 2) := by decide +kernel
theorem dX10_isWord_89 : decode cX10_isWord 89 = .ok (.iload 7, 2) := by decide +kernel
theorem dX10_isWord_91 : decode cX10_isWord 91 = .ok (.invokevirtual 171, 3) := by decide +kernel
theorem dX10_isWord_94 : decode cX10_isWord 94 = .ok (.ifCond .eq 18, 3) := by decide +kernel
theorem dX10_isWord_97 : decode cX10_isWord 97 = .ok (.aload_n 0, 1) := by decide +kernel
theorem dX10_isWord_98 : decode cX10_isWord 98 = .ok (.bipush 7, 2) := by decide +kernel
theorem dX10_isWord_100 : decode cX10_isWord 100 = .ok (.iload 8, 2) := by decide +kernel
theorem dX10_isWord_102 : decode cX10_isWord 102 = .ok (.invokevirtual 171, 3) := by decide +kernel
theorem dX10_isWord_105 : decode cX10_isWord 105 = .ok (.ifCond .eq 7, 3) := by decide +kernel
theorem dX10_isWord_108 : decode cX10_isWord 108 = .ok (.iconst 1, 1) := by decide +kernel
theorem dX10_isWord_109 : decode cX10_isWord 109 = .ok (.goto 4, 3) := by decide +kernel
theorem dX10_isWord_112 : decode cX10_isWord 112 = .ok (.iconst 0, 1) := by decide +kernel
theorem dX10_isWord_113 : decode cX10_isWord 113 = .ok (.ireturn, 1) := by decide +kernel
theorem dX10_isSign_0 : decode cX10_isSign 0 = .ok (.aload_n 0, 1) := by decide +kernel
theorem dX10_isSign_1 : decode cX10_isSign 1 = .ok (.getfield 164, 3) := by decide +kernel
theorem dX10_isSign_4 : decode cX10_isSign 4 = .ok (.ifCond .ne 25, 3) := by decide +kernel
theorem dX10_isSign_7 : decode cX10_isSign 7 = .ok (.aload_n 0, 1) := by decide +kernel
theorem dX10_isSign_8 : decode cX10_isSign 8 = .ok (.getfield 147, 3) := by decide +kernel
theorem dX10_isSign_11 : decode cX10_isSign 11 = .ok (.iconst 3, 1) := by decide +kernel
theorem dX10_isSign_12 : decode cX10_isSign 12 = .ok (.if_icmp .ne 17, 3) := by decide +kernel
theorem dX10_isSign_15 : decode cX10_isSign 15 = .ok (.aload_n 0, 1) := by decide +kernel
theorem dX10_isSign_16 : decode cX10_isSign 16 = .ok (.getfield 158, 3) := by decide +kernel
theorem dX10_isSign_19 : decode cX10_isSign 19 = .ok (.iload_n 1, 1) := by decide +kernel
theorem dX10_isSign_20 : decode cX10_isSign 20 = .ok (.i2l, 1) := by decide +kernel
theorem dX10_isSign_21 : decode cX10_isSign 21 = .ok (.lcmp, 1) := by decide +kernel
theorem dX10_isSign_22 : decode cX10_isSign 22 = .ok (.ifCond .ne 7, 3) := by decide +kernel
theorem dX10_isSign_25 : decode cX10_isSign 25 = .ok (.iconst 1, 1) := by decide +kernel
theorem dX10_isSign_26 : decode cX10_isSign 26 = .ok (.goto 4, 3) := by decide +kernel
theorem dX10_isSign_29 : decode cX10_isSign 29 = .ok (.iconst 0, 1) := by decide +kernel
theorem dX10_isSign_30 : decode cX10_isSign 30 = .ok (.ireturn, 1) := by decide +kernel
theorem dX10_opens_0 : decode cX10_opens 0 = .ok (.aload_n 0, 1) := by decide +kernel
theorem dX10_opens_1 : decode cX10_opens 1 = .ok (.getfield 175, 3) := by decide +kernel
theorem dX10_opens_4 : decode cX10_opens 4 = .ok (.iconst 5, 1) := by decide +kernel
theorem dX10_opens_5 : decode cX10_opens 5 = .ok (.if_icmp .ne 9, 3) := by decide +kernel
theorem dX10_opens_8 : decode cX10_opens 8 = .ok (.aload_n 0, 1) := by decide +kernel
theorem dX10_opens_9 : decode cX10_opens 9 = .ok (.invokevirtual 178, 3) := by decide +kernel
theorem dX10_opens_12 : decode cX10_opens 12 = .ok (.iconst 0, 1) := by decide +kernel
theorem dX10_opens_13 : decode cX10_opens 13 = .ok (.ireturn, 1) := by decide +kernel
theorem dX10_opens_14 : decode cX10_opens 14 = .ok (.aload_n 0, 1) := by decide +kernel
theorem dX10_opens_15 : decode cX10_opens 15 = .ok (.dup, 1) := by decide +kernel
theorem dX10_opens_16 : decode cX10_opens 16 = .ok (.getfield 175, 3) := by decide +kernel
theorem dX10_opens_19 : decode cX10_opens 19 = .ok (.iconst 1, 1) := by decide +kernel
theorem dX10_opens_20 : decode cX10_opens 20 = .ok (.iadd, 1) := by decide +kernel
theorem dX10_opens_21 : decode cX10_opens 21 = .ok (.putfield 175, 3) := by decide +kernel
theorem dX10_opens_24 : decode cX10_opens 24 = .ok (.aload_n 0, 1) := by decide +kernel
theorem dX10_opens_25 : decode cX10_opens 25 = .ok (.invokevirtual 181, 3) := by decide +kernel
theorem dX10_opens_28 : decode cX10_opens 28 = .ok (.iconst 1, 1) := by decide +kernel
theorem dX10_opens_29 : decode cX10_opens 29 = .ok (.ireturn, 1) := by decide +kernel
theorem dX10_name_0 : decode cX10_name 0 = .ok (.aload_n 0, 1) := by decide +kernel
theorem dX10_name_1 : decode cX10_name 1 = .ok (.bipush 116, 2) := by decide +kernel
theorem dX10_name_3 : decode cX10_name 3 = .ok (.bipush 111, 2) := by decide +kernel
theorem dX10_name_5 : decode cX10_name 5 = .ok (.bipush 112, 2) := by decide +kernel
theorem dX10_name_7 : decode cX10_name 7 = .ok (.bipush 105, 2) := by decide +kernel
theorem dX10_name_9 : decode cX10_name 9 = .ok (.bipush 99, 2) := by decide +kernel
theorem dX10_name_11 : decode cX10_name 11 = .ok (.iconst 0, 1) := by decide +kernel
theorem dX10_name_12 : decode cX10_name 12 = .ok (.iconst 0, 1) := by decide +kernel
theorem dX10_name_13 : decode cX10_name 13 = .ok (.iconst 0, 1) := by decide +kernel
theorem dX10_name_14 : decode cX10_name 14 = .ok (.invokevirtual 184, 3) := by decide +kernel
theorem dX10_name_17 : decode cX10_name 17 = .ok (.ifCond .eq 8, 3) := by decide +kernel
theorem dX10_name_20 : decode cX10_name 20 = .ok (.aload_n 0, 1) := by decide +kernel
theorem dX10_name_21 : decode cX10_name 21 = .ok (.getfield 188, 3) := by decide +kernel
theorem dX10_name_24 : decode cX10_name 24 = .ok (.ireturn, 1) := by decide +kernel
theorem dX10_name_25 : decode cX10_name 25 = .ok (.aload_n 0, 1) := by decide +kernel
theorem dX10_name_26 : decode cX10_name 26 = .ok (.bipush 108, 2) := by decide +kernel
theorem dX10_name_28 : decode cX10_name 28 = .ok (.bipush 97, 2) := by decide +kernel
theorem dX10_name_30 : decode cX10_name 30 = .ok (.bipush 115, 2) := by decide +kernel
theorem dX10_name_32 : decode cX10_name 32 = .ok (.bipush 116, 2) := by decide +kernel
theorem dX10_name_34 : decode cX10_name 34 = .ok (.iconst 0, 1) := by decide +kernel
theorem dX10_name_35 : decode cX10_name 35 = .ok (.iconst 0, 1) := by decide +kernel
theorem dX10_name_36 : decode cX10_name 36 = .ok (.iconst 0, 1) := by decide +kernel
theorem dX10_name_37 : decode cX10_name 37 = .ok (.iconst 0, 1) := by decide +kernel
theorem dX10_name_38 : decode cX10_name 38 = .ok (.invokevirtual 184, 3) := by decide +kernel
theorem dX10_name_41 : decode cX10_name 41 = .ok (.ifCond .eq 8, 3) := by decide +kernel
theorem dX10_name_44 : decode cX10_name 44 = .ok (.aload_n 0, 1) := by decide +kernel
theorem dX10_name_45 : decode cX10_name 45 = .ok (.getfield 191, 3) := by decide +kernel
theorem dX10_name_48 : decode cX10_name 48 = .ok (.ireturn, 1) := by decide +kernel
theorem dX10_name_49 : decode cX10_name 49 = .ok (.aload_n 0, 1) := by decide +kernel
theorem dX10_name_50 : decode cX10_name 50 = .ok (.bipush 119, 2) := by decide +kernel
theorem dX10_name_52 : decode cX10_name 52 = .ok (.bipush 97, 2) := by decide +kernel
theorem dX10_name_54 : decode cX10_name 54 = .ok (.bipush 114, 2) := by decide +kernel
theorem dX10_name_56 : decode cX10_name 56 = .ok (.bipush 109, 2) := by decide +kernel
theorem dX10_name_58 : decode cX10_name 58 = .ok (.bipush 116, 2) := by decide +kernel
theorem dX10_name_60 : decode cX10_name 60 = .ok (.bipush 104, 2) := by decide +kernel
theorem dX10_name_62 : decode cX10_name 62 = .ok (.iconst 0, 1) := by decide +kernel
theorem dX10_name_63 : decode cX10_name 63 = .ok (.iconst 0, 1) := by decide +kernel
theorem dX10_name_64 : decode cX10_name 64 = .ok (.invokevirtual 184, 3) := by decide +kernel
theorem dX10_name_67 : decode cX10_name 67 = .ok (.ifCond .eq 8, 3) := by decide +kernel
theorem dX10_name_70 : decode cX10_name 70 = .ok (.aload_n 0, 1) := by decide +kernel
theorem dX10_name_71 : decode cX10_name 71 = .ok (.getfield 194, 3) := by decide +kernel
theorem dX10_name_74 : decode cX10_name 74 = .ok (.ireturn, 1) := by decide +kernel
theorem dX10_name_75 : decode cX10_name 75 = .ok (.aload_n 0, 1) := by decide +kernel
theorem dX10_name_76 : decode cX10_name 76 = .ok (.bipush 110, 2) := by decide +kernel
theorem dX10_name_78 : decode cX10_name 78 = .ok (.bipush 117, 2) := by decide +kernel
theorem dX10_name_80 : decode cX10_name 80 = .ok (.bipush 109, 2) := by decide +kernel
theorem dX10_name_82 : decode cX10_name 82 = .ok (.bipush 98, 2) := by decide +kernel
theorem dX10_name_84 : decode cX10_name 84 = .ok (.bipush 101, 2) := by decide +kernel
theorem dX10_name_86 : decode cX10_name 86 = .ok (.bipush 114, 2) := by decide +kernel
theorem dX10_name_88 : decode cX10_name 88 = .ok (.iconst 0, 1) := by decide +kernel
theorem dX10_name_89 : decode cX10_name 89 = .ok (.iconst 0, 1) := by decide +kernel
theorem dX10_name_90 : decode cX10_name 90 = .ok (.invokevirtual 184, 3) := by decide +kernel
theorem dX10_name_93 : decode cX10_name 93 = .ok (.ifCond .eq 8, 3) := by decide +kernel
theorem dX10_name_96 : decode cX10_name 96 = .ok (.aload_n 0, 1) := by decide +kernel
theorem dX10_name_97 : decode cX10_name 97 = .ok (.getfield 197, 3) := by decide +kernel
theorem dX10_name_100 : decode cX10_name 100 = .ok (.ireturn, 1) := by decide +kernel
theorem dX10_name_101 : decode cX10_name 101 = .ok (.aload_n 0, 1) := by decide +kernel
theorem dX10_name_102 : decode cX10_name 102 = .ok (.bipush 115, 2) := by decide +kernel
theorem dX10_name_104 : decode cX10_name 104 = .ok (.bipush 97, 2) := by decide +kernel
theorem dX10_name_106 : decode cX10_name 106 = .ok (.bipush 105, 2) := by decide +kernel
theorem dX10_name_108 : decode cX10_name 108 = .ok (.bipush 100, 2) := by decide +kernel
theorem dX10_name_110 : decode cX10_name 110 = .ok (.iconst 0, 1) := by decide +kernel
theorem dX10_name_111 : decode cX10_name 111 = .ok (.iconst 0, 1) := by decide +kernel
theorem dX10_name_112 : decode cX10_name 112 = .ok (.iconst 0, 1) := by decide +kernel
theorem dX10_name_113 : decode cX10_name 113 = .ok (.iconst 0, 1) := by decide +kernel
theorem dX10_name_114 : decode cX10_name 114 = .ok (.invokevirtual 184, 3) := by decide +kernel
theorem dX10_name_117 : decode cX10_name 117 = .ok (.ifCond .eq 8, 3) := by decide +kernel
theorem dX10_name_120 : decode cX10_name 120 = .ok (.aload_n 0, 1) := by decide +kernel
theorem dX10_name_121 : decode cX10_name 121 = .ok (.getfield 200, 3) := by decide +kernel
theorem dX10_name_124 : decode cX10_name 124 = .ok (.ireturn, 1) := by decide +kernel
theorem dX10_name_125 : decode cX10_name 125 = .ok (.aload_n 0, 1) := by decide +kernel
theorem dX10_name_126 : decode cX10_name 126 = .ok (.bipush 112, 2) := by decide +kernel
theorem dX10_name_128 : decode cX10_name 128 = .ok (.bipush 108, 2) := by decide +kernel
theorem dX10_name_130 : decode cX10_name 130 = .ok (.bipush 97, 2) := by decide +kernel
theorem dX10_name_132 : decode cX10_name 132 = .ok (.bipush 99, 2) := by decide +kernel
theorem dX10_name_134 : decode cX10_name 134 = .ok (.bipush 101, 2) := by decide +kernel
theorem dX10_name_136 : decode cX10_name 136 = .ok (.iconst 0, 1) := by decide +kernel
theorem dX10_name_137 : decode cX10_name 137 = .ok (.iconst 0, 1) := by decide +kernel
theorem dX10_name_138 : decode cX10_name 138 = .ok (.iconst 0, 1) := by decide +kernel
theorem dX10_name_139 : decode cX10_name 139 = .ok (.invokevirtual 184, 3) := by decide +kernel
theorem dX10_name_142 : decode cX10_name 142 = .ok (.ifCond .eq 8, 3) := by decide +kernel
theorem dX10_name_145 : decode cX10_name 145 = .ok (.aload_n 0, 1) := by decide +kernel
theorem dX10_name_146 : decode cX10_name 146 = .ok (.getfield 203, 3) := by decide +kernel
theorem dX10_name_149 : decode cX10_name 149 = .ok (.ireturn, 1) := by decide +kernel
theorem dX10_name_150 : decode cX10_name 150 = .ok (.aload_n 0, 1) := by decide +kernel
theorem dX10_name_151 : decode cX10_name 151 = .ok (.invokevirtual 178, 3) := by decide +kernel
theorem dX10_name_154 : decode cX10_name 154 = .ok (.iconst 0, 1) := by decide +kernel
theorem dX10_name_155 : decode cX10_name 155 = .ok (.ireturn, 1) := by decide +kernel
theorem dX10_atom_0 : decode cX10_atom 0 = .ok (.iconst 0, 1) := by decide +kernel
theorem dX10_atom_1 : decode cX10_atom 1 = .ok (.istore_n 1, 1) := by decide +kernel
theorem dX10_atom_2 : decode cX10_atom 2 = .ok (.aload_n 0, 1) := by decide +kernel
theorem dX10_atom_3 : decode cX10_atom 3 = .ok (.bipush 45, 2) := by decide +kernel
theorem dX10_atom_5 : decode cX10_atom 5 = .ok (.invokevirtual 206, 3) := by decide +kernel
theorem dX10_atom_8 : decode cX10_atom 8 = .ok (.ifCond .eq 29, 3) := by decide +kernel
theorem dX10_atom_11 : decode cX10_atom 11 = .ok (.aload_n 0, 1) := by decide +kernel
theorem dX10_atom_12 : decode cX10_atom 12 = .ok (.invokevirtual 209, 3) := by decide +kernel
theorem dX10_atom_15 : decode cX10_atom 15 = .ok (.ifCond .eq 146, 3) := by decide +kernel
theorem dX10_atom_18 : decode cX10_atom 18 = .ok (.aload_n 0, 1) := by decide +kernel
theorem dX10_atom_19 : decode cX10_atom 19 = .ok (.invokevirtual 213, 3) := by decide +kernel
theorem dX10_atom_22 : decode cX10_atom 22 = .ok (.ineg, 1) := by decide +kernel
theorem dX10_atom_23 : decode cX10_atom 23 = .ok (.istore_n 1, 1) := by decide +kernel
theorem dX10_atom_24 : decode cX10_atom 24 = .ok (.aload_n 0, 1) := by decide +kernel
theorem dX10_atom_25 : decode cX10_atom 25 = .ok (.dup, 1) := by decide +kernel
theorem dX10_atom_26 : decode cX10_atom 26 = .ok (.getfield 175, 3) := by decide +kernel
theorem dX10_atom_29 : decode cX10_atom 29 = .ok (.iconst 1, 1) := by decide +kernel
theorem dX10_atom_30 : decode cX10_atom 30 = .ok (.isub, 1) := by decide +kernel
theorem dX10_atom_31 : decode cX10_atom 31 = .ok (.putfield 175, 3) := by decide +kernel
theorem dX10_atom_34 : decode cX10_atom 34 = .ok (.goto 127, 3) := by decide +kernel
theorem dX10_atom_37 : decode cX10_atom 37 = .ok (.aload_n 0, 1) := by decide +kernel
theorem dX10_atom_38 : decode cX10_atom 38 = .ok (.bipush 40, 2) := by decide +kernel
theorem dX10_atom_40 : decode cX10_atom 40 = .ok (.invokevirtual 206, 3) := by decide +kernel
theorem dX10_atom_43 : decode cX10_atom 43 = .ok (.ifCond .eq 52, 3) := by decide +kernel
theorem dX10_atom_46 : decode cX10_atom 46 = .ok (.aload_n 0, 1) := by decide +kernel
theorem dX10_atom_47 : decode cX10_atom 47 = .ok (.invokevirtual 209, 3) := by decide +kernel
theorem dX10_atom_50 : decode cX10_atom 50 = .ok (.ifCond .eq 111, 3) := by decide +kernel
theorem dX10_atom_53 : decode cX10_atom 53 = .ok (.aload_n 0, 1) := by decide +kernel
theorem dX10_atom_54 : decode cX10_atom 54 = .ok (.invokevirtual 217, 3) := by decide +kernel
theorem dX10_atom_57 : decode cX10_atom 57 = .ok (.istore_n 1, 1) := by decide +kernel
theorem dX10_atom_58 : decode cX10_atom 58 = .ok (.aload_n 0, 1) := by decide +kernel
theorem dX10_atom_59 : decode cX10_atom 59 = .ok (.bipush 41, 2) := by decide +kernel
theorem dX10_atom_61 : decode cX10_atom 61 = .ok (.invokevirtual 206, 3) := by decide +kernel
theorem dX10_atom_64 : decode cX10_atom 64 = .ok (.ifCond .ne 7, 3) := by decide +kernel
theorem dX10_atom_67 : decode cX10_atom 67 = .ok (.aload_n 0, 1) := by decide +kernel
theorem dX10_atom_68 : decode cX10_atom 68 = .ok (.invokevirtual 178, 3) := by decide +kernel
theorem dX10_atom_71 : decode cX10_atom 71 = .ok (.aload_n 0, 1) := by decide +kernel
theorem dX10_atom_72 : decode cX10_atom 72 = .ok (.dup, 1) := by decide +kernel
theorem dX10_atom_73 : decode cX10_atom 73 = .ok (.getfield 175, 3) := by decide +kernel
theorem dX10_atom_76 : decode cX10_atom 76 = .ok (.iconst 1, 1) := by decide +kernel
theorem dX10_atom_77 : decode cX10_atom 77 = .ok (.isub, 1) := by decide +kernel
theorem dX10_atom_78 : decode cX10_atom 78 = .ok (.putfield 175, 3) := by decide +kernel
theorem dX10_atom_81 : decode cX10_atom 81 = .ok (.aload_n 0, 1) := by decide +kernel
theorem dX10_atom_82 : decode cX10_atom 82 = .ok (.getfield 164, 3) := by decide +kernel
theorem dX10_atom_85 : decode cX10_atom 85 = .ok (.ifCond .ne 76, 3) := by decide +kernel
theorem dX10_atom_88 : decode cX10_atom 88 = .ok (.aload_n 0, 1) := by decide +kernel
theorem dX10_atom_89 : decode cX10_atom 89 = .ok (.invokevirtual 181, 3) := by decide +kernel
theorem dX10_atom_92 : decode cX10_atom 92 = .ok (.goto 69, 3) := by decide +kernel
theorem dX10_atom_95 : decode cX10_atom 95 = .ok (.aload_n 0, 1) := by decide +kernel
theorem dX10_atom_96 : decode cX10_atom 96 = .ok (.getfield 164, 3) := by decide +kernel
theorem dX10_atom_99 : decode cX10_atom 99 = .ok (.ifCond .ne 24, 3) := by decide +kernel
theorem dX10_atom_102 : decode cX10_atom 102 = .ok (.aload_n 0, 1) := by decide +kernel
theorem dX10_atom_103 : decode cX10_atom 103 = .ok (.getfield 147, 3) := by decide +kernel
theorem dX10_atom_106 : decode cX10_atom 106 = .ok (.iconst 2, 1) := by decide +kernel
theorem dX10_atom_107 : decode cX10_atom 107 = .ok (.if_icmp .ne 16, 3) := by decide +kernel
theorem dX10_atom_110 : decode cX10_atom 110 = .ok (.aload_n 0, 1) := by decide +kernel
theorem dX10_atom_111 : decode cX10_atom 111 = .ok (.getfield 158, 3) := by decide +kernel
theorem dX10_atom_114 : decode cX10_atom 114 = .ok (.l2i, 1) := by decide +kernel
theorem dX10_atom_115 : decode cX10_atom 115 = .ok (.istore_n 1, 1) := by decide +kernel
theorem dX10_atom_116 : decode cX10_atom 116 = .ok (.aload_n 0, 1) := by decide +kernel
theorem dX10_atom_117 : decode cX10_atom 117 = .ok (.invokevirtual 181, 3) := by decide +kernel
theorem dX10_atom_120 : decode cX10_atom 120 = .ok (.goto 41, 3) := by decide +kernel
theorem dX10_atom_123 : decode cX10_atom 123 = .ok (.aload_n 0, 1) := by decide +kernel
theorem dX10_atom_124 : decode cX10_atom 124 = .ok (.getfield 164, 3) := by decide +kernel
theorem dX10_atom_127 : decode cX10_atom 127 = .ok (.ifCond .ne 30, 3) := by decide +kernel
theorem dX10_atom_130 : decode cX10_atom 130 = .ok (.aload_n 0, 1) := by decide +kernel
theorem dX10_atom_131 : decode cX10_atom 131 = .ok (.getfield 147, 3) := by decide +kernel
theorem dX10_atom_134 : decode cX10_atom 134 = .ok (.iconst 1, 1) := by decide +kernel
theorem dX10_atom_135 : decode cX10_atom 135 = .ok (.if_icmp .ne 22, 3) := by decide +kernel
theorem dX10_atom_138 : decode cX10_atom 138 = .ok (.aload_n 0, 1) := by decide +kernel
theorem dX10_atom_139 : decode cX10_atom 139 = .ok (.invokevirtual 220, 3) := by decide +kernel
theorem dX10_atom_142 : decode cX10_atom 142 = .ok (.istore_n 1, 1) := by decide +kernel
theorem dX10_atom_143 : decode cX10_atom 143 = .ok (.aload_n 0, 1) := by decide +kernel
theorem dX10_atom_144 : decode cX10_atom 144 = .ok (.getfield 164, 3) := by decide +kernel
theorem dX10_atom_147 : decode cX10_atom 147 = .ok (.ifCond .ne 14, 3) := by decide +kernel
theorem dX10_atom_150 : decode cX10_atom 150 = .ok (.aload_n 0, 1) := by decide +kernel
theorem dX10_atom_151 : decode cX10_atom 151 = .ok (.invokevirtual 181, 3) := by decide +kernel
theorem dX10_atom_154 : decode cX10_atom 154 = .ok (.goto 7, 3) := by decide +kernel
theorem dX10_atom_157 : decode cX10_atom 157 = .ok (.aload_n 0, 1) := by decide +kernel
theorem dX10_atom_158 : decode cX10_atom 158 = .ok (.invokevirtual 178, 3) := by decide +kernel
theorem dX10_atom_161 : decode cX10_atom 161 = .ok (.iload_n 1, 1) := by decide +kernel
theorem dX10_atom_162 : decode cX10_atom 162 = .ok (.ireturn, 1) := by decide +kernel
theorem dX10_term_0 : decode cX10_term 0 = .ok (.aload_n 0, 1) := by decide +kernel
theorem dX10_term_1 : decode cX10_term 1 = .ok (.invokevirtual 213, 3) := by decide +kernel
theorem dX10_term_4 : decode cX10_term 4 = .ok (.istore_n 1, 1) := by decide +kernel
theorem dX10_term_5 : decode cX10_term 5 = .ok (.aload_n 0, 1) := by decide +kernel
theorem dX10_term_6 : decode cX10_term 6 = .ok (.bipush 42, 2) := by decide +kernel
theorem dX10_term_8 : decode cX10_term 8 = .ok (.invokevirtual 206, 3) := by decide +kernel
theorem dX10_term_11 : decode cX10_term 11 = .ok (.ifCond .eq 17, 3) := by decide +kernel
theorem dX10_term_14 : decode cX10_term 14 = .ok (.aload_n 0, 1) := by decide +kernel
theorem dX10_term_15 : decode cX10_term 15 = .ok (.invokevirtual 181, 3) := by decide +kernel
theorem dX10_term_18 : decode cX10_term 18 = .ok (.iload_n 1, 1) := by decide +kernel
theorem dX10_term_19 : decode cX10_term 19 = .ok (.aload_n 0, 1) := by decide +kernel
theorem dX10_term_20 : decode cX10_term 20 = .ok (.invokevirtual 213, 3) := by decide +kernel
theorem dX10_term_23 : decode cX10_term 23 = .ok (.imul, 1) := by decide +kernel
theorem dX10_term_24 : decode cX10_term 24 = .ok (.istore_n 1, 1) := by decide +kernel
theorem dX10_term_25 : decode cX10_term 25 = .ok (.goto (-20), 3) := by decide +kernel
theorem dX10_term_28 : decode cX10_term 28 = .ok (.iload_n 1, 1) := by decide +kernel
theorem dX10_term_29 : decode cX10_term 29 = .ok (.ireturn, 1) := by decide +kernel
theorem dX10_added_0 : decode cX10_added 0 = .ok (.aload_n 0, 1) := by decide +kernel
theorem dX10_added_1 : decode cX10_added 1 = .ok (.invokevirtual 223, 3) := by decide +kernel
theorem dX10_added_4 : decode cX10_added 4 = .ok (.istore_n 1, 1) := by decide +kernel
theorem dX10_added_5 : decode cX10_added 5 = .ok (.aload_n 0, 1) := by decide +kernel
theorem dX10_added_6 : decode cX10_added 6 = .ok (.bipush 43, 2) := by decide +kernel
theorem dX10_added_8 : decode cX10_added 8 = .ok (.invokevirtual 206, 3) := by decide +kernel
theorem dX10_added_11 : decode cX10_added 11 = .ok (.ifCond .ne 12, 3) := by decide +kernel
theorem dX10_added_14 : decode cX10_added 14 = .ok (.aload_n 0, 1) := by decide +kernel
theorem dX10_added_15 : decode cX10_added 15 = .ok (.bipush 45, 2) := by decide +kernel
theorem dX10_added_17 : decode cX10_added 17 = .ok (.invokevirtual 206, 3) := by decide +kernel
theorem dX10_added_20 : decode cX10_added 20 = .ok (.ifCond .eq 46, 3) := by decide +kernel
theorem dX10_added_23 : decode cX10_added 23 = .ok (.aload_n 0, 1) := by decide +kernel
theorem dX10_added_24 : decode cX10_added 24 = .ok (.getfield 158, 3) := by decide +kernel
theorem dX10_added_27 : decode cX10_added 27 = .ok (.ldc2_w 226, 3) := by decide +kernel
theorem dX10_added_30 : decode cX10_added 30 = .ok (.lcmp, 1) := by decide +kernel
theorem dX10_added_31 : decode cX10_added 31 = .ok (.ifCond .ne 7, 3) := by decide +kernel
theorem dX10_added_34 : decode cX10_added 34 = .ok (.iconst 1, 1) := by decide +kernel
theorem dX10_added_35 : decode cX10_added 35 = .ok (.goto 4, 3) := by decide +kernel
theorem dX10_added_38 : decode cX10_added 38 = .ok (.iconst 0, 1) := by decide +kernel
theorem dX10_added_39 : decode cX10_added 39 = .ok (.istore_n 2, 1) := by decide +kernel
theorem dX10_added_40 : decode cX10_added 40 = .ok (.aload_n 0, 1) := by decide +kernel
theorem dX10_added_41 : decode cX10_added 41 = .ok (.invokevirtual 181, 3) := by decide +kernel
theorem dX10_added_44 : decode cX10_added 44 = .ok (.aload_n 0, 1) := by decide +kernel
theorem dX10_added_45 : decode cX10_added 45 = .ok (.invokevirtual 223, 3) := by decide +kernel
theorem dX10_added_48 : decode cX10_added 48 = .ok (.istore_n 3, 1) := by decide +kernel
theorem dX10_added_49 : decode cX10_added 49 = .ok (.iload_n 2, 1) := by decide +kernel
theorem dX10_added_50 : decode cX10_added 50 = .ok (.ifCond .eq 9, 3) := by decide +kernel
theorem dX10_added_53 : decode cX10_added 53 = .ok (.iload_n 1, 1) := by decide +kernel
theorem dX10_added_54 : decode cX10_added 54 = .ok (.iload_n 3, 1) := by decide +kernel
theorem dX10_added_55 : decode cX10_added 55 = .ok (.iadd, 1) := by decide +kernel
theorem dX10_added_56 : decode cX10_added 56 = .ok (.goto 6, 3) := by decide +kernel
theorem dX10_added_59 : decode cX10_added 59 = .ok (.iload_n 1, 1) := by decide +kernel
theorem dX10_added_60 : decode cX10_added 60 = .ok (.iload_n 3, 1) := by decide +kernel
theorem dX10_added_61 : decode cX10_added 61 = .ok (.isub, 1) := by decide +kernel
theorem dX10_added_62 : decode cX10_added 62 = .ok (.istore_n 1, 1) := by decide +kernel
theorem dX10_added_63 : decode cX10_added 63 = .ok (.goto (-58), 3) := by decide +kernel
theorem dX10_added_66 : decode cX10_added 66 = .ok (.iload_n 1, 1) := by decide +kernel
theorem dX10_added_67 : decode cX10_added 67 = .ok (.ireturn, 1) := by decide +kernel
theorem dX10_not_0 : decode cX10_not 0 = .ok (.aload_n 0, 1) := by decide +kernel
theorem dX10_not_1 : decode cX10_not 1 = .ok (.bipush 110, 2) := by decide +kernel
theorem dX10_not_3 : decode cX10_not 3 = .ok (.bipush 111, 2) := by decide +kernel
theorem dX10_not_5 : decode cX10_not 5 = .ok (.bipush 116, 2) := by decide +kernel
theorem dX10_not_7 : decode cX10_not 7 = .ok (.iconst 0, 1) := by decide +kernel
theorem dX10_not_8 : decode cX10_not 8 = .ok (.iconst 0, 1) := by decide +kernel
theorem dX10_not_9 : decode cX10_not 9 = .ok (.iconst 0, 1) := by decide +kernel
theorem dX10_not_10 : decode cX10_not 10 = .ok (.iconst 0, 1) := by decide +kernel
theorem dX10_not_11 : decode cX10_not 11 = .ok (.iconst 0, 1) := by decide +kernel
theorem dX10_not_12 : decode cX10_not 12 = .ok (.invokevirtual 184, 3) := by decide +kernel
theorem dX10_not_15 : decode cX10_not 15 = .ok (.ifCond .eq 37, 3) := by decide +kernel
theorem dX10_not_18 : decode cX10_not 18 = .ok (.aload_n 0, 1) := by decide +kernel
theorem dX10_not_19 : decode cX10_not 19 = .ok (.invokevirtual 209, 3) := by decide +kernel
theorem dX10_not_22 : decode cX10_not 22 = .ok (.ifCond .ne 5, 3) := by decide +kernel
theorem dX10_not_25 : decode cX10_not 25 = .ok (.iconst 0, 1) := by decide +kernel
theorem dX10_not_26 : decode cX10_not 26 = .ok (.ireturn, 1) := by decide +kernel
theorem dX10_not_27 : decode cX10_not 27 = .ok (.aload_n 0, 1) := by decide +kernel
theorem dX10_not_28 : decode cX10_not 28 = .ok (.invokevirtual 228, 3) := by decide +kernel
theorem dX10_not_31 : decode cX10_not 31 = .ok (.istore_n 1, 1) := by decide +kernel
theorem dX10_not_32 : decode cX10_not 32 = .ok (.aload_n 0, 1) := by decide +kernel
theorem dX10_not_33 : decode cX10_not 33 = .ok (.dup, 1) := by decide +kernel
theorem dX10_not_34 : decode cX10_not 34 = .ok (.getfield 175, 3) := by decide +kernel
theorem dX10_not_37 : decode cX10_not 37 = .ok (.iconst 1, 1) := by decide +kernel
theorem dX10_not_38 : decode cX10_not 38 = .ok (.isub, 1) := by decide +kernel
theorem dX10_not_39 : decode cX10_not 39 = .ok (.putfield 175, 3) := by decide +kernel
theorem dX10_not_42 : decode cX10_not 42 = .ok (.iload_n 1, 1) := by decide +kernel
theorem dX10_not_43 : decode cX10_not 43 = .ok (.ifCond .ne 7, 3) := by decide +kernel
theorem dX10_not_46 : decode cX10_not 46 = .ok (.iconst 1, 1) := by decide +kernel
theorem dX10_not_47 : decode cX10_not 47 = .ok (.goto 4, 3) := by decide +kernel
theorem dX10_not_50 : decode cX10_not 50 = .ok (.iconst 0, 1) := by decide +kernel
theorem dX10_not_51 : decode cX10_not 51 = .ok (.ireturn, 1) := by decide +kernel
theorem dX10_not_52 : decode cX10_not 52 = .ok (.aload_n 0, 1) := by decide +kernel
theorem dX10_not_53 : decode cX10_not 53 = .ok (.invokevirtual 231, 3) := by decide +kernel
theorem dX10_not_56 : decode cX10_not 56 = .ok (.istore_n 1, 1) := by decide +kernel
theorem dX10_not_57 : decode cX10_not 57 = .ok (.aload_n 0, 1) := by decide +kernel
theorem dX10_not_58 : decode cX10_not 58 = .ok (.bipush 60, 2) := by decide +kernel
theorem dX10_not_60 : decode cX10_not 60 = .ok (.invokevirtual 206, 3) := by decide +kernel
theorem dX10_not_63 : decode cX10_not 63 = .ok (.ifCond .ne 14, 3) := by decide +kernel
theorem dX10_not_66 : decode cX10_not 66 = .ok (.aload_n 0, 1) := by decide +kernel
theorem dX10_not_67 : decode cX10_not 67 = .ok (.bipush 61, 2) := by decide +kernel
theorem dX10_not_69 : decode cX10_not 69 = .ok (.invokevirtual 206, 3) := by decide +kernel
theorem dX10_not_72 : decode cX10_not 72 = .ok (.ifCond .ne 5, 3) := by decide +kernel
theorem dX10_not_75 : decode cX10_not 75 = .ok (.iload_n 1, 1) := by decide +kernel
theorem dX10_not_76 : decode cX10_not 76 = .ok (.ireturn, 1) := by decide +kernel
theorem dX10_not_77 : decode cX10_not 77 = .ok (.aload_n 0, 1) := by decide +kernel
theorem dX10_not_78 : decode cX10_not 78 = .ok (.getfield 158, 3) := by decide +kernel
theorem dX10_not_81 : decode cX10_not 81 = .ok (.ldc2_w 234, 3) := by decide +kernel
theorem dX10_not_84 : decode cX10_not 84 = .ok (.lcmp, 1) := by decide +kernel
theorem dX10_not_85 : decode cX10_not 85 = .ok (.ifCond .ne 7, 3) := by decide +kernel
theorem dX10_not_88 : decode cX10_not 88 = .ok (.iconst 1, 1) := by decide +kernel
theorem dX10_not_89 : decode cX10_not 89 = .ok (.goto 4, 3) := by decide +kernel
theorem dX10_not_92 : decode cX10_not 92 = .ok (.iconst 0, 1) := by decide +kernel
theorem dX10_not_93 : decode cX10_not 93 = .ok (.istore_n 2, 1) := by decide +kernel
theorem dX10_not_94 : decode cX10_not 94 = .ok (.aload_n 0, 1) := by decide +kernel
theorem dX10_not_95 : decode cX10_not 95 = .ok (.invokevirtual 181, 3) := by decide +kernel
theorem dX10_not_98 : decode cX10_not 98 = .ok (.aload_n 0, 1) := by decide +kernel
theorem dX10_not_99 : decode cX10_not 99 = .ok (.invokevirtual 231, 3) := by decide +kernel
theorem dX10_not_102 : decode cX10_not 102 = .ok (.istore_n 3, 1) := by decide +kernel
theorem dX10_not_103 : decode cX10_not 103 = .ok (.iload_n 2, 1) := by decide +kernel
theorem dX10_not_104 : decode cX10_not 104 = .ok (.ifCond .eq 11, 3) := by decide +kernel
theorem dX10_not_107 : decode cX10_not 107 = .ok (.iload_n 1, 1) := by decide +kernel
theorem dX10_not_108 : decode cX10_not 108 = .ok (.iload_n 3, 1) := by decide +kernel
theorem dX10_not_109 : decode cX10_not 109 = .ok (.if_icmp .ge 15, 3) := by decide +kernel
theorem dX10_not_112 : decode cX10_not 112 = .ok (.goto 8, 3) := by decide +kernel
theorem dX10_not_115 : decode cX10_not 115 = .ok (.iload_n 1, 1) := by decide +kernel
theorem dX10_not_116 : decode cX10_not 116 = .ok (.iload_n 3, 1) := by decide +kernel
theorem dX10_not_117 : decode cX10_not 117 = .ok (.if_icmp .ne 7, 3) := by decide +kernel
theorem dX10_not_120 : decode cX10_not 120 = .ok (.iconst 1, 1) := by decide +kernel
theorem dX10_not_121 : decode cX10_not 121 = .ok (.goto 4, 3) := by decide +kernel
theorem dX10_not_124 : decode cX10_not 124 = .ok (.iconst 0, 1) := by decide +kernel
theorem dX10_not_125 : decode cX10_not 125 = .ok (.ireturn, 1) := by decide +kernel
theorem dX10_both_0 : decode cX10_both 0 = .ok (.aload_n 0, 1) := by decide +kernel
theorem dX10_both_1 : decode cX10_both 1 = .ok (.invokevirtual 228, 3) := by decide +kernel
theorem dX10_both_4 : decode cX10_both 4 = .ok (.istore_n 1, 1) := by decide +kernel
theorem dX10_both_5 : decode cX10_both 5 = .ok (.aload_n 0, 1) := by decide +kernel
theorem dX10_both_6 : decode cX10_both 6 = .ok (.bipush 97, 2) := by decide +kernel
theorem dX10_both_8 : decode cX10_both 8 = .ok (.bipush 110, 2) := by decide +kernel
theorem dX10_both_10 : decode cX10_both 10 = .ok (.bipush 100, 2) := by decide +kernel
theorem dX10_both_12 : decode cX10_both 12 = .ok (.iconst 0, 1) := by decide +kernel
theorem dX10_both_13 : decode cX10_both 13 = .ok (.iconst 0, 1) := by decide +kernel
theorem dX10_both_14 : decode cX10_both 14 = .ok (.iconst 0, 1) := by decide +kernel
theorem dX10_both_15 : decode cX10_both 15 = .ok (.iconst 0, 1) := by decide +kernel
theorem dX10_both_16 : decode cX10_both 16 = .ok (.iconst 0, 1) := by decide +kernel
theorem dX10_both_17 : decode cX10_both 17 = .ok (.invokevirtual 184, 3) := by decide +kernel
theorem dX10_both_20 : decode cX10_both 20 = .ok (.ifCond .eq 29, 3) := by decide +kernel
theorem dX10_both_23 : decode cX10_both 23 = .ok (.aload_n 0, 1) := by decide +kernel
theorem dX10_both_24 : decode cX10_both 24 = .ok (.invokevirtual 181, 3) := by decide +kernel
theorem dX10_both_27 : decode cX10_both 27 = .ok (.aload_n 0, 1) := by decide +kernel
theorem dX10_both_28 : decode cX10_both 28 = .ok (.invokevirtual 228, 3) := by decide +kernel
theorem dX10_both_31 : decode cX10_both 31 = .ok (.istore_n 2, 1) := by decide +kernel
theorem dX10_both_32 : decode cX10_both 32 = .ok (.iload_n 1, 1) := by decide +kernel
theorem dX10_both_33 : decode cX10_both 33 = .ok (.ifCond .eq 11, 3) := by decide +kernel
theorem dX10_both_36 : decode cX10_both 36 = .ok (.iload_n 2, 1) := by decide +kernel
theorem dX10_both_37 : decode cX10_both 37 = .ok (.ifCond .eq 7, 3) := by decide +kernel
theorem dX10_both_40 : decode cX10_both 40 = .ok (.iconst 1, 1) := by decide +kernel
theorem dX10_both_41 : decode cX10_both 41 = .ok (.goto 4, 3) := by decide +kernel
theorem dX10_both_44 : decode cX10_both 44 = .ok (.iconst 0, 1) := by decide +kernel
theorem dX10_both_45 : decode cX10_both 45 = .ok (.istore_n 1, 1) := by decide +kernel
theorem dX10_both_46 : decode cX10_both 46 = .ok (.goto (-41), 3) := by decide +kernel
theorem dX10_both_49 : decode cX10_both 49 = .ok (.iload_n 1, 1) := by decide +kernel
theorem dX10_both_50 : decode cX10_both 50 = .ok (.ireturn, 1) := by decide +kernel
theorem dX10_either_0 : decode cX10_either 0 = .ok (.aload_n 0, 1) := by decide +kernel
theorem dX10_either_1 : decode cX10_either 1 = .ok (.invokevirtual 236, 3) := by decide +kernel
theorem dX10_either_4 : decode cX10_either 4 = .ok (.istore_n 1, 1) := by decide +kernel
theorem dX10_either_5 : decode cX10_either 5 = .ok (.aload_n 0, 1) := by decide +kernel
theorem dX10_either_6 : decode cX10_either 6 = .ok (.bipush 111, 2) := by decide +kernel
theorem dX10_either_8 : decode cX10_either 8 = .ok (.bipush 114, 2) := by decide +kernel
theorem dX10_either_10 : decode cX10_either 10 = .ok (.iconst 0, 1) := by decide +kernel
theorem dX10_either_11 : decode cX10_either 11 = .ok (.iconst 0, 1) := by decide +kernel
theorem dX10_either_12 : decode cX10_either 12 = .ok (.iconst 0, 1) := by decide +kernel
theorem dX10_either_13 : decode cX10_either 13 = .ok (.iconst 0, 1) := by decide +kernel
theorem dX10_either_14 : decode cX10_either 14 = .ok (.iconst 0, 1) := by decide +kernel
theorem dX10_either_15 : decode cX10_either 15 = .ok (.iconst 0, 1) := by decide +kernel
theorem dX10_either_16 : decode cX10_either 16 = .ok (.invokevirtual 184, 3) := by decide +kernel
theorem dX10_either_19 : decode cX10_either 19 = .ok (.ifCond .eq 29, 3) := by decide +kernel
theorem dX10_either_22 : decode cX10_either 22 = .ok (.aload_n 0, 1) := by decide +kernel
theorem dX10_either_23 : decode cX10_either 23 = .ok (.invokevirtual 181, 3) := by decide +kernel
theorem dX10_either_26 : decode cX10_either 26 = .ok (.aload_n 0, 1) := by decide +kernel
theorem dX10_either_27 : decode cX10_either 27 = .ok (.invokevirtual 236, 3) := by decide +kernel
theorem dX10_either_30 : decode cX10_either 30 = .ok (.istore_n 2, 1) := by decide +kernel
theorem dX10_either_31 : decode cX10_either 31 = .ok (.iload_n 1, 1) := by decide +kernel
theorem dX10_either_32 : decode cX10_either 32 = .ok (.ifCond .ne 7, 3) := by decide +kernel
theorem dX10_either_35 : decode cX10_either 35 = .ok (.iload_n 2, 1) := by decide +kernel
theorem dX10_either_36 : decode cX10_either 36 = .ok (.ifCond .eq 7, 3) := by decide +kernel
theorem dX10_either_39 : decode cX10_either 39 = .ok (.iconst 1, 1) := by decide +kernel
theorem dX10_either_40 : decode cX10_either 40 = .ok (.goto 4, 3) := by decide +kernel
theorem dX10_either_43 : decode cX10_either 43 = .ok (.iconst 0, 1) := by decide +kernel
theorem dX10_either_44 : decode cX10_either 44 = .ok (.istore_n 1, 1) := by decide +kernel
theorem dX10_either_45 : decode cX10_either 45 = .ok (.goto (-40), 3) := by decide +kernel
theorem dX10_either_48 : decode cX10_either 48 = .ok (.iload_n 1, 1) := by decide +kernel
theorem dX10_either_49 : decode cX10_either 49 = .ok (.ireturn, 1) := by decide +kernel
theorem dX10_part_0 : decode cX10_part 0 = .ok (.iload_n 1, 1) := by decide +kernel
theorem dX10_part_1 : decode cX10_part 1 = .ok (.ifCond .ne 7, 3) := by decide +kernel
theorem dX10_part_4 : decode cX10_part 4 = .ok (.aload_n 0, 1) := by decide +kernel
theorem dX10_part_5 : decode cX10_part 5 = .ok (.invokevirtual 178, 3) := by decide +kernel
theorem dX10_part_8 : decode cX10_part 8 = .ok (.aload_n 0, 1) := by decide +kernel
theorem dX10_part_9 : decode cX10_part 9 = .ok (.getfield 164, 3) := by decide +kernel
theorem dX10_part_12 : decode cX10_part 12 = .ok (.ifCond .ne 7, 3) := by decide +kernel
theorem dX10_part_15 : decode cX10_part 15 = .ok (.aload_n 0, 1) := by decide +kernel
theorem dX10_part_16 : decode cX10_part 16 = .ok (.invokevirtual 181, 3) := by decide +kernel
theorem dX10_part_19 : decode cX10_part 19 = .ok (.aload_n 0, 1) := by decide +kernel
theorem dX10_part_20 : decode cX10_part 20 = .ok (.getfield 164, 3) := by decide +kernel
theorem dX10_part_23 : decode cX10_part 23 = .ok (.ifCond .eq 7, 3) := by decide +kernel
theorem dX10_part_26 : decode cX10_part 26 = .ok (.iconst 0, 1) := by decide +kernel
theorem dX10_part_27 : decode cX10_part 27 = .ok (.goto 7, 3) := by decide +kernel
theorem dX10_part_30 : decode cX10_part 30 = .ok (.aload_n 0, 1) := by decide +kernel
theorem dX10_part_31 : decode cX10_part 31 = .ok (.invokevirtual 217, 3) := by decide +kernel
theorem dX10_part_34 : decode cX10_part 34 = .ok (.istore_n 2, 1) := by decide +kernel
theorem dX10_part_35 : decode cX10_part 35 = .ok (.aload_n 0, 1) := by decide +kernel
theorem dX10_part_36 : decode cX10_part 36 = .ok (.bipush 59, 2) := by decide +kernel
theorem dX10_part_38 : decode cX10_part 38 = .ok (.invokevirtual 206, 3) := by decide +kernel
theorem dX10_part_41 : decode cX10_part 41 = .ok (.ifCond .ne 7, 3) := by decide +kernel
theorem dX10_part_44 : decode cX10_part 44 = .ok (.aload_n 0, 1) := by decide +kernel
theorem dX10_part_45 : decode cX10_part 45 = .ok (.invokevirtual 178, 3) := by decide +kernel
theorem dX10_part_48 : decode cX10_part 48 = .ok (.aload_n 0, 1) := by decide +kernel
theorem dX10_part_49 : decode cX10_part 49 = .ok (.getfield 164, 3) := by decide +kernel
theorem dX10_part_52 : decode cX10_part 52 = .ok (.ifCond .ne 7, 3) := by decide +kernel
theorem dX10_part_55 : decode cX10_part 55 = .ok (.aload_n 0, 1) := by decide +kernel
theorem dX10_part_56 : decode cX10_part 56 = .ok (.invokevirtual 181, 3) := by decide +kernel
theorem dX10_part_59 : decode cX10_part 59 = .ok (.iload_n 2, 1) := by decide +kernel
theorem dX10_part_60 : decode cX10_part 60 = .ok (.ireturn, 1) := by decide +kernel
theorem dX10_read_0 : decode cX10_read 0 = .ok (.aload_n 0, 1) := by decide +kernel
theorem dX10_read_1 : decode cX10_read 1 = .ok (.sipush 160, 3) := by decide +kernel
theorem dX10_read_4 : decode cX10_read 4 = .ok (.iload_n 1, 1) := by decide +kernel
theorem dX10_read_5 : decode cX10_read 5 = .ok (.imul, 1) := by decide +kernel
theorem dX10_read_6 : decode cX10_read 6 = .ok (.putfield 135, 3) := by decide +kernel
theorem dX10_read_9 : decode cX10_read 9 = .ok (.aload_n 0, 1) := by decide +kernel
theorem dX10_read_10 : decode cX10_read 10 = .ok (.aload_n 0, 1) := by decide +kernel
theorem dX10_read_11 : decode cX10_read 11 = .ok (.getfield 17, 3) := by decide +kernel
theorem dX10_read_14 : decode cX10_read 14 = .ok (.iload_n 1, 1) := by decide +kernel
theorem dX10_read_15 : decode cX10_read 15 = .ok (.iaload, 1) := by decide +kernel
theorem dX10_read_16 : decode cX10_read 16 = .ok (.putfield 132, 3) := by decide +kernel
theorem dX10_read_19 : decode cX10_read 19 = .ok (.aload_n 0, 1) := by decide +kernel
theorem dX10_read_20 : decode cX10_read 20 = .ok (.iconst 0, 1) := by decide +kernel
theorem dX10_read_21 : decode cX10_read 21 = .ok (.putfield 138, 3) := by decide +kernel
theorem dX10_read_24 : decode cX10_read 24 = .ok (.aload_n 0, 1) := by decide +kernel
theorem dX10_read_25 : decode cX10_read 25 = .ok (.iconst 0, 1) := by decide +kernel
theorem dX10_read_26 : decode cX10_read 26 = .ok (.putfield 175, 3) := by decide +kernel
theorem dX10_read_29 : decode cX10_read 29 = .ok (.aload_n 0, 1) := by decide +kernel
theorem dX10_read_30 : decode cX10_read 30 = .ok (.iconst 0, 1) := by decide +kernel
theorem dX10_read_31 : decode cX10_read 31 = .ok (.putfield 164, 3) := by decide +kernel
theorem dX10_read_34 : decode cX10_read 34 = .ok (.aload_n 0, 1) := by decide +kernel
theorem dX10_read_35 : decode cX10_read 35 = .ok (.invokevirtual 181, 3) := by decide +kernel
theorem dX10_read_38 : decode cX10_read 38 = .ok (.aload_n 0, 1) := by decide +kernel
theorem dX10_read_39 : decode cX10_read 39 = .ok (.aload_n 0, 1) := by decide +kernel
theorem dX10_read_40 : decode cX10_read 40 = .ok (.bipush 119, 2) := by decide +kernel
theorem dX10_read_42 : decode cX10_read 42 = .ok (.bipush 97, 2) := by decide +kernel
theorem dX10_read_44 : decode cX10_read 44 = .ok (.bipush 114, 2) := by decide +kernel
theorem dX10_read_46 : decode cX10_read 46 = .ok (.bipush 109, 2) := by decide +kernel
theorem dX10_read_48 : decode cX10_read 48 = .ok (.bipush 115, 2) := by decide +kernel
theorem dX10_read_50 : decode cX10_read 50 = .ok (.iconst 0, 1) := by decide +kernel
theorem dX10_read_51 : decode cX10_read 51 = .ok (.iconst 0, 1) := by decide +kernel
theorem dX10_read_52 : decode cX10_read 52 = .ok (.iconst 0, 1) := by decide +kernel
theorem dX10_read_53 : decode cX10_read 53 = .ok (.invokevirtual 184, 3) := by decide +kernel
theorem dX10_read_56 : decode cX10_read 56 = .ok (.invokevirtual 239, 3) := by decide +kernel
theorem dX10_read_59 : decode cX10_read 59 = .ok (.istore_n 3, 1) := by decide +kernel
theorem dX10_read_60 : decode cX10_read 60 = .ok (.aload_n 0, 1) := by decide +kernel
theorem dX10_read_61 : decode cX10_read 61 = .ok (.getfield 164, 3) := by decide +kernel
theorem dX10_read_64 : decode cX10_read 64 = .ok (.ifCond .eq 7, 3) := by decide +kernel
theorem dX10_read_67 : decode cX10_read 67 = .ok (.iconst 0, 1) := by decide +kernel
theorem dX10_read_68 : decode cX10_read 68 = .ok (.goto 24, 3) := by decide +kernel
theorem dX10_read_71 : decode cX10_read 71 = .ok (.aload_n 0, 1) := by decide +kernel
theorem dX10_read_72 : decode cX10_read 72 = .ok (.aload_n 0, 1) := by decide +kernel
theorem dX10_read_73 : decode cX10_read 73 = .ok (.bipush 99, 2) := by decide +kernel
theorem dX10_read_75 : decode cX10_read 75 = .ok (.bipush 111, 2) := by decide +kernel
theorem dX10_read_77 : decode cX10_read 77 = .ok (.bipush 111, 2) := by decide +kernel
theorem dX10_read_79 : decode cX10_read 79 = .ok (.bipush 108, 2) := by decide +kernel
theorem dX10_read_81 : decode cX10_read 81 = .ok (.bipush 115, 2) := by decide +kernel
theorem dX10_read_83 : decode cX10_read 83 = .ok (.iconst 0, 1) := by decide +kernel
theorem dX10_read_84 : decode cX10_read 84 = .ok (.iconst 0, 1) := by decide +kernel
theorem dX10_read_85 : decode cX10_read 85 = .ok (.iconst 0, 1) := by decide +kernel
theorem dX10_read_86 : decode cX10_read 86 = .ok (.invokevirtual 184, 3) := by decide +kernel
theorem dX10_read_89 : decode cX10_read 89 = .ok (.invokevirtual 239, 3) := by decide +kernel
theorem dX10_read_92 : decode cX10_read 92 = .ok (.istore 4, 2) := by decide +kernel
theorem dX10_read_94 : decode cX10_read 94 = .ok (.aload_n 0, 1) := by decide +kernel
theorem dX10_read_95 : decode cX10_read 95 = .ok (.getfield 164, 3) := by decide +kernel
theorem dX10_read_98 : decode cX10_read 98 = .ok (.ifCond .eq 7, 3) := by decide +kernel
theorem dX10_read_101 : decode cX10_read 101 = .ok (.iconst 0, 1) := by decide +kernel
theorem dX10_read_102 : decode cX10_read 102 = .ok (.goto 26, 3) := by decide +kernel
theorem dX10_read_105 : decode cX10_read 105 = .ok (.aload_n 0, 1) := by decide +kernel
theorem dX10_read_106 : decode cX10_read 106 = .ok (.aload_n 0, 1) := by decide +kernel
theorem dX10_read_107 : decode cX10_read 107 = .ok (.bipush 115, 2) := by decide +kernel
theorem dX10_read_109 : decode cX10_read 109 = .ok (.bipush 99, 2) := by decide +kernel
theorem dX10_read_111 : decode cX10_read 111 = .ok (.bipush 114, 2) := by decide +kernel
theorem dX10_read_113 : decode cX10_read 113 = .ok (.bipush 101, 2) := by decide +kernel
theorem dX10_read_115 : decode cX10_read 115 = .ok (.bipush 97, 2) := by decide +kernel
theorem dX10_read_117 : decode cX10_read 117 = .ok (.bipush 109, 2) := by decide +kernel
theorem dX10_read_119 : decode cX10_read 119 = .ok (.bipush 115, 2) := by decide +kernel
theorem dX10_read_121 : decode cX10_read 121 = .ok (.iconst 0, 1) := by decide +kernel
theorem dX10_read_122 : decode cX10_read 122 = .ok (.invokevirtual 184, 3) := by decide +kernel
theorem dX10_read_125 : decode cX10_read 125 = .ok (.invokevirtual 239, 3) := by decide +kernel
theorem dX10_read_128 : decode cX10_read 128 = .ok (.istore 5, 2) := by decide +kernel
theorem dX10_read_130 : decode cX10_read 130 = .ok (.aload_n 0, 1) := by decide +kernel
theorem dX10_read_131 : decode cX10_read 131 = .ok (.getfield 164, 3) := by decide +kernel
theorem dX10_read_134 : decode cX10_read 134 = .ok (.ifCond .ne 14, 3) := by decide +kernel
theorem dX10_read_137 : decode cX10_read 137 = .ok (.aload_n 0, 1) := by decide +kernel
theorem dX10_read_138 : decode cX10_read 138 = .ok (.getfield 147, 3) := by decide +kernel
theorem dX10_read_141 : decode cX10_read 141 = .ok (.ifCond .eq 7, 3) := by decide +kernel
theorem dX10_read_144 : decode cX10_read 144 = .ok (.aload_n 0, 1) := by decide +kernel
theorem dX10_read_145 : decode cX10_read 145 = .ok (.invokevirtual 178, 3) := by decide +kernel
theorem dX10_read_148 : decode cX10_read 148 = .ok (.iload_n 2, 1) := by decide +kernel
theorem dX10_read_149 : decode cX10_read 149 = .ok (.ifCond .ne 7, 3) := by decide +kernel
theorem dX10_read_152 : decode cX10_read 152 = .ok (.iload_n 3, 1) := by decide +kernel
theorem dX10_read_153 : decode cX10_read 153 = .ok (.goto 15, 3) := by decide +kernel
theorem dX10_read_156 : decode cX10_read 156 = .ok (.iload_n 2, 1) := by decide +kernel
theorem dX10_read_157 : decode cX10_read 157 = .ok (.iconst 1, 1) := by decide +kernel
theorem dX10_read_158 : decode cX10_read 158 = .ok (.if_icmp .ne 8, 3) := by decide +kernel
theorem dX10_read_161 : decode cX10_read 161 = .ok (.iload 4, 2) := by decide +kernel
theorem dX10_read_163 : decode cX10_read 163 = .ok (.goto 5, 3) := by decide +kernel
theorem dX10_read_166 : decode cX10_read 166 = .ok (.iload 5, 2) := by decide +kernel
theorem dX10_read_168 : decode cX10_read 168 = .ok (.ireturn, 1) := by decide +kernel
theorem dX10_text_0 : decode cX10_text 0 = .ok (.aload_n 0, 1) := by decide +kernel
theorem dX10_text_1 : decode cX10_text 1 = .ok (.getfield 76, 3) := by decide +kernel
theorem dX10_text_4 : decode cX10_text 4 = .ok (.bipush 6, 2) := by decide +kernel
theorem dX10_text_6 : decode cX10_text 6 = .ok (.if_icmp .ne 6, 3) := by decide +kernel
theorem dX10_text_9 : decode cX10_text 9 = .ok (.bipush (-4), 2) := by decide +kernel
theorem dX10_text_11 : decode cX10_text 11 = .ok (.ireturn, 1) := by decide +kernel
theorem dX10_text_12 : decode cX10_text 12 = .ok (.iconst 0, 1) := by decide +kernel
theorem dX10_text_13 : decode cX10_text 13 = .ok (.istore_n 1, 1) := by decide +kernel
theorem dX10_text_14 : decode cX10_text 14 = .ok (.iload_n 1, 1) := by decide +kernel
theorem dX10_text_15 : decode cX10_text 15 = .ok (.aload_n 0, 1) := by decide +kernel
theorem dX10_text_16 : decode cX10_text 16 = .ok (.getfield 129, 3) := by decide +kernel
theorem dX10_text_19 : decode cX10_text 19 = .ok (.if_icmp .ge 30, 3) := by decide +kernel
theorem dX10_text_22 : decode cX10_text 22 = .ok (.aload_n 0, 1) := by decide +kernel
theorem dX10_text_23 : decode cX10_text 23 = .ok (.getfield 13, 3) := by decide +kernel
theorem dX10_text_26 : decode cX10_text 26 = .ok (.sipush 160, 3) := by decide +kernel
theorem dX10_text_29 : decode cX10_text 29 = .ok (.aload_n 0, 1) := by decide +kernel
theorem dX10_text_30 : decode cX10_text 30 = .ok (.getfield 76, 3) := by decide +kernel
theorem dX10_text_33 : decode cX10_text 33 = .ok (.imul, 1) := by decide +kernel
theorem dX10_text_34 : decode cX10_text 34 = .ok (.iload_n 1, 1) := by decide +kernel
theorem dX10_text_35 : decode cX10_text 35 = .ok (.iadd, 1) := by decide +kernel
theorem dX10_text_36 : decode cX10_text 36 = .ok (.aload_n 0, 1) := by decide +kernel
theorem dX10_text_37 : decode cX10_text 37 = .ok (.getfield 20, 3) := by decide +kernel
theorem dX10_text_40 : decode cX10_text 40 = .ok (.iload_n 1, 1) := by decide +kernel
theorem dX10_text_41 : decode cX10_text 41 = .ok (.iaload, 1) := by decide +kernel
theorem dX10_text_42 : decode cX10_text 42 = .ok (.iastore, 1) := by decide +kernel
theorem dX10_text_43 : decode cX10_text 43 = .ok (.iinc 1 1, 3) := by decide +kernel
theorem dX10_text_46 : decode cX10_text 46 = .ok (.goto (-32), 3) := by decide +kernel
theorem dX10_text_49 : decode cX10_text 49 = .ok (.aload_n 0, 1) := by decide +kernel
theorem dX10_text_50 : decode cX10_text 50 = .ok (.getfield 17, 3) := by decide +kernel
theorem dX10_text_53 : decode cX10_text 53 = .ok (.aload_n 0, 1) := by decide +kernel
theorem dX10_text_54 : decode cX10_text 54 = .ok (.getfield 76, 3) := by decide +kernel
theorem dX10_text_57 : decode cX10_text 57 = .ok (.aload_n 0, 1) := by decide +kernel
theorem dX10_text_58 : decode cX10_text 58 = .ok (.getfield 129, 3) := by decide +kernel
theorem dX10_text_61 : decode cX10_text 61 = .ok (.iastore, 1) := by decide +kernel
theorem dX10_text_62 : decode cX10_text 62 = .ok (.aload_n 0, 1) := by decide +kernel
theorem dX10_text_63 : decode cX10_text 63 = .ok (.iconst 0, 1) := by decide +kernel
theorem dX10_text_64 : decode cX10_text 64 = .ok (.putfield 129, 3) := by decide +kernel
theorem dX10_text_67 : decode cX10_text 67 = .ok (.aload_n 0, 1) := by decide +kernel
theorem dX10_text_68 : decode cX10_text 68 = .ok (.aload_n 0, 1) := by decide +kernel
theorem dX10_text_69 : decode cX10_text 69 = .ok (.getfield 76, 3) := by decide +kernel
theorem dX10_text_72 : decode cX10_text 72 = .ok (.iconst 0, 1) := by decide +kernel
theorem dX10_text_73 : decode cX10_text 73 = .ok (.invokevirtual 243, 3) := by decide +kernel
theorem dX10_text_76 : decode cX10_text 76 = .ok (.istore_n 1, 1) := by decide +kernel
theorem dX10_text_77 : decode cX10_text 77 = .ok (.aload_n 0, 1) := by decide +kernel
theorem dX10_text_78 : decode cX10_text 78 = .ok (.getfield 164, 3) := by decide +kernel
theorem dX10_text_81 : decode cX10_text 81 = .ok (.ifCond .eq 11, 3) := by decide +kernel
theorem dX10_text_84 : decode cX10_text 84 = .ok (.bipush (-100), 2) := by decide +kernel
theorem dX10_text_86 : decode cX10_text 86 = .ok (.aload_n 0, 1) := by decide +kernel
theorem dX10_text_87 : decode cX10_text 87 = .ok (.getfield 168, 3) := by decide +kernel
theorem dX10_text_90 : decode cX10_text 90 = .ok (.isub, 1) := by decide +kernel
theorem dX10_text_91 : decode cX10_text 91 = .ok (.ireturn, 1) := by decide +kernel
theorem dX10_text_92 : decode cX10_text 92 = .ok (.aload_n 0, 1) := by decide +kernel
theorem dX10_text_93 : decode cX10_text 93 = .ok (.dup, 1) := by decide +kernel
theorem dX10_text_94 : decode cX10_text 94 = .ok (.getfield 76, 3) := by decide +kernel
theorem dX10_text_97 : decode cX10_text 97 = .ok (.iconst 1, 1) := by decide +kernel
theorem dX10_text_98 : decode cX10_text 98 = .ok (.iadd, 1) := by decide +kernel
theorem dX10_text_99 : decode cX10_text 99 = .ok (.putfield 76, 3) := by decide +kernel
theorem dX10_text_102 : decode cX10_text 102 = .ok (.aload_n 0, 1) := by decide +kernel
theorem dX10_text_103 : decode cX10_text 103 = .ok (.getfield 76, 3) := by decide +kernel
theorem dX10_text_106 : decode cX10_text 106 = .ok (.iconst 1, 1) := by decide +kernel
theorem dX10_text_107 : decode cX10_text 107 = .ok (.isub, 1) := by decide +kernel
theorem dX10_text_108 : decode cX10_text 108 = .ok (.ireturn, 1) := by decide +kernel
theorem dX10_force_0 : decode cX10_force 0 = .ok (.iload_n 1, 1) := by decide +kernel
theorem dX10_force_1 : decode cX10_force 1 = .ok (.i2l, 1) := by decide +kernel
theorem dX10_force_2 : decode cX10_force 2 = .ok (.lconst 0, 1) := by decide +kernel
theorem dX10_force_3 : decode cX10_force 3 = .ok (.aload_n 0, 1) := by decide +kernel
theorem dX10_force_4 : decode cX10_force 4 = .ok (.getfield 76, 3) := by decide +kernel
theorem dX10_force_7 : decode cX10_force 7 = .ok (.iconst 1, 1) := by decide +kernel
theorem dX10_force_8 : decode cX10_force 8 = .ok (.isub, 1) := by decide +kernel
theorem dX10_force_9 : decode cX10_force 9 = .ok (.i2l, 1) := by decide +kernel
theorem dX10_force_10 : decode cX10_force 10 = .ok (.invokestatic 82, 3) := by decide +kernel
theorem dX10_force_13 : decode cX10_force 13 = .ok (.ifCond .ne 6, 3) := by decide +kernel
theorem dX10_force_16 : decode cX10_force 16 = .ok (.bipush (-2), 2) := by decide +kernel
theorem dX10_force_18 : decode cX10_force 18 = .ok (.ireturn, 1) := by decide +kernel
theorem dX10_force_19 : decode cX10_force 19 = .ok (.aload_n 0, 1) := by decide +kernel
theorem dX10_force_20 : decode cX10_force 20 = .ok (.getfield 104, 3) := by decide +kernel
theorem dX10_force_23 : decode cX10_force 23 = .ok (.istore_n 2, 1) := by decide +kernel
theorem dX10_force_24 : decode cX10_force 24 = .ok (.aload_n 0, 1) := by decide +kernel
theorem dX10_force_25 : decode cX10_force 25 = .ok (.iload_n 1, 1) := by decide +kernel
theorem dX10_force_26 : decode cX10_force 26 = .ok (.putfield 104, 3) := by decide +kernel
theorem dX10_force_29 : decode cX10_force 29 = .ok (.iload_n 2, 1) := by decide +kernel
theorem dX10_force_30 : decode cX10_force 30 = .ok (.ireturn, 1) := by decide +kernel
theorem dX10_begins_0 : decode cX10_begins 0 = .ok (.aload_n 0, 1) := by decide +kernel
theorem dX10_begins_1 : decode cX10_begins 1 = .ok (.getfield 35, 3) := by decide +kernel
theorem dX10_begins_4 : decode cX10_begins 4 = .ok (.iconst 0, 1) := by decide +kernel
theorem dX10_begins_5 : decode cX10_begins 5 = .ok (.aload_n 0, 1) := by decide +kernel
theorem dX10_begins_6 : decode cX10_begins 6 = .ok (.getfield 23, 3) := by decide +kernel
theorem dX10_begins_9 : decode cX10_begins 9 = .ok (.iconst 0, 1) := by decide +kernel
theorem dX10_begins_10 : decode cX10_begins 10 = .ok (.iaload, 1) := by decide +kernel
theorem dX10_begins_11 : decode cX10_begins 11 = .ok (.iastore, 1) := by decide +kernel
theorem dX10_begins_12 : decode cX10_begins 12 = .ok (.return_, 1) := by decide +kernel
theorem dX10_topicOf_0 : decode cX10_topicOf 0 = .ok (.aload_n 0, 1) := by decide +kernel
theorem dX10_topicOf_1 : decode cX10_topicOf 1 = .ok (.getfield 29, 3) := by decide +kernel
theorem dX10_topicOf_4 : decode cX10_topicOf 4 = .ok (.iconst 3, 1) := by decide +kernel
theorem dX10_topicOf_5 : decode cX10_topicOf 5 = .ok (.iload_n 1, 1) := by decide +kernel
theorem dX10_topicOf_6 : decode cX10_topicOf 6 = .ok (.imul, 1) := by decide +kernel
theorem dX10_topicOf_7 : decode cX10_topicOf 7 = .ok (.iconst 1, 1) := by decide +kernel
theorem dX10_topicOf_8 : decode cX10_topicOf 8 = .ok (.iadd, 1) := by decide +kernel
theorem dX10_topicOf_9 : decode cX10_topicOf 9 = .ok (.iaload, 1) := by decide +kernel
theorem dX10_topicOf_10 : decode cX10_topicOf 10 = .ok (.ireturn, 1) := by decide +kernel
theorem dX10_looks_0 : decode cX10_looks 0 = .ok (.aload_n 0, 1) := by decide +kernel
theorem dX10_looks_1 : decode cX10_looks 1 = .ok (.aload_n 0, 1) := by decide +kernel
theorem dX10_looks_2 : decode cX10_looks 2 = .ok (.iload_n 1, 1) := by decide +kernel
theorem dX10_looks_3 : decode cX10_looks 3 = .ok (.invokevirtual 246, 3) := by decide +kernel
theorem dX10_looks_6 : decode cX10_looks 6 = .ok (.putfield 188, 3) := by decide +kernel
theorem dX10_looks_9 : decode cX10_looks 9 = .ok (.aload_n 0, 1) := by decide +kernel
theorem dX10_looks_10 : decode cX10_looks 10 = .ok (.iload_n 2, 1) := by decide +kernel
theorem dX10_looks_11 : decode cX10_looks 11 = .ok (.ifCond .ne 8, 3) := by decide +kernel
theorem dX10_looks_14 : decode cX10_looks 14 = .ok (.bipush 8, 2) := by decide +kernel
theorem dX10_looks_16 : decode cX10_looks 16 = .ok (.goto 15, 3) := by decide +kernel
theorem dX10_looks_19 : decode cX10_looks 19 = .ok (.aload_n 0, 1) := by decide +kernel
theorem dX10_looks_20 : decode cX10_looks 20 = .ok (.aload_n 0, 1) := by decide +kernel
theorem dX10_looks_21 : decode cX10_looks 21 = .ok (.getfield 32, 3) := by decide +kernel
theorem dX10_looks_24 : decode cX10_looks 24 = .ok (.iload_n 2, 1) := by decide +kernel
theorem dX10_looks_25 : decode cX10_looks 25 = .ok (.iconst 1, 1) := by decide +kernel
theorem dX10_looks_26 : decode cX10_looks 26 = .ok (.isub, 1) := by decide +kernel
theorem dX10_looks_27 : decode cX10_looks 27 = .ok (.iaload, 1) := by decide +kernel
theorem dX10_looks_28 : decode cX10_looks 28 = .ok (.invokevirtual 246, 3) := by decide +kernel
theorem dX10_looks_31 : decode cX10_looks 31 = .ok (.putfield 191, 3) := by decide +kernel
theorem dX10_looks_34 : decode cX10_looks 34 = .ok (.aload_n 0, 1) := by decide +kernel
theorem dX10_looks_35 : decode cX10_looks 35 = .ok (.aload_n 0, 1) := by decide +kernel
theorem dX10_looks_36 : decode cX10_looks 36 = .ok (.getfield 35, 3) := by decide +kernel
theorem dX10_looks_39 : decode cX10_looks 39 = .ok (.iload_n 2, 1) := by decide +kernel
theorem dX10_looks_40 : decode cX10_looks 40 = .ok (.iaload, 1) := by decide +kernel
theorem dX10_looks_41 : decode cX10_looks 41 = .ok (.putfield 194, 3) := by decide +kernel
theorem dX10_looks_44 : decode cX10_looks 44 = .ok (.aload_n 0, 1) := by decide +kernel
theorem dX10_looks_45 : decode cX10_looks 45 = .ok (.aload_n 0, 1) := by decide +kernel
theorem dX10_looks_46 : decode cX10_looks 46 = .ok (.getfield 29, 3) := by decide +kernel
theorem dX10_looks_49 : decode cX10_looks 49 = .ok (.iconst 3, 1) := by decide +kernel
theorem dX10_looks_50 : decode cX10_looks 50 = .ok (.iload_n 1, 1) := by decide +kernel
theorem dX10_looks_51 : decode cX10_looks 51 = .ok (.imul, 1) := by decide +kernel
theorem dX10_looks_52 : decode cX10_looks 52 = .ok (.iaload, 1) := by decide +kernel
theorem dX10_looks_53 : decode cX10_looks 53 = .ok (.putfield 197, 3) := by decide +kernel
theorem dX10_looks_56 : decode cX10_looks 56 = .ok (.aload_n 0, 1) := by decide +kernel
theorem dX10_looks_57 : decode cX10_looks 57 = .ok (.iconst 0, 1) := by decide +kernel
theorem dX10_looks_58 : decode cX10_looks 58 = .ok (.putfield 200, 3) := by decide +kernel
theorem dX10_looks_61 : decode cX10_looks 61 = .ok (.iconst 0, 1) := by decide +kernel
theorem dX10_looks_62 : decode cX10_looks 62 = .ok (.istore_n 3, 1) := by decide +kernel
theorem dX10_looks_63 : decode cX10_looks 63 = .ok (.iload_n 3, 1) := by decide +kernel
theorem dX10_looks_64 : decode cX10_looks 64 = .ok (.iload_n 2, 1) := by decide +kernel
theorem dX10_looks_65 : decode cX10_looks 65 = .ok (.if_icmp .ge 40, 3) := by decide +kernel
theorem dX10_looks_68 : decode cX10_looks 68 = .ok (.aload_n 0, 1) := by decide +kernel
theorem dX10_looks_69 : decode cX10_looks 69 = .ok (.dup, 1) := by decide +kernel
theorem dX10_looks_70 : decode cX10_looks 70 = .ok (.getfield 200, 3) := by decide +kernel
theorem dX10_looks_73 : decode cX10_looks 73 = .ok (.aload_n 0, 1) := by decide +kernel
theorem dX10_looks_74 : decode cX10_looks 74 = .ok (.aload_n 0, 1) := by decide +kernel
theorem dX10_looks_75 : decode cX10_looks 75 = .ok (.getfield 32, 3) := by decide +kernel
theorem dX10_looks_78 : decode cX10_looks 78 = .ok (.iload_n 3, 1) := by decide +kernel
theorem dX10_looks_79 : decode cX10_looks 79 = .ok (.iaload, 1) := by decide +kernel
theorem dX10_looks_80 : decode cX10_looks 80 = .ok (.invokevirtual 246, 3) := by decide +kernel
theorem dX10_looks_83 : decode cX10_looks 83 = .ok (.aload_n 0, 1) := by decide +kernel
theorem dX10_looks_84 : decode cX10_looks 84 = .ok (.getfield 188, 3) := by decide +kernel
theorem dX10_looks_87 : decode cX10_looks 87 = .ok (.if_icmp .ne 7, 3) := by decide +kernel
theorem dX10_looks_90 : decode cX10_looks 90 = .ok (.iconst 1, 1) := by decide +kernel
theorem dX10_looks_91 : decode cX10_looks 91 = .ok (.goto 4, 3) := by decide +kernel
theorem dX10_looks_94 : decode cX10_looks 94 = .ok (.iconst 0, 1) := by decide +kernel
theorem dX10_looks_95 : decode cX10_looks 95 = .ok (.iadd, 1) := by decide +kernel
theorem dX10_looks_96 : decode cX10_looks 96 = .ok (.putfield 200, 3) := by decide +kernel
theorem dX10_looks_99 : decode cX10_looks 99 = .ok (.iinc 3 1, 3) := by decide +kernel
theorem dX10_looks_102 : decode cX10_looks 102 = .ok (.goto (-39), 3) := by decide +kernel
theorem dX10_looks_105 : decode cX10_looks 105 = .ok (.aload_n 0, 1) := by decide +kernel
theorem dX10_looks_106 : decode cX10_looks 106 = .ok (.iload_n 2, 1) := by decide +kernel
theorem dX10_looks_107 : decode cX10_looks 107 = .ok (.putfield 203, 3) := by decide +kernel
theorem dX10_looks_110 : decode cX10_looks 110 = .ok (.return_, 1) := by decide +kernel
theorem dX10_warmsOf_0 : decode cX10_warmsOf 0 = .ok (.aload_n 0, 1) := by decide +kernel
theorem dX10_warmsOf_1 : decode cX10_warmsOf 1 = .ok (.getfield 26, 3) := by decide +kernel
theorem dX10_warmsOf_4 : decode cX10_warmsOf 4 = .ok (.iload_n 1, 1) := by decide +kernel
theorem dX10_warmsOf_5 : decode cX10_warmsOf 5 = .ok (.iaload, 1) := by decide +kernel
theorem dX10_warmsOf_6 : decode cX10_warmsOf 6 = .ok (.istore_n 3, 1) := by decide +kernel
theorem dX10_warmsOf_7 : decode cX10_warmsOf 7 = .ok (.aload_n 0, 1) := by decide +kernel
theorem dX10_warmsOf_8 : decode cX10_warmsOf 8 = .ok (.aload_n 0, 1) := by decide +kernel
theorem dX10_warmsOf_9 : decode cX10_warmsOf 9 = .ok (.getfield 104, 3) := by decide +kernel
theorem dX10_warmsOf_12 : decode cX10_warmsOf 12 = .ok (.iconst 0, 1) := by decide +kernel
theorem dX10_warmsOf_13 : decode cX10_warmsOf 13 = .ok (.invokevirtual 243, 3) := by decide +kernel
theorem dX10_warmsOf_16 : decode cX10_warmsOf 16 = .ok (.bipush (-99), 2) := by decide +kernel
theorem dX10_warmsOf_18 : decode cX10_warmsOf 18 = .ok (.bipush 99, 2) := by decide +kernel
theorem dX10_warmsOf_20 : decode cX10_warmsOf 20 = .ok (.invokestatic 249, 3) := by decide +kernel
theorem dX10_warmsOf_23 : decode cX10_warmsOf 23 = .ok (.istore 4, 2) := by decide +kernel
theorem dX10_warmsOf_25 : decode cX10_warmsOf 25 = .ok (.aload_n 0, 1) := by decide +kernel
theorem dX10_warmsOf_26 : decode cX10_warmsOf 26 = .ok (.getfield 29, 3) := by decide +kernel
theorem dX10_warmsOf_29 : decode cX10_warmsOf 29 = .ok (.iconst 3, 1) := by decide +kernel
theorem dX10_warmsOf_30 : decode cX10_warmsOf 30 = .ok (.iload_n 1, 1) := by decide +kernel
theorem dX10_warmsOf_31 : decode cX10_warmsOf 31 = .ok (.imul, 1) := by decide +kernel
theorem dX10_warmsOf_32 : decode cX10_warmsOf 32 = .ok (.iconst 2, 1) := by decide +kernel
theorem dX10_warmsOf_33 : decode cX10_warmsOf 33 = .ok (.iadd, 1) := by decide +kernel
theorem dX10_warmsOf_34 : decode cX10_warmsOf 34 = .ok (.iaload, 1) := by decide +kernel
theorem dX10_warmsOf_35 : decode cX10_warmsOf 35 = .ok (.iconst 1, 1) := by decide +kernel
theorem dX10_warmsOf_36 : decode cX10_warmsOf 36 = .ok (.if_icmp .ne 8, 3) := by decide +kernel
theorem dX10_warmsOf_39 : decode cX10_warmsOf 39 = .ok (.iload 4, 2) := by decide +kernel
theorem dX10_warmsOf_41 : decode cX10_warmsOf 41 = .ok (.goto 6, 3) := by decide +kernel
theorem dX10_warmsOf_44 : decode cX10_warmsOf 44 = .ok (.iload 4, 2) := by decide +kernel
theorem dX10_warmsOf_46 : decode cX10_warmsOf 46 = .ok (.ineg, 1) := by decide +kernel
theorem dX10_warmsOf_47 : decode cX10_warmsOf 47 = .ok (.istore 5, 2) := by decide +kernel
theorem dX10_warmsOf_49 : decode cX10_warmsOf 49 = .ok (.iload_n 3, 1) := by decide +kernel
theorem dX10_warmsOf_50 : decode cX10_warmsOf 50 = .ok (.iconst 2, 1) := by decide +kernel
theorem dX10_warmsOf_51 : decode cX10_warmsOf 51 = .ok (.if_icmp .eq 8, 3) := by decide +kernel
theorem dX10_warmsOf_54 : decode cX10_warmsOf 54 = .ok (.iload_n 3, 1) := by decide +kernel
theorem dX10_warmsOf_55 : decode cX10_warmsOf 55 = .ok (.iconst 4, 1) := by decide +kernel
theorem dX10_warmsOf_56 : decode cX10_warmsOf 56 = .ok (.if_icmp .ne 49, 3) := by decide +kernel
theorem dX10_warmsOf_59 : decode cX10_warmsOf 59 = .ok (.iload 5, 2) := by decide +kernel
theorem dX10_warmsOf_61 : decode cX10_warmsOf 61 = .ok (.aload_n 0, 1) := by decide +kernel
theorem dX10_warmsOf_62 : decode cX10_warmsOf 62 = .ok (.getfield 29, 3) := by decide +kernel
theorem dX10_warmsOf_65 : decode cX10_warmsOf 65 = .ok (.iconst 3, 1) := by decide +kernel
theorem dX10_warmsOf_66 : decode cX10_warmsOf 66 = .ok (.iload_n 1, 1) := by decide +kernel
theorem dX10_warmsOf_67 : decode cX10_warmsOf 67 = .ok (.imul, 1) := by decide +kernel
theorem dX10_warmsOf_68 : decode cX10_warmsOf 68 = .ok (.iaload, 1) := by decide +kernel
theorem dX10_warmsOf_69 : decode cX10_warmsOf 69 = .ok (.iadd, 1) := by decide +kernel
theorem dX10_warmsOf_70 : decode cX10_warmsOf 70 = .ok (.istore 6, 2) := by decide +kernel
theorem dX10_warmsOf_72 : decode cX10_warmsOf 72 = .ok (.iload_n 3, 1) := by decide +kernel
theorem dX10_warmsOf_73 : decode cX10_warmsOf 73 = .ok (.iconst 2, 1) := by decide +kernel
theorem dX10_warmsOf_74 : decode cX10_warmsOf 74 = .ok (.if_icmp .ne 8, 3) := by decide +kernel
theorem dX10_warmsOf_77 : decode cX10_warmsOf 77 = .ok (.iload 6, 2) := by decide +kernel
theorem dX10_warmsOf_79 : decode cX10_warmsOf 79 = .ok (.goto 25, 3) := by decide +kernel
theorem dX10_warmsOf_82 : decode cX10_warmsOf 82 = .ok (.iload 6, 2) := by decide +kernel
theorem dX10_warmsOf_84 : decode cX10_warmsOf 84 = .ok (.iconst 2, 1) := by decide +kernel
theorem dX10_warmsOf_85 : decode cX10_warmsOf 85 = .ok (.idiv, 1) := by decide +kernel
theorem dX10_warmsOf_86 : decode cX10_warmsOf 86 = .ok (.aload_n 0, 1) := by decide +kernel
theorem dX10_warmsOf_87 : decode cX10_warmsOf 87 = .ok (.getfield 23, 3) := by decide +kernel
theorem dX10_warmsOf_90 : decode cX10_warmsOf 90 = .ok (.iconst 2, 1) := by decide +kernel
theorem dX10_warmsOf_91 : decode cX10_warmsOf 91 = .ok (.iaload, 1) := by decide +kernel
theorem dX10_warmsOf_92 : decode cX10_warmsOf 92 = .ok (.iconst 2, 1) := by decide +kernel
theorem dX10_warmsOf_93 : decode cX10_warmsOf 93 = .ok (.irem, 1) := by decide +kernel
theorem dX10_warmsOf_94 : decode cX10_warmsOf 94 = .ok (.iconst 1, 1) := by decide +kernel
theorem dX10_warmsOf_95 : decode cX10_warmsOf 95 = .ok (.if_icmp .ne 7, 3) := by decide +kernel
theorem dX10_warmsOf_98 : decode cX10_warmsOf 98 = .ok (.iconst 5, 1) := by decide +kernel
theorem dX10_warmsOf_99 : decode cX10_warmsOf 99 = .ok (.goto 4, 3) := by decide +kernel
theorem dX10_warmsOf_102 : decode cX10_warmsOf 102 = .ok (.iconst 0, 1) := by decide +kernel
theorem dX10_warmsOf_103 : decode cX10_warmsOf 103 = .ok (.isub, 1) := by decide +kernel
theorem dX10_warmsOf_104 : decode cX10_warmsOf 104 = .ok (.ireturn, 1) := by decide +kernel
theorem dX10_warmsOf_105 : decode cX10_warmsOf 105 = .ok (.iload_n 3, 1) := by decide +kernel
theorem dX10_warmsOf_106 : decode cX10_warmsOf 106 = .ok (.iconst 1, 1) := by decide +kernel
theorem dX10_warmsOf_107 : decode cX10_warmsOf 107 = .ok (.if_icmp .ne 10, 3) := by decide +kernel
theorem dX10_warmsOf_110 : decode cX10_warmsOf 110 = .ok (.iconst 2, 1) := by decide +kernel
theorem dX10_warmsOf_111 : decode cX10_warmsOf 111 = .ok (.iload 5, 2) := by decide +kernel
theorem dX10_warmsOf_113 : decode cX10_warmsOf 113 = .ok (.imul, 1) := by decide +kernel
theorem dX10_warmsOf_114 : decode cX10_warmsOf 114 = .ok (.goto 44, 3) := by decide +kernel
theorem dX10_warmsOf_117 : decode cX10_warmsOf 117 = .ok (.iload_n 3, 1) := by decide +kernel
theorem dX10_warmsOf_118 : decode cX10_warmsOf 118 = .ok (.iconst 3, 1) := by decide +kernel
theorem dX10_warmsOf_119 : decode cX10_warmsOf 119 = .ok (.if_icmp .ne 22, 3) := by decide +kernel
theorem dX10_warmsOf_122 : decode cX10_warmsOf 122 = .ok (.iload_n 2, 1) := by decide +kernel
theorem dX10_warmsOf_123 : decode cX10_warmsOf 123 = .ok (.ifCond .eq 11, 3) := by decide +kernel
theorem dX10_warmsOf_126 : decode cX10_warmsOf 126 = .ok (.bipush (-2), 2) := by decide +kernel
theorem dX10_warmsOf_128 : decode cX10_warmsOf 128 = .ok (.iload 5, 2) := by decide +kernel
theorem dX10_warmsOf_130 : decode cX10_warmsOf 130 = .ok (.imul, 1) := by decide +kernel
theorem dX10_warmsOf_131 : decode cX10_warmsOf 131 = .ok (.goto 27, 3) := by decide +kernel
theorem dX10_warmsOf_134 : decode cX10_warmsOf 134 = .ok (.iconst 2, 1) := by decide +kernel
theorem dX10_warmsOf_135 : decode cX10_warmsOf 135 = .ok (.iload 5, 2) := by decide +kernel
theorem dX10_warmsOf_137 : decode cX10_warmsOf 137 = .ok (.imul, 1) := by decide +kernel
theorem dX10_warmsOf_138 : decode cX10_warmsOf 138 = .ok (.goto 20, 3) := by decide +kernel
theorem dX10_warmsOf_141 : decode cX10_warmsOf 141 = .ok (.iload_n 3, 1) := by decide +kernel
theorem dX10_warmsOf_142 : decode cX10_warmsOf 142 = .ok (.iconst 5, 1) := by decide +kernel
theorem dX10_warmsOf_143 : decode cX10_warmsOf 143 = .ok (.if_icmp .ne 13, 3) := by decide +kernel
theorem dX10_warmsOf_146 : decode cX10_warmsOf 146 = .ok (.iload 5, 2) := by decide +kernel
theorem dX10_warmsOf_148 : decode cX10_warmsOf 148 = .ok (.iconst 3, 1) := by decide +kernel
theorem dX10_warmsOf_149 : decode cX10_warmsOf 149 = .ok (.if_icmp .ge 7, 3) := by decide +kernel
theorem dX10_warmsOf_152 : decode cX10_warmsOf 152 = .ok (.iconst 3, 1) := by decide +kernel
theorem dX10_warmsOf_153 : decode cX10_warmsOf 153 = .ok (.goto 5, 3) := by decide +kernel
theorem dX10_warmsOf_156 : decode cX10_warmsOf 156 = .ok (.iload 5, 2) := by decide +kernel
theorem dX10_warmsOf_158 : decode cX10_warmsOf 158 = .ok (.ireturn, 1) := by decide +kernel
theorem dX10_coolsOf_0 : decode cX10_coolsOf 0 = .ok (.aload_n 0, 1) := by decide +kernel
theorem dX10_coolsOf_1 : decode cX10_coolsOf 1 = .ok (.getfield 26, 3) := by decide +kernel
theorem dX10_coolsOf_4 : decode cX10_coolsOf 4 = .ok (.iload_n 1, 1) := by decide +kernel
theorem dX10_coolsOf_5 : decode cX10_coolsOf 5 = .ok (.iaload, 1) := by decide +kernel
theorem dX10_coolsOf_6 : decode cX10_coolsOf 6 = .ok (.istore_n 3, 1) := by decide +kernel
theorem dX10_coolsOf_7 : decode cX10_coolsOf 7 = .ok (.aload_n 0, 1) := by decide +kernel
theorem dX10_coolsOf_8 : decode cX10_coolsOf 8 = .ok (.aload_n 0, 1) := by decide +kernel
theorem dX10_coolsOf_9 : decode cX10_coolsOf 9 = .ok (.getfield 104, 3) := by decide +kernel
theorem dX10_coolsOf_12 : decode cX10_coolsOf 12 = .ok (.iconst 1, 1) := by decide +kernel
theorem dX10_coolsOf_13 : decode cX10_coolsOf 13 = .ok (.invokevirtual 243, 3) := by decide +kernel
theorem dX10_coolsOf_16 : decode cX10_coolsOf 16 = .ok (.bipush (-99), 2) := by decide +kernel
theorem dX10_coolsOf_18 : decode cX10_coolsOf 18 = .ok (.bipush 99, 2) := by decide +kernel
theorem dX10_coolsOf_20 : decode cX10_coolsOf 20 = .ok (.invokestatic 249, 3) := by decide +kernel
theorem dX10_coolsOf_23 : decode cX10_coolsOf 23 = .ok (.istore 4, 2) := by decide +kernel
theorem dX10_coolsOf_25 : decode cX10_coolsOf 25 = .ok (.iload_n 3, 1) := by decide +kernel
theorem dX10_coolsOf_26 : decode cX10_coolsOf 26 = .ok (.iconst 2, 1) := by decide +kernel
theorem dX10_coolsOf_27 : decode cX10_coolsOf 27 = .ok (.if_icmp .eq 8, 3) := by decide +kernel
theorem dX10_coolsOf_30 : decode cX10_coolsOf 30 = .ok (.iload_n 3, 1) := by decide +kernel
theorem dX10_coolsOf_31 : decode cX10_coolsOf 31 = .ok (.iconst 4, 1) := by decide +kernel
theorem dX10_coolsOf_32 : decode cX10_coolsOf 32 = .ok (.if_icmp .ne 10, 3) := by decide +kernel
theorem dX10_coolsOf_35 : decode cX10_coolsOf 35 = .ok (.iload 4, 2) := by decide +kernel
theorem dX10_coolsOf_37 : decode cX10_coolsOf 37 = .ok (.iconst 2, 1) := by decide +kernel
theorem dX10_coolsOf_38 : decode cX10_coolsOf 38 = .ok (.isub, 1) := by decide +kernel
theorem dX10_coolsOf_39 : decode cX10_coolsOf 39 = .ok (.goto 37, 3) := by decide +kernel
theorem dX10_coolsOf_42 : decode cX10_coolsOf 42 = .ok (.iload_n 3, 1) := by decide +kernel
theorem dX10_coolsOf_43 : decode cX10_coolsOf 43 = .ok (.iconst 3, 1) := by decide +kernel
theorem dX10_coolsOf_44 : decode cX10_coolsOf 44 = .ok (.if_icmp .ne 21, 3) := by decide +kernel
theorem dX10_coolsOf_47 : decode cX10_coolsOf 47 = .ok (.iload_n 2, 1) := by decide +kernel
theorem dX10_coolsOf_48 : decode cX10_coolsOf 48 = .ok (.ifCond .eq 17, 3) := by decide +kernel
theorem dX10_coolsOf_51 : decode cX10_coolsOf 51 = .ok (.iload 4, 2) := by decide +kernel
theorem dX10_coolsOf_53 : decode cX10_coolsOf 53 = .ok (.aload_n 0, 1) := by decide +kernel
theorem dX10_coolsOf_54 : decode cX10_coolsOf 54 = .ok (.getfield 29, 3) := by decide +kernel
theorem dX10_coolsOf_57 : decode cX10_coolsOf 57 = .ok (.iconst 3, 1) := by decide +kernel
theorem dX10_coolsOf_58 : decode cX10_coolsOf 58 = .ok (.iload_n 1, 1) := by decide +kernel
theorem dX10_coolsOf_59 : decode cX10_coolsOf 59 = .ok (.imul, 1) := by decide +kernel
theorem dX10_coolsOf_60 : decode cX10_coolsOf 60 = .ok (.iaload, 1) := by decide +kernel
theorem dX10_coolsOf_61 : decode cX10_coolsOf 61 = .ok (.iadd, 1) := by decide +kernel
theorem dX10_coolsOf_62 : decode cX10_coolsOf 62 = .ok (.goto 14, 3) := by decide +kernel
theorem dX10_coolsOf_65 : decode cX10_coolsOf 65 = .ok (.iload_n 3, 1) := by decide +kernel
theorem dX10_coolsOf_66 : decode cX10_coolsOf 66 = .ok (.iconst 5, 1) := by decide +kernel
theorem dX10_coolsOf_67 : decode cX10_coolsOf 67 = .ok (.if_icmp .ne 7, 3) := by decide +kernel
theorem dX10_coolsOf_70 : decode cX10_coolsOf 70 = .ok (.iconst 0, 1) := by decide +kernel
theorem dX10_coolsOf_71 : decode cX10_coolsOf 71 = .ok (.goto 5, 3) := by decide +kernel
theorem dX10_coolsOf_74 : decode cX10_coolsOf 74 = .ok (.iload 4, 2) := by decide +kernel
theorem dX10_coolsOf_76 : decode cX10_coolsOf 76 = .ok (.istore 5, 2) := by decide +kernel
theorem dX10_coolsOf_78 : decode cX10_coolsOf 78 = .ok (.iload 5, 2) := by decide +kernel
theorem dX10_coolsOf_80 : decode cX10_coolsOf 80 = .ok (.ifCond .ge 7, 3) := by decide +kernel
theorem dX10_coolsOf_83 : decode cX10_coolsOf 83 = .ok (.iconst 0, 1) := by decide +kernel
theorem dX10_coolsOf_84 : decode cX10_coolsOf 84 = .ok (.goto 5, 3) := by decide +kernel
theorem dX10_coolsOf_87 : decode cX10_coolsOf 87 = .ok (.iload 5, 2) := by decide +kernel
theorem dX10_coolsOf_89 : decode cX10_coolsOf 89 = .ok (.ireturn, 1) := by decide +kernel
theorem dX10_comes_0 : decode cX10_comes 0 = .ok (.aload_n 0, 1) := by decide +kernel
theorem dX10_comes_1 : decode cX10_comes 1 = .ok (.getfield 32, 3) := by decide +kernel
theorem dX10_comes_4 : decode cX10_comes 4 = .ok (.iload_n 2, 1) := by decide +kernel
theorem dX10_comes_5 : decode cX10_comes 5 = .ok (.iload_n 1, 1) := by decide +kernel
theorem dX10_comes_6 : decode cX10_comes 6 = .ok (.iastore, 1) := by decide +kernel
theorem dX10_comes_7 : decode cX10_comes 7 = .ok (.aload_n 0, 1) := by decide +kernel
theorem dX10_comes_8 : decode cX10_comes 8 = .ok (.iload_n 1, 1) := by decide +kernel
theorem dX10_comes_9 : decode cX10_comes 9 = .ok (.iload_n 2, 1) := by decide +kernel
theorem dX10_comes_10 : decode cX10_comes 10 = .ok (.invokevirtual 116, 3) := by decide +kernel
theorem dX10_comes_13 : decode cX10_comes 13 = .ok (.iload_n 2, 1) := by decide +kernel
theorem dX10_comes_14 : decode cX10_comes 14 = .ok (.ifCond .le 18, 3) := by decide +kernel
theorem dX10_comes_17 : decode cX10_comes 17 = .ok (.aload_n 0, 1) := by decide +kernel
theorem dX10_comes_18 : decode cX10_comes 18 = .ok (.getfield 191, 3) := by decide +kernel
theorem dX10_comes_21 : decode cX10_comes 21 = .ok (.aload_n 0, 1) := by decide +kernel
theorem dX10_comes_22 : decode cX10_comes 22 = .ok (.getfield 188, 3) := by decide +kernel
theorem dX10_comes_25 : decode cX10_comes 25 = .ok (.if_icmp .ne 7, 3) := by decide +kernel
theorem dX10_comes_28 : decode cX10_comes 28 = .ok (.iconst 1, 1) := by decide +kernel
theorem dX10_comes_29 : decode cX10_comes 29 = .ok (.goto 4, 3) := by decide +kernel
theorem dX10_comes_32 : decode cX10_comes 32 = .ok (.iconst 0, 1) := by decide +kernel
theorem dX10_comes_33 : decode cX10_comes 33 = .ok (.istore_n 3, 1) := by decide +kernel
theorem dX10_comes_34 : decode cX10_comes 34 = .ok (.aload_n 0, 1) := by decide +kernel
theorem dX10_comes_35 : decode cX10_comes 35 = .ok (.iload_n 1, 1) := by decide +kernel
theorem dX10_comes_36 : decode cX10_comes 36 = .ok (.iload_n 3, 1) := by decide +kernel
theorem dX10_comes_37 : decode cX10_comes 37 = .ok (.invokevirtual 124, 3) := by decide +kernel
theorem dX10_comes_40 : decode cX10_comes 40 = .ok (.istore 4, 2) := by decide +kernel
theorem dX10_comes_42 : decode cX10_comes 42 = .ok (.aload_n 0, 1) := by decide +kernel
theorem dX10_comes_43 : decode cX10_comes 43 = .ok (.iload_n 1, 1) := by decide +kernel
theorem dX10_comes_44 : decode cX10_comes 44 = .ok (.iload_n 3, 1) := by decide +kernel
theorem dX10_comes_45 : decode cX10_comes 45 = .ok (.invokevirtual 120, 3) := by decide +kernel
theorem dX10_comes_48 : decode cX10_comes 48 = .ok (.istore 5, 2) := by decide +kernel
theorem dX10_comes_50 : decode cX10_comes 50 = .ok (.aload_n 0, 1) := by decide +kernel
theorem dX10_comes_51 : decode cX10_comes 51 = .ok (.getfield 35, 3) := by decide +kernel
theorem dX10_comes_54 : decode cX10_comes 54 = .ok (.iload_n 2, 1) := by decide +kernel
theorem dX10_comes_55 : decode cX10_comes 55 = .ok (.iaload, 1) := by decide +kernel
theorem dX10_comes_56 : decode cX10_comes 56 = .ok (.iload 4, 2) := by decide +kernel
theorem dX10_comes_58 : decode cX10_comes 58 = .ok (.isub, 1) := by decide +kernel
theorem dX10_comes_59 : decode cX10_comes 59 = .ok (.iconst 0, 1) := by decide +kernel
theorem dX10_comes_60 : decode cX10_comes 60 = .ok (.bipush 99, 2) := by decide +kernel
theorem dX10_comes_62 : decode cX10_comes 62 = .ok (.invokestatic 249, 3) := by decide +kernel
theorem dX10_comes_65 : decode cX10_comes 65 = .ok (.iload 5, 2) := by decide +kernel
theorem dX10_comes_67 : decode cX10_comes 67 = .ok (.iadd, 1) := by decide +kernel
theorem dX10_comes_68 : decode cX10_comes 68 = .ok (.iconst 0, 1) := by decide +kernel
theorem dX10_comes_69 : decode cX10_comes 69 = .ok (.bipush 99, 2) := by decide +kernel
theorem dX10_comes_71 : decode cX10_comes 71 = .ok (.invokestatic 249, 3) := by decide +kernel
theorem dX10_comes_74 : decode cX10_comes 74 = .ok (.istore 6, 2) := by decide +kernel
theorem dX10_comes_76 : decode cX10_comes 76 = .ok (.aload_n 0, 1) := by decide +kernel
theorem dX10_comes_77 : decode cX10_comes 77 = .ok (.getfield 38, 3) := by decide +kernel
theorem dX10_comes_80 : decode cX10_comes 80 = .ok (.iload_n 2, 1) := by decide +kernel
theorem dX10_comes_81 : decode cX10_comes 81 = .ok (.iload 6, 2) := by decide +kernel
theorem dX10_comes_83 : decode cX10_comes 83 = .ok (.aload_n 0, 1) := by decide +kernel
theorem dX10_comes_84 : decode cX10_comes 84 = .ok (.getfield 23, 3) := by decide +kernel
theorem dX10_comes_87 : decode cX10_comes 87 = .ok (.iconst 1, 1) := by decide +kernel
theorem dX10_comes_88 : decode cX10_comes 88 = .ok (.iaload, 1) := by decide +kernel
theorem dX10_comes_89 : decode cX10_comes 89 = .ok (.if_icmp .lt 7, 3) := by decide +kernel
theorem dX10_comes_92 : decode cX10_comes 92 = .ok (.iconst 1, 1) := by decide +kernel
theorem dX10_comes_93 : decode cX10_comes 93 = .ok (.goto 4, 3) := by decide +kernel
theorem dX10_comes_96 : decode cX10_comes 96 = .ok (.iconst 0, 1) := by decide +kernel
theorem dX10_comes_97 : decode cX10_comes 97 = .ok (.bastore, 1) := by decide +kernel
theorem dX10_comes_98 : decode cX10_comes 98 = .ok (.aload_n 0, 1) := by decide +kernel
theorem dX10_comes_99 : decode cX10_comes 99 = .ok (.getfield 42, 3) := by decide +kernel
theorem dX10_comes_102 : decode cX10_comes 102 = .ok (.iload_n 2, 1) := by decide +kernel
theorem dX10_comes_103 : decode cX10_comes 103 = .ok (.iconst 0, 1) := by decide +kernel
theorem dX10_comes_104 : decode cX10_comes 104 = .ok (.bastore, 1) := by decide +kernel
theorem dX10_comes_105 : decode cX10_comes 105 = .ok (.aload_n 0, 1) := by decide +kernel
theorem dX10_comes_106 : decode cX10_comes 106 = .ok (.getfield 38, 3) := by decide +kernel
theorem dX10_comes_109 : decode cX10_comes 109 = .ok (.iload_n 2, 1) := by decide +kernel
theorem dX10_comes_110 : decode cX10_comes 110 = .ok (.baload, 1) := by decide +kernel
theorem dX10_comes_111 : decode cX10_comes 111 = .ok (.ifCond .eq 52, 3) := by decide +kernel
theorem dX10_comes_114 : decode cX10_comes 114 = .ok (.aload_n 0, 1) := by decide +kernel
theorem dX10_comes_115 : decode cX10_comes 115 = .ok (.iload 6, 2) := by decide +kernel
theorem dX10_comes_117 : decode cX10_comes 117 = .ok (.putfield 194, 3) := by decide +kernel
theorem dX10_comes_120 : decode cX10_comes 120 = .ok (.aload_n 0, 1) := by decide +kernel
theorem dX10_comes_121 : decode cX10_comes 121 = .ok (.getfield 42, 3) := by decide +kernel
theorem dX10_comes_124 : decode cX10_comes 124 = .ok (.iload_n 2, 1) := by decide +kernel
theorem dX10_comes_125 : decode cX10_comes 125 = .ok (.aload_n 0, 1) := by decide +kernel
theorem dX10_comes_126 : decode cX10_comes 126 = .ok (.aload_n 0, 1) := by decide +kernel
theorem dX10_comes_127 : decode cX10_comes 127 = .ok (.getfield 104, 3) := by decide +kernel
theorem dX10_comes_130 : decode cX10_comes 130 = .ok (.iconst 2, 1) := by decide +kernel
theorem dX10_comes_131 : decode cX10_comes 131 = .ok (.invokevirtual 243, 3) := by decide +kernel
theorem dX10_comes_134 : decode cX10_comes 134 = .ok (.ifCond .eq 7, 3) := by decide +kernel
theorem dX10_comes_137 : decode cX10_comes 137 = .ok (.iconst 1, 1) := by decide +kernel
theorem dX10_comes_138 : decode cX10_comes 138 = .ok (.goto 4, 3) := by decide +kernel
theorem dX10_comes_141 : decode cX10_comes 141 = .ok (.iconst 0, 1) := by decide +kernel
theorem dX10_comes_142 : decode cX10_comes 142 = .ok (.bastore, 1) := by decide +kernel
theorem dX10_comes_143 : decode cX10_comes 143 = .ok (.aload_n 0, 1) := by decide +kernel
theorem dX10_comes_144 : decode cX10_comes 144 = .ok (.getfield 42, 3) := by decide +kernel
theorem dX10_comes_147 : decode cX10_comes 147 = .ok (.iload_n 2, 1) := by decide +kernel
theorem dX10_comes_148 : decode cX10_comes 148 = .ok (.baload, 1) := by decide +kernel
theorem dX10_comes_149 : decode cX10_comes 149 = .ok (.ifCond .eq 10, 3) := by decide +kernel
theorem dX10_comes_152 : decode cX10_comes 152 = .ok (.iload 6, 2) := by decide +kernel
theorem dX10_comes_154 : decode cX10_comes 154 = .ok (.iconst 2, 1) := by decide +kernel
theorem dX10_comes_155 : decode cX10_comes 155 = .ok (.idiv, 1) := by decide +kernel
theorem dX10_comes_156 : decode cX10_comes 156 = .ok (.goto 5, 3) := by decide +kernel
theorem dX10_comes_159 : decode cX10_comes 159 = .ok (.iload 6, 2) := by decide +kernel
theorem dX10_comes_161 : decode cX10_comes 161 = .ok (.istore 6, 2) := by decide +kernel
theorem dX10_comes_163 : decode cX10_comes 163 = .ok (.aload_n 0, 1) := by decide +kernel
theorem dX10_comes_164 : decode cX10_comes 164 = .ok (.getfield 35, 3) := by decide +kernel
theorem dX10_comes_167 : decode cX10_comes 167 = .ok (.iload_n 2, 1) := by decide +kernel
theorem dX10_comes_168 : decode cX10_comes 168 = .ok (.iconst 1, 1) := by decide +kernel
theorem dX10_comes_169 : decode cX10_comes 169 = .ok (.iadd, 1) := by decide +kernel
theorem dX10_comes_170 : decode cX10_comes 170 = .ok (.iload 6, 2) := by decide +kernel
theorem dX10_comes_172 : decode cX10_comes 172 = .ok (.iastore, 1) := by decide +kernel
theorem dX10_comes_173 : decode cX10_comes 173 = .ok (.return_, 1) := by decide +kernel
theorem dX10_isOrder_0 : decode cX10_isOrder 0 = .ok (.aload_n 0, 1) := by decide +kernel
theorem dX10_isOrder_1 : decode cX10_isOrder 1 = .ok (.getfield 66, 3) := by decide +kernel
theorem dX10_isOrder_4 : decode cX10_isOrder 4 = .ok (.iload_n 1, 1) := by decide +kernel
theorem dX10_isOrder_5 : decode cX10_isOrder 5 = .ok (.iaload, 1) := by decide +kernel
theorem dX10_isOrder_6 : decode cX10_isOrder 6 = .ok (.aload_n 0, 1) := by decide +kernel
theorem dX10_isOrder_7 : decode cX10_isOrder 7 = .ok (.getfield 79, 3) := by decide +kernel
theorem dX10_isOrder_10 : decode cX10_isOrder 10 = .ok (.if_icmp .le 5, 3) := by decide +kernel
theorem dX10_isOrder_13 : decode cX10_isOrder 13 = .ok (.iconst 0, 1) := by decide +kernel
theorem dX10_isOrder_14 : decode cX10_isOrder 14 = .ok (.ireturn, 1) := by decide +kernel
theorem dX10_isOrder_15 : decode cX10_isOrder 15 = .ok (.iconst 0, 1) := by decide +kernel
theorem dX10_isOrder_16 : decode cX10_isOrder 16 = .ok (.istore_n 2, 1) := by decide +kernel
theorem dX10_isOrder_17 : decode cX10_isOrder 17 = .ok (.iconst 0, 1) := by decide +kernel
theorem dX10_isOrder_18 : decode cX10_isOrder 18 = .ok (.istore_n 3, 1) := by decide +kernel
theorem dX10_isOrder_19 : decode cX10_isOrder 19 = .ok (.iload_n 3, 1) := by decide +kernel
theorem dX10_isOrder_20 : decode cX10_isOrder 20 = .ok (.aload_n 0, 1) := by decide +kernel
theorem dX10_isOrder_21 : decode cX10_isOrder 21 = .ok (.getfield 66, 3) := by decide +kernel
theorem dX10_isOrder_24 : decode cX10_isOrder 24 = .ok (.iload_n 1, 1) := by decide +kernel
theorem dX10_isOrder_25 : decode cX10_isOrder 25 = .ok (.iaload, 1) := by decide +kernel
theorem dX10_isOrder_26 : decode cX10_isOrder 26 = .ok (.if_icmp .ge 50, 3) := by decide +kernel
theorem dX10_isOrder_29 : decode cX10_isOrder 29 = .ok (.aload_n 0, 1) := by decide +kernel
theorem dX10_isOrder_30 : decode cX10_isOrder 30 = .ok (.getfield 69, 3) := by decide +kernel
theorem dX10_isOrder_33 : decode cX10_isOrder 33 = .ok (.bipush 40, 2) := by decide +kernel
theorem dX10_isOrder_35 : decode cX10_isOrder 35 = .ok (.iload_n 1, 1) := by decide +kernel
theorem dX10_isOrder_36 : decode cX10_isOrder 36 = .ok (.imul, 1) := by decide +kernel
theorem dX10_isOrder_37 : decode cX10_isOrder 37 = .ok (.iload_n 3, 1) := by decide +kernel
theorem dX10_isOrder_38 : decode cX10_isOrder 38 = .ok (.iadd, 1) := by decide +kernel
theorem dX10_isOrder_39 : decode cX10_isOrder 39 = .ok (.iaload, 1) := by decide +kernel
theorem dX10_isOrder_40 : decode cX10_isOrder 40 = .ok (.istore 4, 2) := by decide +kernel
theorem dX10_isOrder_42 : decode cX10_isOrder 42 = .ok (.aload_n 0, 1) := by decide +kernel
theorem dX10_isOrder_43 : decode cX10_isOrder 43 = .ok (.iload 4, 2) := by decide +kernel
theorem dX10_isOrder_45 : decode cX10_isOrder 45 = .ok (.invokevirtual 88, 3) := by decide +kernel
theorem dX10_isOrder_48 : decode cX10_isOrder 48 = .ok (.ifCond .eq 13, 3) := by decide +kernel
theorem dX10_isOrder_51 : decode cX10_isOrder 51 = .ok (.iload_n 2, 1) := by decide +kernel
theorem dX10_isOrder_52 : decode cX10_isOrder 52 = .ok (.iload 4, 2) := by decide +kernel
theorem dX10_isOrder_54 : decode cX10_isOrder 54 = .ok (.ishr, 1) := by decide +kernel
theorem dX10_isOrder_55 : decode cX10_isOrder 55 = .ok (.iconst 1, 1) := by decide +kernel
theorem dX10_isOrder_56 : decode cX10_isOrder 56 = .ok (.iand, 1) := by decide +kernel
theorem dX10_isOrder_57 : decode cX10_isOrder 57 = .ok (.iconst 1, 1) := by decide +kernel
theorem dX10_isOrder_58 : decode cX10_isOrder 58 = .ok (.if_icmp .ne 5, 3) := by decide +kernel
theorem dX10_isOrder_61 : decode cX10_isOrder 61 = .ok (.iconst 0, 1) := by decide +kernel
theorem dX10_isOrder_62 : decode cX10_isOrder 62 = .ok (.ireturn, 1) := by decide +kernel
theorem dX10_isOrder_63 : decode cX10_isOrder 63 = .ok (.iload_n 2, 1) := by decide +kernel
theorem dX10_isOrder_64 : decode cX10_isOrder 64 = .ok (.iconst 1, 1) := by decide +kernel
theorem dX10_isOrder_65 : decode cX10_isOrder 65 = .ok (.iload 4, 2) := by decide +kernel
theorem dX10_isOrder_67 : decode cX10_isOrder 67 = .ok (.ishl, 1) := by decide +kernel
theorem dX10_isOrder_68 : decode cX10_isOrder 68 = .ok (.ior, 1) := by decide +kernel
theorem dX10_isOrder_69 : decode cX10_isOrder 69 = .ok (.istore_n 2, 1) := by decide +kernel
theorem dX10_isOrder_70 : decode cX10_isOrder 70 = .ok (.iinc 3 1, 3) := by decide +kernel
theorem dX10_isOrder_73 : decode cX10_isOrder 73 = .ok (.goto (-54), 3) := by decide +kernel
theorem dX10_isOrder_76 : decode cX10_isOrder 76 = .ok (.iconst 1, 1) := by decide +kernel
theorem dX10_isOrder_77 : decode cX10_isOrder 77 = .ok (.ireturn, 1) := by decide +kernel
theorem dX10_screamsTill_0 : decode cX10_screamsTill 0 = .ok (.iconst 0, 1) := by decide +kernel
theorem dX10_screamsTill_1 : decode cX10_screamsTill 1 = .ok (.istore_n 2, 1) := by decide +kernel
theorem dX10_screamsTill_2 : decode cX10_screamsTill 2 = .ok (.iconst 0, 1) := by decide +kernel
theorem dX10_screamsTill_3 : decode cX10_screamsTill 3 = .ok (.istore_n 3, 1) := by decide +kernel
theorem dX10_screamsTill_4 : decode cX10_screamsTill 4 = .ok (.iload_n 3, 1) := by decide +kernel
theorem dX10_screamsTill_5 : decode cX10_screamsTill 5 = .ok (.iload_n 1, 1) := by decide +kernel
theorem dX10_screamsTill_6 : decode cX10_screamsTill 6 = .ok (.if_icmp .ge 26, 3) := by decide +kernel
theorem dX10_screamsTill_9 : decode cX10_screamsTill 9 = .ok (.iload_n 2, 1) := by decide +kernel
theorem dX10_screamsTill_10 : decode cX10_screamsTill 10 = .ok (.aload_n 0, 1) := by decide +kernel
theorem dX10_screamsTill_11 : decode cX10_screamsTill 11 = .ok (.getfield 42, 3) := by decide +kernel
theorem dX10_screamsTill_14 : decode cX10_screamsTill 14 = .ok (.iload_n 3, 1) := by decide +kernel
theorem dX10_screamsTill_15 : decode cX10_screamsTill 15 = .ok (.baload, 1) := by decide +kernel
theorem dX10_screamsTill_16 : decode cX10_screamsTill 16 = .ok (.ifCond .eq 7, 3) := by decide +kernel
theorem dX10_screamsTill_19 : decode cX10_screamsTill 19 = .ok (.iconst 1, 1) := by decide +kernel
theorem dX10_screamsTill_20 : decode cX10_screamsTill 20 = .ok (.goto 4, 3) := by decide +kernel
theorem dX10_screamsTill_23 : decode cX10_screamsTill 23 = .ok (.iconst 0, 1) := by decide +kernel
theorem dX10_screamsTill_24 : decode cX10_screamsTill 24 = .ok (.iadd, 1) := by decide +kernel
theorem dX10_screamsTill_25 : decode cX10_screamsTill 25 = .ok (.istore_n 2, 1) := by decide +kernel
theorem dX10_screamsTill_26 : decode cX10_screamsTill 26 = .ok (.iinc 3 1, 3) := by decide +kernel
theorem dX10_screamsTill_29 : decode cX10_screamsTill 29 = .ok (.goto (-25), 3) := by decide +kernel
theorem dX10_screamsTill_32 : decode cX10_screamsTill 32 = .ok (.iload_n 2, 1) := by decide +kernel
theorem dX10_screamsTill_33 : decode cX10_screamsTill 33 = .ok (.ireturn, 1) := by decide +kernel
theorem dX10_boilsAt_0 : decode cX10_boilsAt 0 = .ok (.iconst 0, 1) := by decide +kernel
theorem dX10_boilsAt_1 : decode cX10_boilsAt 1 = .ok (.istore_n 2, 1) := by decide +kernel
theorem dX10_boilsAt_2 : decode cX10_boilsAt 2 = .ok (.iload_n 2, 1) := by decide +kernel
theorem dX10_boilsAt_3 : decode cX10_boilsAt 3 = .ok (.iload_n 1, 1) := by decide +kernel
theorem dX10_boilsAt_4 : decode cX10_boilsAt 4 = .ok (.if_icmp .ge 20, 3) := by decide +kernel
theorem dX10_boilsAt_7 : decode cX10_boilsAt 7 = .ok (.aload_n 0, 1) := by decide +kernel
theorem dX10_boilsAt_8 : decode cX10_boilsAt 8 = .ok (.getfield 38, 3) := by decide +kernel
theorem dX10_boilsAt_11 : decode cX10_boilsAt 11 = .ok (.iload_n 2, 1) := by decide +kernel
theorem dX10_boilsAt_12 : decode cX10_boilsAt 12 = .ok (.baload, 1) := by decide +kernel
theorem dX10_boilsAt_13 : decode cX10_boilsAt 13 = .ok (.ifCond .eq 5, 3) := by decide +kernel
theorem dX10_boilsAt_16 : decode cX10_boilsAt 16 = .ok (.iload_n 2, 1) := by decide +kernel
theorem dX10_boilsAt_17 : decode cX10_boilsAt 17 = .ok (.ireturn, 1) := by decide +kernel
theorem dX10_boilsAt_18 : decode cX10_boilsAt 18 = .ok (.iinc 2 1, 3) := by decide +kernel
theorem dX10_boilsAt_21 : decode cX10_boilsAt 21 = .ok (.goto (-19), 3) := by decide +kernel
theorem dX10_boilsAt_24 : decode cX10_boilsAt 24 = .ok (.iconst (-1), 1) := by decide +kernel
theorem dX10_boilsAt_25 : decode cX10_boilsAt 25 = .ok (.ireturn, 1) := by decide +kernel
theorem dX10_goes_0 : decode cX10_goes 0 = .ok (.aload_n 0, 1) := by decide +kernel
theorem dX10_goes_1 : decode cX10_goes 1 = .ok (.invokevirtual 113, 3) := by decide +kernel
theorem dX10_goes_4 : decode cX10_goes 4 = .ok (.iconst 0, 1) := by decide +kernel
theorem dX10_goes_5 : decode cX10_goes 5 = .ok (.istore_n 2, 1) := by decide +kernel
theorem dX10_goes_6 : decode cX10_goes 6 = .ok (.iload_n 2, 1) := by decide +kernel
theorem dX10_goes_7 : decode cX10_goes 7 = .ok (.aload_n 0, 1) := by decide +kernel
theorem dX10_goes_8 : decode cX10_goes 8 = .ok (.getfield 66, 3) := by decide +kernel
theorem dX10_goes_11 : decode cX10_goes 11 = .ok (.iload_n 1, 1) := by decide +kernel
theorem dX10_goes_12 : decode cX10_goes 12 = .ok (.iaload, 1) := by decide +kernel
theorem dX10_goes_13 : decode cX10_goes 13 = .ok (.if_icmp .ge 25, 3) := by decide +kernel
theorem dX10_goes_16 : decode cX10_goes 16 = .ok (.aload_n 0, 1) := by decide +kernel
theorem dX10_goes_17 : decode cX10_goes 17 = .ok (.aload_n 0, 1) := by decide +kernel
theorem dX10_goes_18 : decode cX10_goes 18 = .ok (.getfield 69, 3) := by decide +kernel
theorem dX10_goes_21 : decode cX10_goes 21 = .ok (.bipush 40, 2) := by decide +kernel
theorem dX10_goes_23 : decode cX10_goes 23 = .ok (.iload_n 1, 1) := by decide +kernel
theorem dX10_goes_24 : decode cX10_goes 24 = .ok (.imul, 1) := by decide +kernel
theorem dX10_goes_25 : decode cX10_goes 25 = .ok (.iload_n 2, 1) := by decide +kernel
theorem dX10_goes_26 : decode cX10_goes 26 = .ok (.iadd, 1) := by decide +kernel
theorem dX10_goes_27 : decode cX10_goes 27 = .ok (.iaload, 1) := by decide +kernel
theorem dX10_goes_28 : decode cX10_goes 28 = .ok (.iload_n 2, 1) := by decide +kernel
theorem dX10_goes_29 : decode cX10_goes 29 = .ok (.invokevirtual 253, 3) := by decide +kernel
theorem dX10_goes_32 : decode cX10_goes 32 = .ok (.iinc 2 1, 3) := by decide +kernel
theorem dX10_goes_35 : decode cX10_goes 35 = .ok (.goto (-29), 3) := by decide +kernel
theorem dX10_goes_38 : decode cX10_goes 38 = .ok (.return_, 1) := by decide +kernel
theorem dX10_evening_0 : decode cX10_evening 0 = .ok (.iload_n 1, 1) := by decide +kernel
theorem dX10_evening_1 : decode cX10_evening 1 = .ok (.invokestatic 256, 3) := by decide +kernel
theorem dX10_evening_4 : decode cX10_evening 4 = .ok (.ifCond .eq 57, 3) := by decide +kernel
theorem dX10_evening_7 : decode cX10_evening 7 = .ok (.iload_n 2, 1) := by decide +kernel
theorem dX10_evening_8 : decode cX10_evening 8 = .ok (.i2l, 1) := by decide +kernel
theorem dX10_evening_9 : decode cX10_evening 9 = .ok (.lconst 0, 1) := by decide +kernel
theorem dX10_evening_10 : decode cX10_evening 10 = .ok (.ldc2_w 259, 3) := by decide +kernel
theorem dX10_evening_13 : decode cX10_evening 13 = .ok (.invokestatic 82, 3) := by decide +kernel
theorem dX10_evening_16 : decode cX10_evening 16 = .ok (.ifCond .ne 9, 3) := by decide +kernel
theorem dX10_evening_19 : decode cX10_evening 19 = .ok (.iload_n 2, 1) := by decide +kernel
theorem dX10_evening_20 : decode cX10_evening 20 = .ok (.bipush 10, 2) := by decide +kernel
theorem dX10_evening_22 : decode cX10_evening 22 = .ok (.if_icmp .lt 39, 3) := by decide +kernel
theorem dX10_evening_25 : decode cX10_evening 25 = .ok (.aload_n 0, 1) := by decide +kernel
theorem dX10_evening_26 : decode cX10_evening 26 = .ok (.getfield 60, 3) := by decide +kernel
theorem dX10_evening_29 : decode cX10_evening 29 = .ok (.iload_n 1, 1) := by decide +kernel
theorem dX10_evening_30 : decode cX10_evening 30 = .ok (.baload, 1) := by decide +kernel
theorem dX10_evening_31 : decode cX10_evening 31 = .ok (.ifCond .eq 30, 3) := by decide +kernel
theorem dX10_evening_34 : decode cX10_evening 34 = .ok (.aload_n 0, 1) := by decide +kernel
theorem dX10_evening_35 : decode cX10_evening 35 = .ok (.iload_n 1, 1) := by decide +kernel
theorem dX10_evening_36 : decode cX10_evening 36 = .ok (.invokevirtual 261, 3) := by decide +kernel
theorem dX10_evening_39 : decode cX10_evening 39 = .ok (.ifCond .eq 22, 3) := by decide +kernel
theorem dX10_evening_42 : decode cX10_evening 42 = .ok (.iload_n 2, 1) := by decide +kernel
theorem dX10_evening_43 : decode cX10_evening 43 = .ok (.bipush 9, 2) := by decide +kernel
theorem dX10_evening_45 : decode cX10_evening 45 = .ok (.if_icmp .le 20, 3) := by decide +kernel
theorem dX10_evening_48 : decode cX10_evening 48 = .ok (.iload_n 2, 1) := by decide +kernel
theorem dX10_evening_49 : decode cX10_evening 49 = .ok (.bipush 10, 2) := by decide +kernel
theorem dX10_evening_51 : decode cX10_evening 51 = .ok (.isub, 1) := by decide +kernel
theorem dX10_evening_52 : decode cX10_evening 52 = .ok (.aload_n 0, 1) := by decide +kernel
theorem dX10_evening_53 : decode cX10_evening 53 = .ok (.getfield 66, 3) := by decide +kernel
theorem dX10_evening_56 : decode cX10_evening 56 = .ok (.iload_n 1, 1) := by decide +kernel
theorem dX10_evening_57 : decode cX10_evening 57 = .ok (.iaload, 1) := by decide +kernel
theorem dX10_evening_58 : decode cX10_evening 58 = .ok (.if_icmp .lt 7, 3) := by decide +kernel
theorem dX10_evening_61 : decode cX10_evening 61 = .ok (.sipush (-1000), 3) := by decide +kernel
theorem dX10_evening_64 : decode cX10_evening 64 = .ok (.ireturn, 1) := by decide +kernel
theorem dX10_evening_65 : decode cX10_evening 65 = .ok (.aload_n 0, 1) := by decide +kernel
theorem dX10_evening_66 : decode cX10_evening 66 = .ok (.iload_n 1, 1) := by decide +kernel
theorem dX10_evening_67 : decode cX10_evening 67 = .ok (.invokevirtual 264, 3) := by decide +kernel
theorem dX10_evening_70 : decode cX10_evening 70 = .ok (.aload_n 0, 1) := by decide +kernel
theorem dX10_evening_71 : decode cX10_evening 71 = .ok (.getfield 66, 3) := by decide +kernel
theorem dX10_evening_74 : decode cX10_evening 74 = .ok (.iload_n 1, 1) := by decide +kernel
theorem dX10_evening_75 : decode cX10_evening 75 = .ok (.iaload, 1) := by decide +kernel
theorem dX10_evening_76 : decode cX10_evening 76 = .ok (.istore_n 3, 1) := by decide +kernel
theorem dX10_evening_77 : decode cX10_evening 77 = .ok (.iload_n 2, 1) := by decide +kernel
theorem dX10_evening_78 : decode cX10_evening 78 = .ok (.ifCond .ne 12, 3) := by decide +kernel
theorem dX10_evening_81 : decode cX10_evening 81 = .ok (.aload_n 0, 1) := by decide +kernel
theorem dX10_evening_82 : decode cX10_evening 82 = .ok (.getfield 35, 3) := by decide +kernel
theorem dX10_evening_85 : decode cX10_evening 85 = .ok (.iload_n 3, 1) := by decide +kernel
theorem dX10_evening_86 : decode cX10_evening 86 = .ok (.iaload, 1) := by decide +kernel
theorem dX10_evening_87 : decode cX10_evening 87 = .ok (.goto 38, 3) := by decide +kernel
theorem dX10_evening_90 : decode cX10_evening 90 = .ok (.iload_n 2, 1) := by decide +kernel
theorem dX10_evening_91 : decode cX10_evening 91 = .ok (.iconst 1, 1) := by decide +kernel
theorem dX10_evening_92 : decode cX10_evening 92 = .ok (.if_icmp .ne 11, 3) := by decide +kernel
theorem dX10_evening_95 : decode cX10_evening 95 = .ok (.aload_n 0, 1) := by decide +kernel
theorem dX10_evening_96 : decode cX10_evening 96 = .ok (.iload_n 3, 1) := by decide +kernel
theorem dX10_evening_97 : decode cX10_evening 97 = .ok (.invokevirtual 268, 3) := by decide +kernel
theorem dX10_evening_100 : decode cX10_evening 100 = .ok (.goto 25, 3) := by decide +kernel
theorem dX10_evening_103 : decode cX10_evening 103 = .ok (.iload_n 2, 1) := by decide +kernel
theorem dX10_evening_104 : decode cX10_evening 104 = .ok (.iconst 2, 1) := by decide +kernel
theorem dX10_evening_105 : decode cX10_evening 105 = .ok (.if_icmp .ne 11, 3) := by decide +kernel
theorem dX10_evening_108 : decode cX10_evening 108 = .ok (.aload_n 0, 1) := by decide +kernel
theorem dX10_evening_109 : decode cX10_evening 109 = .ok (.iload_n 3, 1) := by decide +kernel
theorem dX10_evening_110 : decode cX10_evening 110 = .ok (.invokevirtual 271, 3) := by decide +kernel
theorem dX10_evening_113 : decode cX10_evening 113 = .ok (.goto 12, 3) := by decide +kernel
theorem dX10_evening_116 : decode cX10_evening 116 = .ok (.aload_n 0, 1) := by decide +kernel
theorem dX10_evening_117 : decode cX10_evening 117 = .ok (.getfield 35, 3) := by decide +kernel
theorem dX10_evening_120 : decode cX10_evening 120 = .ok (.iload_n 2, 1) := by decide +kernel
theorem dX10_evening_121 : decode cX10_evening 121 = .ok (.bipush 9, 2) := by decide +kernel
theorem dX10_evening_123 : decode cX10_evening 123 = .ok (.isub, 1) := by decide +kernel
theorem dX10_evening_124 : decode cX10_evening 124 = .ok (.iaload, 1) := by decide +kernel
theorem dX10_evening_125 : decode cX10_evening 125 = .ok (.ireturn, 1) := by decide +kernel
theorem dX10_hold_0 : decode cX10_hold 0 = .ok (.iload_n 1, 1) := by decide +kernel
theorem dX10_hold_1 : decode cX10_hold 1 = .ok (.invokestatic 256, 3) := by decide +kernel
theorem dX10_hold_4 : decode cX10_hold 4 = .ok (.ifCond .ne 6, 3) := by decide +kernel
theorem dX10_hold_7 : decode cX10_hold 7 = .ok (.bipush (-2), 2) := by decide +kernel
theorem dX10_hold_9 : decode cX10_hold 9 = .ok (.ireturn, 1) := by decide +kernel
theorem dX10_hold_10 : decode cX10_hold 10 = .ok (.aload_n 0, 1) := by decide +kernel
theorem dX10_hold_11 : decode cX10_hold 11 = .ok (.getfield 60, 3) := by decide +kernel
theorem dX10_hold_14 : decode cX10_hold 14 = .ok (.iload_n 1, 1) := by decide +kernel
theorem dX10_hold_15 : decode cX10_hold 15 = .ok (.baload, 1) := by decide +kernel
theorem dX10_hold_16 : decode cX10_hold 16 = .ok (.ifCond .ne 6, 3) := by decide +kernel
theorem dX10_hold_19 : decode cX10_hold 19 = .ok (.bipush (-11), 2) := by decide +kernel
theorem dX10_hold_21 : decode cX10_hold 21 = .ok (.ireturn, 1) := by decide +kernel
theorem dX10_hold_22 : decode cX10_hold 22 = .ok (.aload_n 0, 1) := by decide +kernel
theorem dX10_hold_23 : decode cX10_hold 23 = .ok (.iload_n 1, 1) := by decide +kernel
theorem dX10_hold_24 : decode cX10_hold 24 = .ok (.invokevirtual 261, 3) := by decide +kernel
theorem dX10_hold_27 : decode cX10_hold 27 = .ok (.ifCond .ne 6, 3) := by decide +kernel
theorem dX10_hold_30 : decode cX10_hold 30 = .ok (.bipush (-2), 2) := by decide +kernel
theorem dX10_hold_32 : decode cX10_hold 32 = .ok (.ireturn, 1) := by decide +kernel
theorem dX10_hold_33 : decode cX10_hold 33 = .ok (.aload_n 0, 1) := by decide +kernel
theorem dX10_hold_34 : decode cX10_hold 34 = .ok (.getfield 23, 3) := by decide +kernel
theorem dX10_hold_37 : decode cX10_hold 37 = .ok (.iconst 2, 1) := by decide +kernel
theorem dX10_hold_38 : decode cX10_hold 38 = .ok (.iaload, 1) := by decide +kernel
theorem dX10_hold_39 : decode cX10_hold 39 = .ok (.sipush 999, 3) := by decide +kernel
theorem dX10_hold_42 : decode cX10_hold 42 = .ok (.if_icmp .ne 6, 3) := by decide +kernel
theorem dX10_hold_45 : decode cX10_hold 45 = .ok (.bipush (-3), 2) := by decide +kernel
theorem dX10_hold_47 : decode cX10_hold 47 = .ok (.ireturn, 1) := by decide +kernel
theorem dX10_hold_48 : decode cX10_hold 48 = .ok (.aload_n 0, 1) := by decide +kernel
theorem dX10_hold_49 : decode cX10_hold 49 = .ok (.iload_n 1, 1) := by decide +kernel
theorem dX10_hold_50 : decode cX10_hold 50 = .ok (.invokevirtual 264, 3) := by decide +kernel
theorem dX10_hold_53 : decode cX10_hold 53 = .ok (.aload_n 0, 1) := by decide +kernel
theorem dX10_hold_54 : decode cX10_hold 54 = .ok (.getfield 66, 3) := by decide +kernel
theorem dX10_hold_57 : decode cX10_hold 57 = .ok (.iload_n 1, 1) := by decide +kernel
theorem dX10_hold_58 : decode cX10_hold 58 = .ok (.iaload, 1) := by decide +kernel
theorem dX10_hold_59 : decode cX10_hold 59 = .ok (.istore_n 2, 1) := by decide +kernel
theorem dX10_hold_60 : decode cX10_hold 60 = .ok (.aload_n 0, 1) := by decide +kernel
theorem dX10_hold_61 : decode cX10_hold 61 = .ok (.getfield 23, 3) := by decide +kernel
theorem dX10_hold_64 : decode cX10_hold 64 = .ok (.iconst 0, 1) := by decide +kernel
theorem dX10_hold_65 : decode cX10_hold 65 = .ok (.aload_n 0, 1) := by decide +kernel
theorem dX10_hold_66 : decode cX10_hold 66 = .ok (.getfield 35, 3) := by decide +kernel
theorem dX10_hold_69 : decode cX10_hold 69 = .ok (.iload_n 2, 1) := by decide +kernel
theorem dX10_hold_70 : decode cX10_hold 70 = .ok (.iaload, 1) := by decide +kernel
theorem dX10_hold_71 : decode cX10_hold 71 = .ok (.iastore, 1) := by decide +kernel
theorem dX10_hold_72 : decode cX10_hold 72 = .ok (.aload_n 0, 1) := by decide +kernel
theorem dX10_hold_73 : decode cX10_hold 73 = .ok (.dup, 1) := by decide +kernel
theorem dX10_hold_74 : decode cX10_hold 74 = .ok (.getfield 274, 3) := by decide +kernel
theorem dX10_hold_77 : decode cX10_hold 77 = .ok (.aload_n 0, 1) := by decide +kernel
theorem dX10_hold_78 : decode cX10_hold 78 = .ok (.iload_n 2, 1) := by decide +kernel
theorem dX10_hold_79 : decode cX10_hold 79 = .ok (.invokevirtual 271, 3) := by decide +kernel
theorem dX10_hold_82 : decode cX10_hold 82 = .ok (.iadd, 1) := by decide +kernel
theorem dX10_hold_83 : decode cX10_hold 83 = .ok (.putfield 274, 3) := by decide +kernel
theorem dX10_hold_86 : decode cX10_hold 86 = .ok (.aload_n 0, 1) := by decide +kernel
theorem dX10_hold_87 : decode cX10_hold 87 = .ok (.getfield 23, 3) := by decide +kernel
theorem dX10_hold_90 : decode cX10_hold 90 = .ok (.iconst 2, 1) := by decide +kernel
theorem dX10_hold_91 : decode cX10_hold 91 = .ok (.dup2, 1) := by decide +kernel
theorem dX10_hold_92 : decode cX10_hold 92 = .ok (.iaload, 1) := by decide +kernel
theorem dX10_hold_93 : decode cX10_hold 93 = .ok (.iconst 1, 1) := by decide +kernel
theorem dX10_hold_94 : decode cX10_hold 94 = .ok (.iadd, 1) := by decide +kernel
theorem dX10_hold_95 : decode cX10_hold 95 = .ok (.iastore, 1) := by decide +kernel
theorem dX10_hold_96 : decode cX10_hold 96 = .ok (.aload_n 0, 1) := by decide +kernel
theorem dX10_hold_97 : decode cX10_hold 97 = .ok (.iload_n 2, 1) := by decide +kernel
theorem dX10_hold_98 : decode cX10_hold 98 = .ok (.invokevirtual 271, 3) := by decide +kernel
theorem dX10_hold_101 : decode cX10_hold 101 = .ok (.ireturn, 1) := by decide +kernel
theorem dX10_seeksWarmest_0 : decode cX10_seeksWarmest 0 = .ok (.iload_n 1, 1) := by decide +kernel
theorem dX10_seeksWarmest_1 : decode cX10_seeksWarmest 1 = .ok (.ifCond .ne 44, 3) := by decide +kernel
theorem dX10_seeksWarmest_4 : decode cX10_seeksWarmest 4 = .ok (.aload_n 0, 1) := by decide +kernel
theorem dX10_seeksWarmest_5 : decode cX10_seeksWarmest 5 = .ok (.getfield 277, 3) := by decide +kernel
theorem dX10_seeksWarmest_8 : decode cX10_seeksWarmest 8 = .ok (.ifCond .eq 16, 3) := by decide +kernel
theorem dX10_seeksWarmest_11 : decode cX10_seeksWarmest 11 = .ok (.aload_n 0, 1) := by decide +kernel
theorem dX10_seeksWarmest_12 : decode cX10_seeksWarmest 12 = .ok (.getfield 35, 3) := by decide +kernel
theorem dX10_seeksWarmest_15 : decode cX10_seeksWarmest 15 = .ok (.iload_n 2, 1) := by decide +kernel
theorem dX10_seeksWarmest_16 : decode cX10_seeksWarmest 16 = .ok (.iaload, 1) := by decide +kernel
theorem dX10_seeksWarmest_17 : decode cX10_seeksWarmest 17 = .ok (.aload_n 0, 1) := by decide +kernel
theorem dX10_seeksWarmest_18 : decode cX10_seeksWarmest 18 = .ok (.getfield 280, 3) := by decide +kernel
theorem dX10_seeksWarmest_21 : decode cX10_seeksWarmest 21 = .ok (.if_icmp .le 23, 3) := by decide +kernel
theorem dX10_seeksWarmest_24 : decode cX10_seeksWarmest 24 = .ok (.aload_n 0, 1) := by decide +kernel
theorem dX10_seeksWarmest_25 : decode cX10_seeksWarmest 25 = .ok (.iconst 1, 1) := by decide +kernel
theorem dX10_seeksWarmest_26 : decode cX10_seeksWarmest 26 = .ok (.putfield 277, 3) := by decide +kernel
theorem dX10_seeksWarmest_29 : decode cX10_seeksWarmest 29 = .ok (.aload_n 0, 1) := by decide +kernel
theorem dX10_seeksWarmest_30 : decode cX10_seeksWarmest 30 = .ok (.iload_n 3, 1) := by decide +kernel
theorem dX10_seeksWarmest_31 : decode cX10_seeksWarmest 31 = .ok (.putfield 283, 3) := by decide +kernel
theorem dX10_seeksWarmest_34 : decode cX10_seeksWarmest 34 = .ok (.aload_n 0, 1) := by decide +kernel
theorem dX10_seeksWarmest_35 : decode cX10_seeksWarmest 35 = .ok (.aload_n 0, 1) := by decide +kernel
theorem dX10_seeksWarmest_36 : decode cX10_seeksWarmest 36 = .ok (.getfield 35, 3) := by decide +kernel
theorem dX10_seeksWarmest_39 : decode cX10_seeksWarmest 39 = .ok (.iload_n 2, 1) := by decide +kernel
theorem dX10_seeksWarmest_40 : decode cX10_seeksWarmest 40 = .ok (.iaload, 1) := by decide +kernel
theorem dX10_seeksWarmest_41 : decode cX10_seeksWarmest 41 = .ok (.putfield 280, 3) := by decide +kernel
theorem dX10_seeksWarmest_44 : decode cX10_seeksWarmest 44 = .ok (.return_, 1) := by decide +kernel
theorem dX10_seeksWarmest_45 : decode cX10_seeksWarmest 45 = .ok (.iconst 0, 1) := by decide +kernel
theorem dX10_seeksWarmest_46 : decode cX10_seeksWarmest 46 = .ok (.istore 4, 2) := by decide +kernel
theorem dX10_seeksWarmest_48 : decode cX10_seeksWarmest 48 = .ok (.iload 4, 2) := by decide +kernel
theorem dX10_seeksWarmest_50 : decode cX10_seeksWarmest 50 = .ok (.aload_n 0, 1) := by decide +kernel
theorem dX10_seeksWarmest_51 : decode cX10_seeksWarmest 51 = .ok (.getfield 79, 3) := by decide +kernel
theorem dX10_seeksWarmest_54 : decode cX10_seeksWarmest 54 = .ok (.if_icmp .ge 50, 3) := by decide +kernel
theorem dX10_seeksWarmest_57 : decode cX10_seeksWarmest 57 = .ok (.iload_n 1, 1) := by decide +kernel
theorem dX10_seeksWarmest_58 : decode cX10_seeksWarmest 58 = .ok (.iload 4, 2) := by decide +kernel
theorem dX10_seeksWarmest_60 : decode cX10_seeksWarmest 60 = .ok (.ishr, 1) := by decide +kernel
theorem dX10_seeksWarmest_61 : decode cX10_seeksWarmest 61 = .ok (.iconst 1, 1) := by decide +kernel
theorem dX10_seeksWarmest_62 : decode cX10_seeksWarmest 62 = .ok (.iand, 1) := by decide +kernel
theorem dX10_seeksWarmest_63 : decode cX10_seeksWarmest 63 = .ok (.iconst 1, 1) := by decide +kernel
theorem dX10_seeksWarmest_64 : decode cX10_seeksWarmest 64 = .ok (.if_icmp .ne 34, 3) := by decide +kernel
theorem dX10_seeksWarmest_67 : decode cX10_seeksWarmest 67 = .ok (.aload_n 0, 1) := by decide +kernel
theorem dX10_seeksWarmest_68 : decode cX10_seeksWarmest 68 = .ok (.iload 4, 2) := by decide +kernel
theorem dX10_seeksWarmest_70 : decode cX10_seeksWarmest 70 = .ok (.iload_n 2, 1) := by decide +kernel
theorem dX10_seeksWarmest_71 : decode cX10_seeksWarmest 71 = .ok (.invokevirtual 253, 3) := by decide +kernel
theorem dX10_seeksWarmest_74 : decode cX10_seeksWarmest 74 = .ok (.aload_n 0, 1) := by decide +kernel
theorem dX10_seeksWarmest_75 : decode cX10_seeksWarmest 75 = .ok (.iload_n 1, 1) := by decide +kernel
theorem dX10_seeksWarmest_76 : decode cX10_seeksWarmest 76 = .ok (.iconst 1, 1) := by decide +kernel
theorem dX10_seeksWarmest_77 : decode cX10_seeksWarmest 77 = .ok (.iload 4, 2) := by decide +kernel
theorem dX10_seeksWarmest_79 : decode cX10_seeksWarmest 79 = .ok (.ishl, 1) := by decide +kernel
theorem dX10_seeksWarmest_80 : decode cX10_seeksWarmest 80 = .ok (.iconst (-1), 1) := by decide +kernel
theorem dX10_seeksWarmest_81 : decode cX10_seeksWarmest 81 = .ok (.ixor, 1) := by decide +kernel
theorem dX10_seeksWarmest_82 : decode cX10_seeksWarmest 82 = .ok (.iand, 1) := by decide +kernel
theorem dX10_seeksWarmest_83 : decode cX10_seeksWarmest 83 = .ok (.iload_n 2, 1) := by decide +kernel
theorem dX10_seeksWarmest_84 : decode cX10_seeksWarmest 84 = .ok (.iconst 1, 1) := by decide +kernel
theorem dX10_seeksWarmest_85 : decode cX10_seeksWarmest 85 = .ok (.iadd, 1) := by decide +kernel
theorem dX10_seeksWarmest_86 : decode cX10_seeksWarmest 86 = .ok (.bipush 10, 2) := by decide +kernel
theorem dX10_seeksWarmest_88 : decode cX10_seeksWarmest 88 = .ok (.iload_n 3, 1) := by decide +kernel
theorem dX10_seeksWarmest_89 : decode cX10_seeksWarmest 89 = .ok (.imul, 1) := by decide +kernel
theorem dX10_seeksWarmest_90 : decode cX10_seeksWarmest 90 = .ok (.iload 4, 2) := by decide +kernel
theorem dX10_seeksWarmest_92 : decode cX10_seeksWarmest 92 = .ok (.iadd, 1) := by decide +kernel
theorem dX10_seeksWarmest_93 : decode cX10_seeksWarmest 93 = .ok (.iconst 1, 1) := by decide +kernel
theorem dX10_seeksWarmest_94 : decode cX10_seeksWarmest 94 = .ok (.iadd, 1) := by decide +kernel
theorem dX10_seeksWarmest_95 : decode cX10_seeksWarmest 95 = .ok (.invokevirtual 286, 3) := by decide +kernel
theorem dX10_seeksWarmest_98 : decode cX10_seeksWarmest 98 = .ok (.iinc 4 1, 3) := by decide +kernel
theorem dX10_seeksWarmest_101 : decode cX10_seeksWarmest 101 = .ok (.goto (-53), 3) := by decide +kernel
theorem dX10_seeksWarmest_104 : decode cX10_seeksWarmest 104 = .ok (.return_, 1) := by decide +kernel
theorem dX10_warmestOf_0 : decode cX10_warmestOf 0 = .ok (.aload_n 0, 1) := by decide +kernel
theorem dX10_warmestOf_1 : decode cX10_warmestOf 1 = .ok (.invokevirtual 113, 3) := by decide +kernel
theorem dX10_warmestOf_4 : decode cX10_warmestOf 4 = .ok (.aload_n 0, 1) := by decide +kernel
theorem dX10_warmestOf_5 : decode cX10_warmestOf 5 = .ok (.iconst 0, 1) := by decide +kernel
theorem dX10_warmestOf_6 : decode cX10_warmestOf 6 = .ok (.putfield 277, 3) := by decide +kernel
theorem dX10_warmestOf_9 : decode cX10_warmestOf 9 = .ok (.aload_n 0, 1) := by decide +kernel
theorem dX10_warmestOf_10 : decode cX10_warmestOf 10 = .ok (.iload_n 1, 1) := by decide +kernel
theorem dX10_warmestOf_11 : decode cX10_warmestOf 11 = .ok (.iconst 0, 1) := by decide +kernel
theorem dX10_warmestOf_12 : decode cX10_warmestOf 12 = .ok (.iconst 0, 1) := by decide +kernel
theorem dX10_warmestOf_13 : decode cX10_warmestOf 13 = .ok (.invokevirtual 286, 3) := by decide +kernel
theorem dX10_warmestOf_16 : decode cX10_warmestOf 16 = .ok (.aload_n 0, 1) := by decide +kernel
theorem dX10_warmestOf_17 : decode cX10_warmestOf 17 = .ok (.getfield 280, 3) := by decide +kernel
theorem dX10_warmestOf_20 : decode cX10_warmestOf 20 = .ok (.ireturn, 1) := by decide +kernel
theorem dX10_everybody_0 : decode cX10_everybody 0 = .ok (.iconst 1, 1) := by decide +kernel
theorem dX10_everybody_1 : decode cX10_everybody 1 = .ok (.aload_n 0, 1) := by decide +kernel
theorem dX10_everybody_2 : decode cX10_everybody 2 = .ok (.getfield 79, 3) := by decide +kernel
theorem dX10_everybody_5 : decode cX10_everybody 5 = .ok (.ishl, 1) := by decide +kernel
theorem dX10_everybody_6 : decode cX10_everybody 6 = .ok (.iconst 1, 1) := by decide +kernel
theorem dX10_everybody_7 : decode cX10_everybody 7 = .ok (.isub, 1) := by decide +kernel
theorem dX10_everybody_8 : decode cX10_everybody 8 = .ok (.ireturn, 1) := by decide +kernel
theorem dX10_warmest_0 : decode cX10_warmest 0 = .ok (.iload_n 1, 1) := by decide +kernel
theorem dX10_warmest_1 : decode cX10_warmest 1 = .ok (.i2l, 1) := by decide +kernel
theorem dX10_warmest_2 : decode cX10_warmest 2 = .ok (.lconst 0, 1) := by decide +kernel
theorem dX10_warmest_3 : decode cX10_warmest 3 = .ok (.lconst 1, 1) := by decide +kernel
theorem dX10_warmest_4 : decode cX10_warmest 4 = .ok (.invokestatic 82, 3) := by decide +kernel
theorem dX10_warmest_7 : decode cX10_warmest 7 = .ok (.ifCond .ne 6, 3) := by decide +kernel
theorem dX10_warmest_10 : decode cX10_warmest 10 = .ok (.bipush (-2), 2) := by decide +kernel
theorem dX10_warmest_12 : decode cX10_warmest 12 = .ok (.ireturn, 1) := by decide +kernel
theorem dX10_warmest_13 : decode cX10_warmest 13 = .ok (.aload_n 0, 1) := by decide +kernel
theorem dX10_warmest_14 : decode cX10_warmest 14 = .ok (.aload_n 0, 1) := by decide +kernel
theorem dX10_warmest_15 : decode cX10_warmest 15 = .ok (.invokevirtual 289, 3) := by decide +kernel
theorem dX10_warmest_18 : decode cX10_warmest 18 = .ok (.invokevirtual 292, 3) := by decide +kernel
theorem dX10_warmest_21 : decode cX10_warmest 21 = .ok (.istore_n 2, 1) := by decide +kernel
theorem dX10_warmest_22 : decode cX10_warmest 22 = .ok (.iload_n 1, 1) := by decide +kernel
theorem dX10_warmest_23 : decode cX10_warmest 23 = .ok (.ifCond .ne 10, 3) := by decide +kernel
theorem dX10_warmest_26 : decode cX10_warmest 26 = .ok (.aload_n 0, 1) := by decide +kernel
theorem dX10_warmest_27 : decode cX10_warmest 27 = .ok (.getfield 283, 3) := by decide +kernel
theorem dX10_warmest_30 : decode cX10_warmest 30 = .ok (.goto 4, 3) := by decide +kernel
theorem dX10_warmest_33 : decode cX10_warmest 33 = .ok (.iload_n 2, 1) := by decide +kernel
theorem dX10_warmest_34 : decode cX10_warmest 34 = .ok (.ireturn, 1) := by decide +kernel
theorem dX10_seeksSoonest_0 : decode cX10_seeksSoonest 0 = .ok (.iload_n 1, 1) := by decide +kernel
theorem dX10_seeksSoonest_1 : decode cX10_seeksSoonest 1 = .ok (.ifCond .ne 49, 3) := by decide +kernel
theorem dX10_seeksSoonest_4 : decode cX10_seeksSoonest 4 = .ok (.aload_n 0, 1) := by decide +kernel
theorem dX10_seeksSoonest_5 : decode cX10_seeksSoonest 5 = .ok (.iload_n 2, 1) := by decide +kernel
theorem dX10_seeksSoonest_6 : decode cX10_seeksSoonest 6 = .ok (.invokevirtual 268, 3) := by decide +kernel
theorem dX10_seeksSoonest_9 : decode cX10_seeksSoonest 9 = .ok (.istore 4, 2) := by decide +kernel
theorem dX10_seeksSoonest_11 : decode cX10_seeksSoonest 11 = .ok (.iload 4, 2) := by decide +kernel
theorem dX10_seeksSoonest_13 : decode cX10_seeksSoonest 13 = .ok (.iconst (-1), 1) := by decide +kernel
theorem dX10_seeksSoonest_14 : decode cX10_seeksSoonest 14 = .ok (.if_icmp .eq 35, 3) := by decide +kernel
theorem dX10_seeksSoonest_17 : decode cX10_seeksSoonest 17 = .ok (.aload_n 0, 1) := by decide +kernel
theorem dX10_seeksSoonest_18 : decode cX10_seeksSoonest 18 = .ok (.getfield 277, 3) := by decide +kernel
theorem dX10_seeksSoonest_21 : decode cX10_seeksSoonest 21 = .ok (.ifCond .eq 12, 3) := by decide +kernel
theorem dX10_seeksSoonest_24 : decode cX10_seeksSoonest 24 = .ok (.iload 4, 2) := by decide +kernel
theorem dX10_seeksSoonest_26 : decode cX10_seeksSoonest 26 = .ok (.aload_n 0, 1) := by decide +kernel
theorem dX10_seeksSoonest_27 : decode cX10_seeksSoonest 27 = .ok (.getfield 280, 3) := by decide +kernel
theorem dX10_seeksSoonest_30 : decode cX10_seeksSoonest 30 = .ok (.if_icmp .ge 19, 3) := by decide +kernel
theorem dX10_seeksSoonest_33 : decode cX10_seeksSoonest 33 = .ok (.aload_n 0, 1) := by decide +kernel
theorem dX10_seeksSoonest_34 : decode cX10_seeksSoonest 34 = .ok (.iconst 1, 1) := by decide +kernel
theorem dX10_seeksSoonest_35 : decode cX10_seeksSoonest 35 = .ok (.putfield 277, 3) := by decide +kernel
theorem dX10_seeksSoonest_38 : decode cX10_seeksSoonest 38 = .ok (.aload_n 0, 1) := by decide +kernel
theorem dX10_seeksSoonest_39 : decode cX10_seeksSoonest 39 = .ok (.iload_n 3, 1) := by decide +kernel
theorem dX10_seeksSoonest_40 : decode cX10_seeksSoonest 40 = .ok (.putfield 283, 3) := by decide +kernel
theorem dX10_seeksSoonest_43 : decode cX10_seeksSoonest 43 = .ok (.aload_n 0, 1) := by decide +kernel
theorem dX10_seeksSoonest_44 : decode cX10_seeksSoonest 44 = .ok (.iload 4, 2) := by decide +kernel
theorem dX10_seeksSoonest_46 : decode cX10_seeksSoonest 46 = .ok (.putfield 280, 3) := by decide +kernel
theorem dX10_seeksSoonest_49 : decode cX10_seeksSoonest 49 = .ok (.return_, 1) := by decide +kernel
theorem dX10_seeksSoonest_50 : decode cX10_seeksSoonest 50 = .ok (.iconst 0, 1) := by decide +kernel
theorem dX10_seeksSoonest_51 : decode cX10_seeksSoonest 51 = .ok (.istore 4, 2) := by decide +kernel
theorem dX10_seeksSoonest_53 : decode cX10_seeksSoonest 53 = .ok (.iload 4, 2) := by decide +kernel
theorem dX10_seeksSoonest_55 : decode cX10_seeksSoonest 55 = .ok (.aload_n 0, 1) := by decide +kernel
theorem dX10_seeksSoonest_56 : decode cX10_seeksSoonest 56 = .ok (.getfield 79, 3) := by decide +kernel
theorem dX10_seeksSoonest_59 : decode cX10_seeksSoonest 59 = .ok (.if_icmp .ge 50, 3) := by decide +kernel
theorem dX10_seeksSoonest_62 : decode cX10_seeksSoonest 62 = .ok (.iload_n 1, 1) := by decide +kernel
theorem dX10_seeksSoonest_63 : decode cX10_seeksSoonest 63 = .ok (.iload 4, 2) := by decide +kernel
theorem dX10_seeksSoonest_65 : decode cX10_seeksSoonest 65 = .ok (.ishr, 1) := by decide +kernel
theorem dX10_seeksSoonest_66 : decode cX10_seeksSoonest 66 = .ok (.iconst 1, 1) := by decide +kernel
theorem dX10_seeksSoonest_67 : decode cX10_seeksSoonest 67 = .ok (.iand, 1) := by decide +kernel
theorem dX10_seeksSoonest_68 : decode cX10_seeksSoonest 68 = .ok (.iconst 1, 1) := by decide +kernel
theorem dX10_seeksSoonest_69 : decode cX10_seeksSoonest 69 = .ok (.if_icmp .ne 34, 3) := by decide +kernel
theorem dX10_seeksSoonest_72 : decode cX10_seeksSoonest 72 = .ok (.aload_n 0, 1) := by decide +kernel
theorem dX10_seeksSoonest_73 : decode cX10_seeksSoonest 73 = .ok (.iload 4, 2) := by decide +kernel
theorem dX10_seeksSoonest_75 : decode cX10_seeksSoonest 75 = .ok (.iload_n 2, 1) := by decide +kernel
theorem dX10_seeksSoonest_76 : decode cX10_seeksSoonest 76 = .ok (.invokevirtual 253, 3) := by decide +kernel
theorem dX10_seeksSoonest_79 : decode cX10_seeksSoonest 79 = .ok (.aload_n 0, 1) := by decide +kernel
theorem dX10_seeksSoonest_80 : decode cX10_seeksSoonest 80 = .ok (.iload_n 1, 1) := by decide +kernel
theorem dX10_seeksSoonest_81 : decode cX10_seeksSoonest 81 = .ok (.iconst 1, 1) := by decide +kernel
theorem dX10_seeksSoonest_82 : decode cX10_seeksSoonest 82 = .ok (.iload 4, 2) := by decide +kernel
theorem dX10_seeksSoonest_84 : decode cX10_seeksSoonest 84 = .ok (.ishl, 1) := by decide +kernel
theorem dX10_seeksSoonest_85 : decode cX10_seeksSoonest 85 = .ok (.iconst (-1), 1) := by decide +kernel
theorem dX10_seeksSoonest_86 : decode cX10_seeksSoonest 86 = .ok (.ixor, 1) := by decide +kernel
theorem dX10_seeksSoonest_87 : decode cX10_seeksSoonest 87 = .ok (.iand, 1) := by decide +kernel
theorem dX10_seeksSoonest_88 : decode cX10_seeksSoonest 88 = .ok (.iload_n 2, 1) := by decide +kernel
theorem dX10_seeksSoonest_89 : decode cX10_seeksSoonest 89 = .ok (.iconst 1, 1) := by decide +kernel
theorem dX10_seeksSoonest_90 : decode cX10_seeksSoonest 90 = .ok (.iadd, 1) := by decide +kernel
theorem dX10_seeksSoonest_91 : decode cX10_seeksSoonest 91 = .ok (.bipush 10, 2) := by decide +kernel
theorem dX10_seeksSoonest_93 : decode cX10_seeksSoonest 93 = .ok (.iload_n 3, 1) := by decide +kernel
theorem dX10_seeksSoonest_94 : decode cX10_seeksSoonest 94 = .ok (.imul, 1) := by decide +kernel
theorem dX10_seeksSoonest_95 : decode cX10_seeksSoonest 95 = .ok (.iload 4, 2) := by decide +kernel
theorem dX10_seeksSoonest_97 : decode cX10_seeksSoonest 97 = .ok (.iadd, 1) := by decide +kernel
theorem dX10_seeksSoonest_98 : decode cX10_seeksSoonest 98 = .ok (.iconst 1, 1) := by decide +kernel
theorem dX10_seeksSoonest_99 : decode cX10_seeksSoonest 99 = .ok (.iadd, 1) := by decide +kernel
theorem dX10_seeksSoonest_100 : decode cX10_seeksSoonest 100 = .ok (.invokevirtual 295, 3) := by decide +kernel
theorem dX10_seeksSoonest_103 : decode cX10_seeksSoonest 103 = .ok (.iinc 4 1, 3) := by decide +kernel
theorem dX10_seeksSoonest_106 : decode cX10_seeksSoonest 106 = .ok (.goto (-53), 3) := by decide +kernel
theorem dX10_seeksSoonest_109 : decode cX10_seeksSoonest 109 = .ok (.return_, 1) := by decide +kernel
theorem dX10_seeksFew_0 : decode cX10_seeksFew 0 = .ok (.iload_n 2, 1) := by decide +kernel
theorem dX10_seeksFew_1 : decode cX10_seeksFew 1 = .ok (.iload_n 3, 1) := by decide +kernel
theorem dX10_seeksFew_2 : decode cX10_seeksFew 2 = .ok (.if_icmp .ne 21, 3) := by decide +kernel
theorem dX10_seeksFew_5 : decode cX10_seeksFew 5 = .ok (.aload_n 0, 1) := by decide +kernel
theorem dX10_seeksFew_6 : decode cX10_seeksFew 6 = .ok (.getfield 38, 3) := by decide +kernel
theorem dX10_seeksFew_9 : decode cX10_seeksFew 9 = .ok (.iload_n 2, 1) := by decide +kernel
theorem dX10_seeksFew_10 : decode cX10_seeksFew 10 = .ok (.iconst 1, 1) := by decide +kernel
theorem dX10_seeksFew_11 : decode cX10_seeksFew 11 = .ok (.isub, 1) := by decide +kernel
theorem dX10_seeksFew_12 : decode cX10_seeksFew 12 = .ok (.baload, 1) := by decide +kernel
theorem dX10_seeksFew_13 : decode cX10_seeksFew 13 = .ok (.ifCond .eq 8, 3) := by decide +kernel
theorem dX10_seeksFew_16 : decode cX10_seeksFew 16 = .ok (.iload 4, 2) := by decide +kernel
theorem dX10_seeksFew_18 : decode cX10_seeksFew 18 = .ok (.goto 4, 3) := by decide +kernel
theorem dX10_seeksFew_21 : decode cX10_seeksFew 21 = .ok (.iconst (-1), 1) := by decide +kernel
theorem dX10_seeksFew_22 : decode cX10_seeksFew 22 = .ok (.ireturn, 1) := by decide +kernel
theorem dX10_seeksFew_23 : decode cX10_seeksFew 23 = .ok (.iconst 0, 1) := by decide +kernel
theorem dX10_seeksFew_24 : decode cX10_seeksFew 24 = .ok (.istore 5, 2) := by decide +kernel
theorem dX10_seeksFew_26 : decode cX10_seeksFew 26 = .ok (.iload 5, 2) := by decide +kernel
theorem dX10_seeksFew_28 : decode cX10_seeksFew 28 = .ok (.aload_n 0, 1) := by decide +kernel
theorem dX10_seeksFew_29 : decode cX10_seeksFew 29 = .ok (.getfield 79, 3) := by decide +kernel
theorem dX10_seeksFew_32 : decode cX10_seeksFew 32 = .ok (.if_icmp .ge 63, 3) := by decide +kernel
theorem dX10_seeksFew_35 : decode cX10_seeksFew 35 = .ok (.iload_n 1, 1) := by decide +kernel
theorem dX10_seeksFew_36 : decode cX10_seeksFew 36 = .ok (.iload 5, 2) := by decide +kernel
theorem dX10_seeksFew_38 : decode cX10_seeksFew 38 = .ok (.ishr, 1) := by decide +kernel
theorem dX10_seeksFew_39 : decode cX10_seeksFew 39 = .ok (.iconst 1, 1) := by decide +kernel
theorem dX10_seeksFew_40 : decode cX10_seeksFew 40 = .ok (.iand, 1) := by decide +kernel
theorem dX10_seeksFew_41 : decode cX10_seeksFew 41 = .ok (.iconst 1, 1) := by decide +kernel
theorem dX10_seeksFew_42 : decode cX10_seeksFew 42 = .ok (.if_icmp .ne 47, 3) := by decide +kernel
theorem dX10_seeksFew_45 : decode cX10_seeksFew 45 = .ok (.aload_n 0, 1) := by decide +kernel
theorem dX10_seeksFew_46 : decode cX10_seeksFew 46 = .ok (.iload 5, 2) := by decide +kernel
theorem dX10_seeksFew_48 : decode cX10_seeksFew 48 = .ok (.iload_n 2, 1) := by decide +kernel
theorem dX10_seeksFew_49 : decode cX10_seeksFew 49 = .ok (.invokevirtual 253, 3) := by decide +kernel
theorem dX10_seeksFew_52 : decode cX10_seeksFew 52 = .ok (.aload_n 0, 1) := by decide +kernel
theorem dX10_seeksFew_53 : decode cX10_seeksFew 53 = .ok (.iload_n 1, 1) := by decide +kernel
theorem dX10_seeksFew_54 : decode cX10_seeksFew 54 = .ok (.iconst 1, 1) := by decide +kernel
theorem dX10_seeksFew_55 : decode cX10_seeksFew 55 = .ok (.iload 5, 2) := by decide +kernel
theorem dX10_seeksFew_57 : decode cX10_seeksFew 57 = .ok (.ishl, 1) := by decide +kernel
theorem dX10_seeksFew_58 : decode cX10_seeksFew 58 = .ok (.iconst (-1), 1) := by decide +kernel
theorem dX10_seeksFew_59 : decode cX10_seeksFew 59 = .ok (.ixor, 1) := by decide +kernel
theorem dX10_seeksFew_60 : decode cX10_seeksFew 60 = .ok (.iand, 1) := by decide +kernel
theorem dX10_seeksFew_61 : decode cX10_seeksFew 61 = .ok (.iload_n 2, 1) := by decide +kernel
theorem dX10_seeksFew_62 : decode cX10_seeksFew 62 = .ok (.iconst 1, 1) := by decide +kernel
theorem dX10_seeksFew_63 : decode cX10_seeksFew 63 = .ok (.iadd, 1) := by decide +kernel
theorem dX10_seeksFew_64 : decode cX10_seeksFew 64 = .ok (.iload_n 3, 1) := by decide +kernel
theorem dX10_seeksFew_65 : decode cX10_seeksFew 65 = .ok (.bipush 10, 2) := by decide +kernel
theorem dX10_seeksFew_67 : decode cX10_seeksFew 67 = .ok (.iload 4, 2) := by decide +kernel
theorem dX10_seeksFew_69 : decode cX10_seeksFew 69 = .ok (.imul, 1) := by decide +kernel
theorem dX10_seeksFew_70 : decode cX10_seeksFew 70 = .ok (.iload 5, 2) := by decide +kernel
theorem dX10_seeksFew_72 : decode cX10_seeksFew 72 = .ok (.iadd, 1) := by decide +kernel
theorem dX10_seeksFew_73 : decode cX10_seeksFew 73 = .ok (.iconst 1, 1) := by decide +kernel
theorem dX10_seeksFew_74 : decode cX10_seeksFew 74 = .ok (.iadd, 1) := by decide +kernel
theorem dX10_seeksFew_75 : decode cX10_seeksFew 75 = .ok (.invokevirtual 298, 3) := by decide +kernel
theorem dX10_seeksFew_78 : decode cX10_seeksFew 78 = .ok (.istore 6, 2) := by decide +kernel
theorem dX10_seeksFew_80 : decode cX10_seeksFew 80 = .ok (.iload 6, 2) := by decide +kernel
theorem dX10_seeksFew_82 : decode cX10_seeksFew 82 = .ok (.iconst (-1), 1) := by decide +kernel
theorem dX10_seeksFew_83 : decode cX10_seeksFew 83 = .ok (.if_icmp .eq 6, 3) := by decide +kernel
theorem dX10_seeksFew_86 : decode cX10_seeksFew 86 = .ok (.iload 6, 2) := by decide +kernel
theorem dX10_seeksFew_88 : decode cX10_seeksFew 88 = .ok (.ireturn, 1) := by decide +kernel
theorem dX10_seeksFew_89 : decode cX10_seeksFew 89 = .ok (.iinc 5 1, 3) := by decide +kernel
theorem dX10_seeksFew_92 : decode cX10_seeksFew 92 = .ok (.goto (-66), 3) := by decide +kernel
theorem dX10_seeksFew_95 : decode cX10_seeksFew 95 = .ok (.iconst (-1), 1) := by decide +kernel
theorem dX10_seeksFew_96 : decode cX10_seeksFew 96 = .ok (.ireturn, 1) := by decide +kernel
theorem dX10_soonest_0 : decode cX10_soonest 0 = .ok (.iload_n 1, 1) := by decide +kernel
theorem dX10_soonest_1 : decode cX10_soonest 1 = .ok (.i2l, 1) := by decide +kernel
theorem dX10_soonest_2 : decode cX10_soonest 2 = .ok (.lconst 0, 1) := by decide +kernel
theorem dX10_soonest_3 : decode cX10_soonest 3 = .ok (.ldc2_w 302, 3) := by decide +kernel
theorem dX10_soonest_6 : decode cX10_soonest 6 = .ok (.invokestatic 82, 3) := by decide +kernel
theorem dX10_soonest_9 : decode cX10_soonest 9 = .ok (.ifCond .ne 6, 3) := by decide +kernel
theorem dX10_soonest_12 : decode cX10_soonest 12 = .ok (.bipush (-2), 2) := by decide +kernel
theorem dX10_soonest_14 : decode cX10_soonest 14 = .ok (.ireturn, 1) := by decide +kernel
theorem dX10_soonest_15 : decode cX10_soonest 15 = .ok (.aload_n 0, 1) := by decide +kernel
theorem dX10_soonest_16 : decode cX10_soonest 16 = .ok (.invokevirtual 113, 3) := by decide +kernel
theorem dX10_soonest_19 : decode cX10_soonest 19 = .ok (.iload_n 1, 1) := by decide +kernel
theorem dX10_soonest_20 : decode cX10_soonest 20 = .ok (.iconst 2, 1) := by decide +kernel
theorem dX10_soonest_21 : decode cX10_soonest 21 = .ok (.if_icmp .ge 45, 3) := by decide +kernel
theorem dX10_soonest_24 : decode cX10_soonest 24 = .ok (.aload_n 0, 1) := by decide +kernel
theorem dX10_soonest_25 : decode cX10_soonest 25 = .ok (.iconst 0, 1) := by decide +kernel
theorem dX10_soonest_26 : decode cX10_soonest 26 = .ok (.putfield 277, 3) := by decide +kernel
theorem dX10_soonest_29 : decode cX10_soonest 29 = .ok (.aload_n 0, 1) := by decide +kernel
theorem dX10_soonest_30 : decode cX10_soonest 30 = .ok (.aload_n 0, 1) := by decide +kernel
theorem dX10_soonest_31 : decode cX10_soonest 31 = .ok (.invokevirtual 289, 3) := by decide +kernel
theorem dX10_soonest_34 : decode cX10_soonest 34 = .ok (.iconst 0, 1) := by decide +kernel
theorem dX10_soonest_35 : decode cX10_soonest 35 = .ok (.iconst 0, 1) := by decide +kernel
theorem dX10_soonest_36 : decode cX10_soonest 36 = .ok (.invokevirtual 295, 3) := by decide +kernel
theorem dX10_soonest_39 : decode cX10_soonest 39 = .ok (.aload_n 0, 1) := by decide +kernel
theorem dX10_soonest_40 : decode cX10_soonest 40 = .ok (.getfield 277, 3) := by decide +kernel
theorem dX10_soonest_43 : decode cX10_soonest 43 = .ok (.ifCond .ne 7, 3) := by decide +kernel
theorem dX10_soonest_46 : decode cX10_soonest 46 = .ok (.iconst (-1), 1) := by decide +kernel
theorem dX10_soonest_47 : decode cX10_soonest 47 = .ok (.goto 18, 3) := by decide +kernel
theorem dX10_soonest_50 : decode cX10_soonest 50 = .ok (.iload_n 1, 1) := by decide +kernel
theorem dX10_soonest_51 : decode cX10_soonest 51 = .ok (.ifCond .ne 10, 3) := by decide +kernel
theorem dX10_soonest_54 : decode cX10_soonest 54 = .ok (.aload_n 0, 1) := by decide +kernel
theorem dX10_soonest_55 : decode cX10_soonest 55 = .ok (.getfield 283, 3) := by decide +kernel
theorem dX10_soonest_58 : decode cX10_soonest 58 = .ok (.goto 7, 3) := by decide +kernel
theorem dX10_soonest_61 : decode cX10_soonest 61 = .ok (.aload_n 0, 1) := by decide +kernel
theorem dX10_soonest_62 : decode cX10_soonest 62 = .ok (.getfield 280, 3) := by decide +kernel
theorem dX10_soonest_65 : decode cX10_soonest 65 = .ok (.ireturn, 1) := by decide +kernel
theorem dX10_soonest_66 : decode cX10_soonest 66 = .ok (.iconst 1, 1) := by decide +kernel
theorem dX10_soonest_67 : decode cX10_soonest 67 = .ok (.istore_n 2, 1) := by decide +kernel
theorem dX10_soonest_68 : decode cX10_soonest 68 = .ok (.iload_n 2, 1) := by decide +kernel
theorem dX10_soonest_69 : decode cX10_soonest 69 = .ok (.aload_n 0, 1) := by decide +kernel
theorem dX10_soonest_70 : decode cX10_soonest 70 = .ok (.getfield 79, 3) := by decide +kernel
theorem dX10_soonest_73 : decode cX10_soonest 73 = .ok (.if_icmp .gt 37, 3) := by decide +kernel
theorem dX10_soonest_76 : decode cX10_soonest 76 = .ok (.aload_n 0, 1) := by decide +kernel
theorem dX10_soonest_77 : decode cX10_soonest 77 = .ok (.aload_n 0, 1) := by decide +kernel
theorem dX10_soonest_78 : decode cX10_soonest 78 = .ok (.invokevirtual 289, 3) := by decide +kernel
theorem dX10_soonest_81 : decode cX10_soonest 81 = .ok (.iconst 0, 1) := by decide +kernel
theorem dX10_soonest_82 : decode cX10_soonest 82 = .ok (.iload_n 2, 1) := by decide +kernel
theorem dX10_soonest_83 : decode cX10_soonest 83 = .ok (.iconst 0, 1) := by decide +kernel
theorem dX10_soonest_84 : decode cX10_soonest 84 = .ok (.invokevirtual 298, 3) := by decide +kernel
theorem dX10_soonest_87 : decode cX10_soonest 87 = .ok (.istore_n 3, 1) := by decide +kernel
theorem dX10_soonest_88 : decode cX10_soonest 88 = .ok (.iload_n 3, 1) := by decide +kernel
theorem dX10_soonest_89 : decode cX10_soonest 89 = .ok (.iconst (-1), 1) := by decide +kernel
theorem dX10_soonest_90 : decode cX10_soonest 90 = .ok (.if_icmp .eq 14, 3) := by decide +kernel
theorem dX10_soonest_93 : decode cX10_soonest 93 = .ok (.iload_n 1, 1) := by decide +kernel
theorem dX10_soonest_94 : decode cX10_soonest 94 = .ok (.iconst 2, 1) := by decide +kernel
theorem dX10_soonest_95 : decode cX10_soonest 95 = .ok (.if_icmp .ne 7, 3) := by decide +kernel
theorem dX10_soonest_98 : decode cX10_soonest 98 = .ok (.iload_n 3, 1) := by decide +kernel
theorem dX10_soonest_99 : decode cX10_soonest 99 = .ok (.goto 4, 3) := by decide +kernel
theorem dX10_soonest_102 : decode cX10_soonest 102 = .ok (.iload_n 2, 1) := by decide +kernel
theorem dX10_soonest_103 : decode cX10_soonest 103 = .ok (.ireturn, 1) := by decide +kernel
theorem dX10_soonest_104 : decode cX10_soonest 104 = .ok (.iinc 2 1, 3) := by decide +kernel
theorem dX10_soonest_107 : decode cX10_soonest 107 = .ok (.goto (-39), 3) := by decide +kernel
theorem dX10_soonest_110 : decode cX10_soonest 110 = .ok (.iconst (-1), 1) := by decide +kernel
theorem dX10_soonest_111 : decode cX10_soonest 111 = .ok (.ireturn, 1) := by decide +kernel
theorem dX10_ratherNot_0 : decode cX10_ratherNot 0 = .ok (.iload_n 1, 1) := by decide +kernel
theorem dX10_ratherNot_1 : decode cX10_ratherNot 1 = .ok (.i2l, 1) := by decide +kernel
theorem dX10_ratherNot_2 : decode cX10_ratherNot 2 = .ok (.lconst 0, 1) := by decide +kernel
theorem dX10_ratherNot_3 : decode cX10_ratherNot 3 = .ok (.lconst 1, 1) := by decide +kernel
theorem dX10_ratherNot_4 : decode cX10_ratherNot 4 = .ok (.invokestatic 82, 3) := by decide +kernel
theorem dX10_ratherNot_7 : decode cX10_ratherNot 7 = .ok (.ifCond .ne 6, 3) := by decide +kernel
theorem dX10_ratherNot_10 : decode cX10_ratherNot 10 = .ok (.bipush (-2), 2) := by decide +kernel
theorem dX10_ratherNot_12 : decode cX10_ratherNot 12 = .ok (.ireturn, 1) := by decide +kernel
theorem dX10_ratherNot_13 : decode cX10_ratherNot 13 = .ok (.iconst (-1), 1) := by decide +kernel
theorem dX10_ratherNot_14 : decode cX10_ratherNot 14 = .ok (.istore_n 2, 1) := by decide +kernel
theorem dX10_ratherNot_15 : decode cX10_ratherNot 15 = .ok (.aload_n 0, 1) := by decide +kernel
theorem dX10_ratherNot_16 : decode cX10_ratherNot 16 = .ok (.aload_n 0, 1) := by decide +kernel
theorem dX10_ratherNot_17 : decode cX10_ratherNot 17 = .ok (.invokevirtual 289, 3) := by decide +kernel
theorem dX10_ratherNot_20 : decode cX10_ratherNot 20 = .ok (.invokevirtual 292, 3) := by decide +kernel
theorem dX10_ratherNot_23 : decode cX10_ratherNot 23 = .ok (.istore_n 3, 1) := by decide +kernel
theorem dX10_ratherNot_24 : decode cX10_ratherNot 24 = .ok (.iconst 0, 1) := by decide +kernel
theorem dX10_ratherNot_25 : decode cX10_ratherNot 25 = .ok (.istore 4, 2) := by decide +kernel
theorem dX10_ratherNot_27 : decode cX10_ratherNot 27 = .ok (.iload 4, 2) := by decide +kernel
theorem dX10_ratherNot_29 : decode cX10_ratherNot 29 = .ok (.aload_n 0, 1) := by decide +kernel
theorem dX10_ratherNot_30 : decode cX10_ratherNot 30 = .ok (.getfield 79, 3) := by decide +kernel
theorem dX10_ratherNot_33 : decode cX10_ratherNot 33 = .ok (.if_icmp .ge 38, 3) := by decide +kernel
theorem dX10_ratherNot_36 : decode cX10_ratherNot 36 = .ok (.aload_n 0, 1) := by decide +kernel
theorem dX10_ratherNot_37 : decode cX10_ratherNot 37 = .ok (.aload_n 0, 1) := by decide +kernel
theorem dX10_ratherNot_38 : decode cX10_ratherNot 38 = .ok (.invokevirtual 289, 3) := by decide +kernel
theorem dX10_ratherNot_41 : decode cX10_ratherNot 41 = .ok (.iconst 1, 1) := by decide +kernel
theorem dX10_ratherNot_42 : decode cX10_ratherNot 42 = .ok (.iload 4, 2) := by decide +kernel
theorem dX10_ratherNot_44 : decode cX10_ratherNot 44 = .ok (.ishl, 1) := by decide +kernel
theorem dX10_ratherNot_45 : decode cX10_ratherNot 45 = .ok (.iconst (-1), 1) := by decide +kernel
theorem dX10_ratherNot_46 : decode cX10_ratherNot 46 = .ok (.ixor, 1) := by decide +kernel
theorem dX10_ratherNot_47 : decode cX10_ratherNot 47 = .ok (.iand, 1) := by decide +kernel
theorem dX10_ratherNot_48 : decode cX10_ratherNot 48 = .ok (.invokevirtual 292, 3) := by decide +kernel
theorem dX10_ratherNot_51 : decode cX10_ratherNot 51 = .ok (.istore 5, 2) := by decide +kernel
theorem dX10_ratherNot_53 : decode cX10_ratherNot 53 = .ok (.iload 5, 2) := by decide +kernel
theorem dX10_ratherNot_55 : decode cX10_ratherNot 55 = .ok (.iload_n 3, 1) := by decide +kernel
theorem dX10_ratherNot_56 : decode cX10_ratherNot 56 = .ok (.if_icmp .le 9, 3) := by decide +kernel
theorem dX10_ratherNot_59 : decode cX10_ratherNot 59 = .ok (.iload 4, 2) := by decide +kernel
theorem dX10_ratherNot_61 : decode cX10_ratherNot 61 = .ok (.istore_n 2, 1) := by decide +kernel
theorem dX10_ratherNot_62 : decode cX10_ratherNot 62 = .ok (.iload 5, 2) := by decide +kernel
theorem dX10_ratherNot_64 : decode cX10_ratherNot 64 = .ok (.istore_n 3, 1) := by decide +kernel
theorem dX10_ratherNot_65 : decode cX10_ratherNot 65 = .ok (.iinc 4 1, 3) := by decide +kernel
theorem dX10_ratherNot_68 : decode cX10_ratherNot 68 = .ok (.goto (-41), 3) := by decide +kernel
theorem dX10_ratherNot_71 : decode cX10_ratherNot 71 = .ok (.iload_n 1, 1) := by decide +kernel
theorem dX10_ratherNot_72 : decode cX10_ratherNot 72 = .ok (.ifCond .ne 7, 3) := by decide +kernel
theorem dX10_ratherNot_75 : decode cX10_ratherNot 75 = .ok (.iload_n 2, 1) := by decide +kernel
theorem dX10_ratherNot_76 : decode cX10_ratherNot 76 = .ok (.goto 4, 3) := by decide +kernel
theorem dX10_ratherNot_79 : decode cX10_ratherNot 79 = .ok (.iload_n 3, 1) := by decide +kernel
theorem dX10_ratherNot_80 : decode cX10_ratherNot 80 = .ok (.ireturn, 1) := by decide +kernel
theorem dX10_topic_0 : decode cX10_topic 0 = .ok (.aload_n 0, 1) := by decide +kernel
theorem dX10_topic_1 : decode cX10_topic 1 = .ok (.iload_n 1, 1) := by decide +kernel
theorem dX10_topic_2 : decode cX10_topic 2 = .ok (.invokevirtual 88, 3) := by decide +kernel
theorem dX10_topic_5 : decode cX10_topic 5 = .ok (.ifCond .eq 13, 3) := by decide +kernel
theorem dX10_topic_8 : decode cX10_topic 8 = .ok (.iload_n 2, 1) := by decide +kernel
theorem dX10_topic_9 : decode cX10_topic 9 = .ok (.i2l, 1) := by decide +kernel
theorem dX10_topic_10 : decode cX10_topic 10 = .ok (.lconst 0, 1) := by decide +kernel
theorem dX10_topic_11 : decode cX10_topic 11 = .ok (.lconst 1, 1) := by decide +kernel
theorem dX10_topic_12 : decode cX10_topic 12 = .ok (.invokestatic 82, 3) := by decide +kernel
theorem dX10_topic_15 : decode cX10_topic 15 = .ok (.ifCond .ne 6, 3) := by decide +kernel
theorem dX10_topic_18 : decode cX10_topic 18 = .ok (.bipush (-2), 2) := by decide +kernel
theorem dX10_topic_20 : decode cX10_topic 20 = .ok (.ireturn, 1) := by decide +kernel
theorem dX10_topic_21 : decode cX10_topic 21 = .ok (.aload_n 0, 1) := by decide +kernel
theorem dX10_topic_22 : decode cX10_topic 22 = .ok (.iload_n 1, 1) := by decide +kernel
theorem dX10_topic_23 : decode cX10_topic 23 = .ok (.invokevirtual 246, 3) := by decide +kernel
theorem dX10_topic_26 : decode cX10_topic 26 = .ok (.istore_n 3, 1) := by decide +kernel
theorem dX10_topic_27 : decode cX10_topic 27 = .ok (.iconst (-1), 1) := by decide +kernel
theorem dX10_topic_28 : decode cX10_topic 28 = .ok (.istore 4, 2) := by decide +kernel
theorem dX10_topic_30 : decode cX10_topic 30 = .ok (.iconst (-1), 1) := by decide +kernel
theorem dX10_topic_31 : decode cX10_topic 31 = .ok (.istore 5, 2) := by decide +kernel
theorem dX10_topic_33 : decode cX10_topic 33 = .ok (.iconst 0, 1) := by decide +kernel
theorem dX10_topic_34 : decode cX10_topic 34 = .ok (.istore 6, 2) := by decide +kernel
theorem dX10_topic_36 : decode cX10_topic 36 = .ok (.iload 6, 2) := by decide +kernel
theorem dX10_topic_38 : decode cX10_topic 38 = .ok (.bipush 8, 2) := by decide +kernel
theorem dX10_topic_40 : decode cX10_topic 40 = .ok (.if_icmp .ge 46, 3) := by decide +kernel
theorem dX10_topic_43 : decode cX10_topic 43 = .ok (.aload_n 0, 1) := by decide +kernel
theorem dX10_topic_44 : decode cX10_topic 44 = .ok (.getfield 29, 3) := by decide +kernel
theorem dX10_topic_47 : decode cX10_topic 47 = .ok (.iconst 3, 1) := by decide +kernel
theorem dX10_topic_48 : decode cX10_topic 48 = .ok (.iload_n 1, 1) := by decide +kernel
theorem dX10_topic_49 : decode cX10_topic 49 = .ok (.imul, 1) := by decide +kernel
theorem dX10_topic_50 : decode cX10_topic 50 = .ok (.iconst 1, 1) := by decide +kernel
theorem dX10_topic_51 : decode cX10_topic 51 = .ok (.iadd, 1) := by decide +kernel
theorem dX10_topic_52 : decode cX10_topic 52 = .ok (.iload 6, 2) := by decide +kernel
theorem dX10_topic_54 : decode cX10_topic 54 = .ok (.iastore, 1) := by decide +kernel
theorem dX10_topic_55 : decode cX10_topic 55 = .ok (.aload_n 0, 1) := by decide +kernel
theorem dX10_topic_56 : decode cX10_topic 56 = .ok (.aload_n 0, 1) := by decide +kernel
theorem dX10_topic_57 : decode cX10_topic 57 = .ok (.invokevirtual 289, 3) := by decide +kernel
theorem dX10_topic_60 : decode cX10_topic 60 = .ok (.invokevirtual 292, 3) := by decide +kernel
theorem dX10_topic_63 : decode cX10_topic 63 = .ok (.istore 7, 2) := by decide +kernel
theorem dX10_topic_65 : decode cX10_topic 65 = .ok (.iload 7, 2) := by decide +kernel
theorem dX10_topic_67 : decode cX10_topic 67 = .ok (.iload 5, 2) := by decide +kernel
theorem dX10_topic_69 : decode cX10_topic 69 = .ok (.if_icmp .le 11, 3) := by decide +kernel
theorem dX10_topic_72 : decode cX10_topic 72 = .ok (.iload 6, 2) := by decide +kernel
theorem dX10_topic_74 : decode cX10_topic 74 = .ok (.istore 4, 2) := by decide +kernel
theorem dX10_topic_76 : decode cX10_topic 76 = .ok (.iload 7, 2) := by decide +kernel
theorem dX10_topic_78 : decode cX10_topic 78 = .ok (.istore 5, 2) := by decide +kernel
theorem dX10_topic_80 : decode cX10_topic 80 = .ok (.iinc 6 1, 3) := by decide +kernel
theorem dX10_topic_83 : decode cX10_topic 83 = .ok (.goto (-47), 3) := by decide +kernel
theorem dX10_topic_86 : decode cX10_topic 86 = .ok (.aload_n 0, 1) := by decide +kernel
theorem dX10_topic_87 : decode cX10_topic 87 = .ok (.getfield 29, 3) := by decide +kernel
theorem dX10_topic_90 : decode cX10_topic 90 = .ok (.iconst 3, 1) := by decide +kernel
theorem dX10_topic_91 : decode cX10_topic 91 = .ok (.iload_n 1, 1) := by decide +kernel
theorem dX10_topic_92 : decode cX10_topic 92 = .ok (.imul, 1) := by decide +kernel
theorem dX10_topic_93 : decode cX10_topic 93 = .ok (.iconst 1, 1) := by decide +kernel
theorem dX10_topic_94 : decode cX10_topic 94 = .ok (.iadd, 1) := by decide +kernel
theorem dX10_topic_95 : decode cX10_topic 95 = .ok (.iload_n 3, 1) := by decide +kernel
theorem dX10_topic_96 : decode cX10_topic 96 = .ok (.iastore, 1) := by decide +kernel
theorem dX10_topic_97 : decode cX10_topic 97 = .ok (.iload_n 2, 1) := by decide +kernel
theorem dX10_topic_98 : decode cX10_topic 98 = .ok (.ifCond .ne 8, 3) := by decide +kernel
theorem dX10_topic_101 : decode cX10_topic 101 = .ok (.iload 4, 2) := by decide +kernel
theorem dX10_topic_103 : decode cX10_topic 103 = .ok (.goto 5, 3) := by decide +kernel
theorem dX10_topic_106 : decode cX10_topic 106 = .ok (.iload 5, 2) := by decide +kernel
theorem dX10_topic_108 : decode cX10_topic 108 = .ok (.ireturn, 1) := by decide +kernel
theorem dX10_plays_0 : decode cX10_plays 0 = .ok (.iload_n 1, 1) := by decide +kernel
theorem dX10_plays_1 : decode cX10_plays 1 = .ok (.ifCond .ne 10, 3) := by decide +kernel
theorem dX10_plays_4 : decode cX10_plays 4 = .ok (.aload_n 0, 1) := by decide +kernel
theorem dX10_plays_5 : decode cX10_plays 5 = .ok (.getfield 35, 3) := by decide +kernel
theorem dX10_plays_8 : decode cX10_plays 8 = .ok (.iload_n 2, 1) := by decide +kernel
theorem dX10_plays_9 : decode cX10_plays 9 = .ok (.iaload, 1) := by decide +kernel
theorem dX10_plays_10 : decode cX10_plays 10 = .ok (.ireturn, 1) := by decide +kernel
theorem dX10_plays_11 : decode cX10_plays 11 = .ok (.iconst (-1), 1) := by decide +kernel
theorem dX10_plays_12 : decode cX10_plays 12 = .ok (.istore_n 3, 1) := by decide +kernel
theorem dX10_plays_13 : decode cX10_plays 13 = .ok (.iconst 0, 1) := by decide +kernel
theorem dX10_plays_14 : decode cX10_plays 14 = .ok (.istore 4, 2) := by decide +kernel
theorem dX10_plays_16 : decode cX10_plays 16 = .ok (.iload 4, 2) := by decide +kernel
theorem dX10_plays_18 : decode cX10_plays 18 = .ok (.aload_n 0, 1) := by decide +kernel
theorem dX10_plays_19 : decode cX10_plays 19 = .ok (.getfield 79, 3) := by decide +kernel
theorem dX10_plays_22 : decode cX10_plays 22 = .ok (.if_icmp .ge 89, 3) := by decide +kernel
theorem dX10_plays_25 : decode cX10_plays 25 = .ok (.iload_n 1, 1) := by decide +kernel
theorem dX10_plays_26 : decode cX10_plays 26 = .ok (.iload 4, 2) := by decide +kernel
theorem dX10_plays_28 : decode cX10_plays 28 = .ok (.ishr, 1) := by decide +kernel
theorem dX10_plays_29 : decode cX10_plays 29 = .ok (.iconst 1, 1) := by decide +kernel
theorem dX10_plays_30 : decode cX10_plays 30 = .ok (.iand, 1) := by decide +kernel
theorem dX10_plays_31 : decode cX10_plays 31 = .ok (.iconst 1, 1) := by decide +kernel
theorem dX10_plays_32 : decode cX10_plays 32 = .ok (.if_icmp .ne 73, 3) := by decide +kernel
theorem dX10_plays_35 : decode cX10_plays 35 = .ok (.aload_n 0, 1) := by decide +kernel
theorem dX10_plays_36 : decode cX10_plays 36 = .ok (.iload 4, 2) := by decide +kernel
theorem dX10_plays_38 : decode cX10_plays 38 = .ok (.iload_n 2, 1) := by decide +kernel
theorem dX10_plays_39 : decode cX10_plays 39 = .ok (.invokevirtual 253, 3) := by decide +kernel
theorem dX10_plays_42 : decode cX10_plays 42 = .ok (.aload_n 0, 1) := by decide +kernel
theorem dX10_plays_43 : decode cX10_plays 43 = .ok (.iload_n 1, 1) := by decide +kernel
theorem dX10_plays_44 : decode cX10_plays 44 = .ok (.iconst 1, 1) := by decide +kernel
theorem dX10_plays_45 : decode cX10_plays 45 = .ok (.iload 4, 2) := by decide +kernel
theorem dX10_plays_47 : decode cX10_plays 47 = .ok (.ishl, 1) := by decide +kernel
theorem dX10_plays_48 : decode cX10_plays 48 = .ok (.iconst (-1), 1) := by decide +kernel
theorem dX10_plays_49 : decode cX10_plays 49 = .ok (.ixor, 1) := by decide +kernel
theorem dX10_plays_50 : decode cX10_plays 50 = .ok (.iand, 1) := by decide +kernel
theorem dX10_plays_51 : decode cX10_plays 51 = .ok (.iload_n 2, 1) := by decide +kernel
theorem dX10_plays_52 : decode cX10_plays 52 = .ok (.iconst 1, 1) := by decide +kernel
theorem dX10_plays_53 : decode cX10_plays 53 = .ok (.iadd, 1) := by decide +kernel
theorem dX10_plays_54 : decode cX10_plays 54 = .ok (.invokevirtual 304, 3) := by decide +kernel
theorem dX10_plays_57 : decode cX10_plays 57 = .ok (.istore 5, 2) := by decide +kernel
theorem dX10_plays_59 : decode cX10_plays 59 = .ok (.iload_n 3, 1) := by decide +kernel
theorem dX10_plays_60 : decode cX10_plays 60 = .ok (.iconst (-1), 1) := by decide +kernel
theorem dX10_plays_61 : decode cX10_plays 61 = .ok (.if_icmp .eq 24, 3) := by decide +kernel
theorem dX10_plays_64 : decode cX10_plays 64 = .ok (.iload_n 2, 1) := by decide +kernel
theorem dX10_plays_65 : decode cX10_plays 65 = .ok (.iconst 2, 1) := by decide +kernel
theorem dX10_plays_66 : decode cX10_plays 66 = .ok (.irem, 1) := by decide +kernel
theorem dX10_plays_67 : decode cX10_plays 67 = .ok (.ifCond .ne 12, 3) := by decide +kernel
theorem dX10_plays_70 : decode cX10_plays 70 = .ok (.iload 5, 2) := by decide +kernel
theorem dX10_plays_72 : decode cX10_plays 72 = .ok (.iload_n 3, 1) := by decide +kernel
theorem dX10_plays_73 : decode cX10_plays 73 = .ok (.if_icmp .le 32, 3) := by decide +kernel
theorem dX10_plays_76 : decode cX10_plays 76 = .ok (.goto 9, 3) := by decide +kernel
theorem dX10_plays_79 : decode cX10_plays 79 = .ok (.iload 5, 2) := by decide +kernel
theorem dX10_plays_81 : decode cX10_plays 81 = .ok (.iload_n 3, 1) := by decide +kernel
theorem dX10_plays_82 : decode cX10_plays 82 = .ok (.if_icmp .ge 23, 3) := by decide +kernel
theorem dX10_plays_85 : decode cX10_plays 85 = .ok (.iload 5, 2) := by decide +kernel
theorem dX10_plays_87 : decode cX10_plays 87 = .ok (.istore_n 3, 1) := by decide +kernel
theorem dX10_plays_88 : decode cX10_plays 88 = .ok (.aload_n 0, 1) := by decide +kernel
theorem dX10_plays_89 : decode cX10_plays 89 = .ok (.iload_n 2, 1) := by decide +kernel
theorem dX10_plays_90 : decode cX10_plays 90 = .ok (.ifCond .ne 8, 3) := by decide +kernel
theorem dX10_plays_93 : decode cX10_plays 93 = .ok (.iload 4, 2) := by decide +kernel
theorem dX10_plays_95 : decode cX10_plays 95 = .ok (.goto 7, 3) := by decide +kernel
theorem dX10_plays_98 : decode cX10_plays 98 = .ok (.aload_n 0, 1) := by decide +kernel
theorem dX10_plays_99 : decode cX10_plays 99 = .ok (.getfield 307, 3) := by decide +kernel
theorem dX10_plays_102 : decode cX10_plays 102 = .ok (.putfield 307, 3) := by decide +kernel
theorem dX10_plays_105 : decode cX10_plays 105 = .ok (.iinc 4 1, 3) := by decide +kernel
theorem dX10_plays_108 : decode cX10_plays 108 = .ok (.goto (-92), 3) := by decide +kernel
theorem dX10_plays_111 : decode cX10_plays 111 = .ok (.iload_n 3, 1) := by decide +kernel
theorem dX10_plays_112 : decode cX10_plays 112 = .ok (.ireturn, 1) := by decide +kernel
theorem dX10_turns_0 : decode cX10_turns 0 = .ok (.iload_n 1, 1) := by decide +kernel
theorem dX10_turns_1 : decode cX10_turns 1 = .ok (.i2l, 1) := by decide +kernel
theorem dX10_turns_2 : decode cX10_turns 2 = .ok (.lconst 0, 1) := by decide +kernel
theorem dX10_turns_3 : decode cX10_turns 3 = .ok (.lconst 1, 1) := by decide +kernel
theorem dX10_turns_4 : decode cX10_turns 4 = .ok (.invokestatic 82, 3) := by decide +kernel
theorem dX10_turns_7 : decode cX10_turns 7 = .ok (.ifCond .ne 6, 3) := by decide +kernel
theorem dX10_turns_10 : decode cX10_turns 10 = .ok (.bipush (-2), 2) := by decide +kernel
theorem dX10_turns_12 : decode cX10_turns 12 = .ok (.ireturn, 1) := by decide +kernel
theorem dX10_turns_13 : decode cX10_turns 13 = .ok (.aload_n 0, 1) := by decide +kernel
theorem dX10_turns_14 : decode cX10_turns 14 = .ok (.invokevirtual 113, 3) := by decide +kernel
theorem dX10_turns_17 : decode cX10_turns 17 = .ok (.aload_n 0, 1) := by decide +kernel
theorem dX10_turns_18 : decode cX10_turns 18 = .ok (.iconst (-1), 1) := by decide +kernel
theorem dX10_turns_19 : decode cX10_turns 19 = .ok (.putfield 307, 3) := by decide +kernel
theorem dX10_turns_22 : decode cX10_turns 22 = .ok (.aload_n 0, 1) := by decide +kernel
theorem dX10_turns_23 : decode cX10_turns 23 = .ok (.aload_n 0, 1) := by decide +kernel
theorem dX10_turns_24 : decode cX10_turns 24 = .ok (.invokevirtual 289, 3) := by decide +kernel
theorem dX10_turns_27 : decode cX10_turns 27 = .ok (.iconst 0, 1) := by decide +kernel
theorem dX10_turns_28 : decode cX10_turns 28 = .ok (.invokevirtual 304, 3) := by decide +kernel
theorem dX10_turns_31 : decode cX10_turns 31 = .ok (.istore_n 2, 1) := by decide +kernel
theorem dX10_turns_32 : decode cX10_turns 32 = .ok (.iload_n 1, 1) := by decide +kernel
theorem dX10_turns_33 : decode cX10_turns 33 = .ok (.ifCond .ne 7, 3) := by decide +kernel
theorem dX10_turns_36 : decode cX10_turns 36 = .ok (.iload_n 2, 1) := by decide +kernel
theorem dX10_turns_37 : decode cX10_turns 37 = .ok (.goto 7, 3) := by decide +kernel
theorem dX10_turns_40 : decode cX10_turns 40 = .ok (.aload_n 0, 1) := by decide +kernel
theorem dX10_turns_41 : decode cX10_turns 41 = .ok (.getfield 307, 3) := by decide +kernel
theorem dX10_turns_44 : decode cX10_turns 44 = .ok (.ireturn, 1) := by decide +kernel
theorem dX10_seeksWays_0 : decode cX10_seeksWays 0 = .ok (.iload_n 2, 1) := by decide +kernel
theorem dX10_seeksWays_1 : decode cX10_seeksWays 1 = .ok (.ifCond .ne 69, 3) := by decide +kernel
theorem dX10_seeksWays_4 : decode cX10_seeksWays 4 = .ok (.aload_n 0, 1) := by decide +kernel
theorem dX10_seeksWays_5 : decode cX10_seeksWays 5 = .ok (.dup, 1) := by decide +kernel
theorem dX10_seeksWays_6 : decode cX10_seeksWays 6 = .ok (.getfield 310, 3) := by decide +kernel
theorem dX10_seeksWays_9 : decode cX10_seeksWays 9 = .ok (.iconst 1, 1) := by decide +kernel
theorem dX10_seeksWays_10 : decode cX10_seeksWays 10 = .ok (.iadd, 1) := by decide +kernel
theorem dX10_seeksWays_11 : decode cX10_seeksWays 11 = .ok (.putfield 310, 3) := by decide +kernel
theorem dX10_seeksWays_14 : decode cX10_seeksWays 14 = .ok (.aload_n 0, 1) := by decide +kernel
theorem dX10_seeksWays_15 : decode cX10_seeksWays 15 = .ok (.aload_n 0, 1) := by decide +kernel
theorem dX10_seeksWays_16 : decode cX10_seeksWays 16 = .ok (.getfield 310, 3) := by decide +kernel
theorem dX10_seeksWays_19 : decode cX10_seeksWays 19 = .ok (.iconst 1, 1) := by decide +kernel
theorem dX10_seeksWays_20 : decode cX10_seeksWays 20 = .ok (.if_icmp .ne 8, 3) := by decide +kernel
theorem dX10_seeksWays_23 : decode cX10_seeksWays 23 = .ok (.iload 4, 2) := by decide +kernel
theorem dX10_seeksWays_25 : decode cX10_seeksWays 25 = .ok (.goto 7, 3) := by decide +kernel
theorem dX10_seeksWays_28 : decode cX10_seeksWays 28 = .ok (.aload_n 0, 1) := by decide +kernel
theorem dX10_seeksWays_29 : decode cX10_seeksWays 29 = .ok (.getfield 313, 3) := by decide +kernel
theorem dX10_seeksWays_32 : decode cX10_seeksWays 32 = .ok (.putfield 313, 3) := by decide +kernel
theorem dX10_seeksWays_35 : decode cX10_seeksWays 35 = .ok (.iconst 0, 1) := by decide +kernel
theorem dX10_seeksWays_36 : decode cX10_seeksWays 36 = .ok (.istore 5, 2) := by decide +kernel
theorem dX10_seeksWays_38 : decode cX10_seeksWays 38 = .ok (.iload 5, 2) := by decide +kernel
theorem dX10_seeksWays_40 : decode cX10_seeksWays 40 = .ok (.iload_n 3, 1) := by decide +kernel
theorem dX10_seeksWays_41 : decode cX10_seeksWays 41 = .ok (.if_icmp .ge 28, 3) := by decide +kernel
theorem dX10_seeksWays_44 : decode cX10_seeksWays 44 = .ok (.aload_n 0, 1) := by decide +kernel
theorem dX10_seeksWays_45 : decode cX10_seeksWays 45 = .ok (.getfield 45, 3) := by decide +kernel
theorem dX10_seeksWays_48 : decode cX10_seeksWays 48 = .ok (.aload_n 0, 1) := by decide +kernel
theorem dX10_seeksWays_49 : decode cX10_seeksWays 49 = .ok (.getfield 32, 3) := by decide +kernel
theorem dX10_seeksWays_52 : decode cX10_seeksWays 52 = .ok (.iload 5, 2) := by decide +kernel
theorem dX10_seeksWays_54 : decode cX10_seeksWays 54 = .ok (.iaload, 1) := by decide +kernel
theorem dX10_seeksWays_55 : decode cX10_seeksWays 55 = .ok (.dup2, 1) := by decide +kernel
theorem dX10_seeksWays_56 : decode cX10_seeksWays 56 = .ok (.iaload, 1) := by decide +kernel
theorem dX10_seeksWays_57 : decode cX10_seeksWays 57 = .ok (.iconst 1, 1) := by decide +kernel
theorem dX10_seeksWays_58 : decode cX10_seeksWays 58 = .ok (.iload 5, 2) := by decide +kernel
theorem dX10_seeksWays_60 : decode cX10_seeksWays 60 = .ok (.ishl, 1) := by decide +kernel
theorem dX10_seeksWays_61 : decode cX10_seeksWays 61 = .ok (.ior, 1) := by decide +kernel
theorem dX10_seeksWays_62 : decode cX10_seeksWays 62 = .ok (.iastore, 1) := by decide +kernel
theorem dX10_seeksWays_63 : decode cX10_seeksWays 63 = .ok (.iinc 5 1, 3) := by decide +kernel
theorem dX10_seeksWays_66 : decode cX10_seeksWays 66 = .ok (.goto (-28), 3) := by decide +kernel
theorem dX10_seeksWays_69 : decode cX10_seeksWays 69 = .ok (.return_, 1) := by decide +kernel
theorem dX10_seeksWays_70 : decode cX10_seeksWays 70 = .ok (.iconst 0, 1) := by decide +kernel
theorem dX10_seeksWays_71 : decode cX10_seeksWays 71 = .ok (.istore 5, 2) := by decide +kernel
theorem dX10_seeksWays_73 : decode cX10_seeksWays 73 = .ok (.iload 5, 2) := by decide +kernel
theorem dX10_seeksWays_75 : decode cX10_seeksWays 75 = .ok (.aload_n 0, 1) := by decide +kernel
theorem dX10_seeksWays_76 : decode cX10_seeksWays 76 = .ok (.getfield 79, 3) := by decide +kernel
theorem dX10_seeksWays_79 : decode cX10_seeksWays 79 = .ok (.if_icmp .ge 74, 3) := by decide +kernel
theorem dX10_seeksWays_82 : decode cX10_seeksWays 82 = .ok (.iload_n 2, 1) := by decide +kernel
theorem dX10_seeksWays_83 : decode cX10_seeksWays 83 = .ok (.iload 5, 2) := by decide +kernel
theorem dX10_seeksWays_85 : decode cX10_seeksWays 85 = .ok (.ishr, 1) := by decide +kernel
theorem dX10_seeksWays_86 : decode cX10_seeksWays 86 = .ok (.iconst 1, 1) := by decide +kernel
theorem dX10_seeksWays_87 : decode cX10_seeksWays 87 = .ok (.iand, 1) := by decide +kernel
theorem dX10_seeksWays_88 : decode cX10_seeksWays 88 = .ok (.iconst 1, 1) := by decide +kernel
theorem dX10_seeksWays_89 : decode cX10_seeksWays 89 = .ok (.if_icmp .ne 58, 3) := by decide +kernel
theorem dX10_seeksWays_92 : decode cX10_seeksWays 92 = .ok (.aload_n 0, 1) := by decide +kernel
theorem dX10_seeksWays_93 : decode cX10_seeksWays 93 = .ok (.iload 5, 2) := by decide +kernel
theorem dX10_seeksWays_95 : decode cX10_seeksWays 95 = .ok (.iload_n 3, 1) := by decide +kernel
theorem dX10_seeksWays_96 : decode cX10_seeksWays 96 = .ok (.invokevirtual 253, 3) := by decide +kernel
theorem dX10_seeksWays_99 : decode cX10_seeksWays 99 = .ok (.aload_n 0, 1) := by decide +kernel
theorem dX10_seeksWays_100 : decode cX10_seeksWays 100 = .ok (.getfield 35, 3) := by decide +kernel
theorem dX10_seeksWays_103 : decode cX10_seeksWays 103 = .ok (.iload_n 3, 1) := by decide +kernel
theorem dX10_seeksWays_104 : decode cX10_seeksWays 104 = .ok (.iconst 1, 1) := by decide +kernel
theorem dX10_seeksWays_105 : decode cX10_seeksWays 105 = .ok (.iadd, 1) := by decide +kernel
theorem dX10_seeksWays_106 : decode cX10_seeksWays 106 = .ok (.iaload, 1) := by decide +kernel
theorem dX10_seeksWays_107 : decode cX10_seeksWays 107 = .ok (.aload_n 0, 1) := by decide +kernel
theorem dX10_seeksWays_108 : decode cX10_seeksWays 108 = .ok (.getfield 69, 3) := by decide +kernel
theorem dX10_seeksWays_111 : decode cX10_seeksWays 111 = .ok (.bipush 40, 2) := by decide +kernel
theorem dX10_seeksWays_113 : decode cX10_seeksWays 113 = .ok (.iload_n 1, 1) := by decide +kernel
theorem dX10_seeksWays_114 : decode cX10_seeksWays 114 = .ok (.imul, 1) := by decide +kernel
theorem dX10_seeksWays_115 : decode cX10_seeksWays 115 = .ok (.iload_n 3, 1) := by decide +kernel
theorem dX10_seeksWays_116 : decode cX10_seeksWays 116 = .ok (.iadd, 1) := by decide +kernel
theorem dX10_seeksWays_117 : decode cX10_seeksWays 117 = .ok (.iaload, 1) := by decide +kernel
theorem dX10_seeksWays_118 : decode cX10_seeksWays 118 = .ok (.if_icmp .ne 29, 3) := by decide +kernel
theorem dX10_seeksWays_121 : decode cX10_seeksWays 121 = .ok (.aload_n 0, 1) := by decide +kernel
theorem dX10_seeksWays_122 : decode cX10_seeksWays 122 = .ok (.iload_n 1, 1) := by decide +kernel
theorem dX10_seeksWays_123 : decode cX10_seeksWays 123 = .ok (.iload_n 2, 1) := by decide +kernel
theorem dX10_seeksWays_124 : decode cX10_seeksWays 124 = .ok (.iconst 1, 1) := by decide +kernel
theorem dX10_seeksWays_125 : decode cX10_seeksWays 125 = .ok (.iload 5, 2) := by decide +kernel
theorem dX10_seeksWays_127 : decode cX10_seeksWays 127 = .ok (.ishl, 1) := by decide +kernel
theorem dX10_seeksWays_128 : decode cX10_seeksWays 128 = .ok (.iconst (-1), 1) := by decide +kernel
theorem dX10_seeksWays_129 : decode cX10_seeksWays 129 = .ok (.ixor, 1) := by decide +kernel
theorem dX10_seeksWays_130 : decode cX10_seeksWays 130 = .ok (.iand, 1) := by decide +kernel
theorem dX10_seeksWays_131 : decode cX10_seeksWays 131 = .ok (.iload_n 3, 1) := by decide +kernel
theorem dX10_seeksWays_132 : decode cX10_seeksWays 132 = .ok (.iconst 1, 1) := by decide +kernel
theorem dX10_seeksWays_133 : decode cX10_seeksWays 133 = .ok (.iadd, 1) := by decide +kernel
theorem dX10_seeksWays_134 : decode cX10_seeksWays 134 = .ok (.bipush 10, 2) := by decide +kernel
theorem dX10_seeksWays_136 : decode cX10_seeksWays 136 = .ok (.iload 4, 2) := by decide +kernel
theorem dX10_seeksWays_138 : decode cX10_seeksWays 138 = .ok (.imul, 1) := by decide +kernel
theorem dX10_seeksWays_139 : decode cX10_seeksWays 139 = .ok (.iload 5, 2) := by decide +kernel
theorem dX10_seeksWays_141 : decode cX10_seeksWays 141 = .ok (.iadd, 1) := by decide +kernel
theorem dX10_seeksWays_142 : decode cX10_seeksWays 142 = .ok (.iconst 1, 1) := by decide +kernel
theorem dX10_seeksWays_143 : decode cX10_seeksWays 143 = .ok (.iadd, 1) := by decide +kernel
theorem dX10_seeksWays_144 : decode cX10_seeksWays 144 = .ok (.invokevirtual 316, 3) := by decide +kernel
theorem dX10_seeksWays_147 : decode cX10_seeksWays 147 = .ok (.iinc 5 1, 3) := by decide +kernel
theorem dX10_seeksWays_150 : decode cX10_seeksWays 150 = .ok (.goto (-77), 3) := by decide +kernel
theorem dX10_seeksWays_153 : decode cX10_seeksWays 153 = .ok (.return_, 1) := by decide +kernel
theorem dX10_firstOther_0 : decode cX10_firstOther 0 = .ok (.aload_n 0, 1) := by decide +kernel
theorem dX10_firstOther_1 : decode cX10_firstOther 1 = .ok (.invokevirtual 113, 3) := by decide +kernel
theorem dX10_firstOther_4 : decode cX10_firstOther 4 = .ok (.iconst 0, 1) := by decide +kernel
theorem dX10_firstOther_5 : decode cX10_firstOther 5 = .ok (.istore_n 2, 1) := by decide +kernel
theorem dX10_firstOther_6 : decode cX10_firstOther 6 = .ok (.iload_n 2, 1) := by decide +kernel
theorem dX10_firstOther_7 : decode cX10_firstOther 7 = .ok (.aload_n 0, 1) := by decide +kernel
theorem dX10_firstOther_8 : decode cX10_firstOther 8 = .ok (.getfield 79, 3) := by decide +kernel
theorem dX10_firstOther_11 : decode cX10_firstOther 11 = .ok (.if_icmp .ge 39, 3) := by decide +kernel
theorem dX10_firstOther_14 : decode cX10_firstOther 14 = .ok (.aload_n 0, 1) := by decide +kernel
theorem dX10_firstOther_15 : decode cX10_firstOther 15 = .ok (.iload_n 2, 1) := by decide +kernel
theorem dX10_firstOther_16 : decode cX10_firstOther 16 = .ok (.iload_n 2, 1) := by decide +kernel
theorem dX10_firstOther_17 : decode cX10_firstOther 17 = .ok (.invokevirtual 253, 3) := by decide +kernel
theorem dX10_firstOther_20 : decode cX10_firstOther 20 = .ok (.aload_n 0, 1) := by decide +kernel
theorem dX10_firstOther_21 : decode cX10_firstOther 21 = .ok (.getfield 35, 3) := by decide +kernel
theorem dX10_firstOther_24 : decode cX10_firstOther 24 = .ok (.iload_n 2, 1) := by decide +kernel
theorem dX10_firstOther_25 : decode cX10_firstOther 25 = .ok (.iconst 1, 1) := by decide +kernel
theorem dX10_firstOther_26 : decode cX10_firstOther 26 = .ok (.iadd, 1) := by decide +kernel
theorem dX10_firstOther_27 : decode cX10_firstOther 27 = .ok (.iaload, 1) := by decide +kernel
theorem dX10_firstOther_28 : decode cX10_firstOther 28 = .ok (.aload_n 0, 1) := by decide +kernel
theorem dX10_firstOther_29 : decode cX10_firstOther 29 = .ok (.getfield 69, 3) := by decide +kernel
theorem dX10_firstOther_32 : decode cX10_firstOther 32 = .ok (.bipush 40, 2) := by decide +kernel
theorem dX10_firstOther_34 : decode cX10_firstOther 34 = .ok (.iload_n 1, 1) := by decide +kernel
theorem dX10_firstOther_35 : decode cX10_firstOther 35 = .ok (.imul, 1) := by decide +kernel
theorem dX10_firstOther_36 : decode cX10_firstOther 36 = .ok (.iload_n 2, 1) := by decide +kernel
theorem dX10_firstOther_37 : decode cX10_firstOther 37 = .ok (.iadd, 1) := by decide +kernel
theorem dX10_firstOther_38 : decode cX10_firstOther 38 = .ok (.iaload, 1) := by decide +kernel
theorem dX10_firstOther_39 : decode cX10_firstOther 39 = .ok (.if_icmp .eq 5, 3) := by decide +kernel
theorem dX10_firstOther_42 : decode cX10_firstOther 42 = .ok (.iload_n 2, 1) := by decide +kernel
theorem dX10_firstOther_43 : decode cX10_firstOther 43 = .ok (.ireturn, 1) := by decide +kernel
theorem dX10_firstOther_44 : decode cX10_firstOther 44 = .ok (.iinc 2 1, 3) := by decide +kernel
theorem dX10_firstOther_47 : decode cX10_firstOther 47 = .ok (.goto (-41), 3) := by decide +kernel
theorem dX10_firstOther_50 : decode cX10_firstOther 50 = .ok (.iconst (-1), 1) := by decide +kernel
theorem dX10_firstOther_51 : decode cX10_firstOther 51 = .ok (.ireturn, 1) := by decide +kernel
theorem dX10_sure_0 : decode cX10_sure 0 = .ok (.iconst 0, 1) := by decide +kernel
theorem dX10_sure_1 : decode cX10_sure 1 = .ok (.istore_n 1, 1) := by decide +kernel
theorem dX10_sure_2 : decode cX10_sure 2 = .ok (.iconst 0, 1) := by decide +kernel
theorem dX10_sure_3 : decode cX10_sure 3 = .ok (.istore_n 2, 1) := by decide +kernel
theorem dX10_sure_4 : decode cX10_sure 4 = .ok (.iload_n 2, 1) := by decide +kernel
theorem dX10_sure_5 : decode cX10_sure 5 = .ok (.aload_n 0, 1) := by decide +kernel
theorem dX10_sure_6 : decode cX10_sure 6 = .ok (.getfield 79, 3) := by decide +kernel
theorem dX10_sure_9 : decode cX10_sure 9 = .ok (.if_icmp .ge 46, 3) := by decide +kernel
theorem dX10_sure_12 : decode cX10_sure 12 = .ok (.iload_n 1, 1) := by decide +kernel
theorem dX10_sure_13 : decode cX10_sure 13 = .ok (.aload_n 0, 1) := by decide +kernel
theorem dX10_sure_14 : decode cX10_sure 14 = .ok (.getfield 45, 3) := by decide +kernel
theorem dX10_sure_17 : decode cX10_sure 17 = .ok (.iload_n 2, 1) := by decide +kernel
theorem dX10_sure_18 : decode cX10_sure 18 = .ok (.iaload, 1) := by decide +kernel
theorem dX10_sure_19 : decode cX10_sure 19 = .ok (.ifCond .eq 25, 3) := by decide +kernel
theorem dX10_sure_22 : decode cX10_sure 22 = .ok (.aload_n 0, 1) := by decide +kernel
theorem dX10_sure_23 : decode cX10_sure 23 = .ok (.getfield 45, 3) := by decide +kernel
theorem dX10_sure_26 : decode cX10_sure 26 = .ok (.iload_n 2, 1) := by decide +kernel
theorem dX10_sure_27 : decode cX10_sure 27 = .ok (.iaload, 1) := by decide +kernel
theorem dX10_sure_28 : decode cX10_sure 28 = .ok (.aload_n 0, 1) := by decide +kernel
theorem dX10_sure_29 : decode cX10_sure 29 = .ok (.getfield 45, 3) := by decide +kernel
theorem dX10_sure_32 : decode cX10_sure 32 = .ok (.iload_n 2, 1) := by decide +kernel
theorem dX10_sure_33 : decode cX10_sure 33 = .ok (.iaload, 1) := by decide +kernel
theorem dX10_sure_34 : decode cX10_sure 34 = .ok (.iconst 1, 1) := by decide +kernel
theorem dX10_sure_35 : decode cX10_sure 35 = .ok (.isub, 1) := by decide +kernel
theorem dX10_sure_36 : decode cX10_sure 36 = .ok (.iand, 1) := by decide +kernel
theorem dX10_sure_37 : decode cX10_sure 37 = .ok (.ifCond .ne 7, 3) := by decide +kernel
theorem dX10_sure_40 : decode cX10_sure 40 = .ok (.iconst 1, 1) := by decide +kernel
theorem dX10_sure_41 : decode cX10_sure 41 = .ok (.goto 4, 3) := by decide +kernel
theorem dX10_sure_44 : decode cX10_sure 44 = .ok (.iconst 0, 1) := by decide +kernel
theorem dX10_sure_45 : decode cX10_sure 45 = .ok (.iload_n 2, 1) := by decide +kernel
theorem dX10_sure_46 : decode cX10_sure 46 = .ok (.ishl, 1) := by decide +kernel
theorem dX10_sure_47 : decode cX10_sure 47 = .ok (.ior, 1) := by decide +kernel
theorem dX10_sure_48 : decode cX10_sure 48 = .ok (.istore_n 1, 1) := by decide +kernel
theorem dX10_sure_49 : decode cX10_sure 49 = .ok (.iinc 2 1, 3) := by decide +kernel
theorem dX10_sure_52 : decode cX10_sure 52 = .ok (.goto (-48), 3) := by decide +kernel
theorem dX10_sure_55 : decode cX10_sure 55 = .ok (.iload_n 1, 1) := by decide +kernel
theorem dX10_sure_56 : decode cX10_sure 56 = .ok (.ireturn, 1) := by decide +kernel
theorem dX10_tells_0 : decode cX10_tells 0 = .ok (.iload_n 2, 1) := by decide +kernel
theorem dX10_tells_1 : decode cX10_tells 1 = .ok (.i2l, 1) := by decide +kernel
theorem dX10_tells_2 : decode cX10_tells 2 = .ok (.ldc2_w 162, 3) := by decide +kernel
theorem dX10_tells_5 : decode cX10_tells 5 = .ok (.ldc2_w 320, 3) := by decide +kernel
theorem dX10_tells_8 : decode cX10_tells 8 = .ok (.invokestatic 82, 3) := by decide +kernel
theorem dX10_tells_11 : decode cX10_tells 11 = .ok (.ifCond .eq 18, 3) := by decide +kernel
theorem dX10_tells_14 : decode cX10_tells 14 = .ok (.aload_n 0, 1) := by decide +kernel
theorem dX10_tells_15 : decode cX10_tells 15 = .ok (.iload_n 2, 1) := by decide +kernel
theorem dX10_tells_16 : decode cX10_tells 16 = .ok (.bipush 10, 2) := by decide +kernel
theorem dX10_tells_18 : decode cX10_tells 18 = .ok (.irem, 1) := by decide +kernel
theorem dX10_tells_19 : decode cX10_tells 19 = .ok (.invokevirtual 88, 3) := by decide +kernel
theorem dX10_tells_22 : decode cX10_tells 22 = .ok (.ifCond .eq 7, 3) := by decide +kernel
theorem dX10_tells_25 : decode cX10_tells 25 = .ok (.iconst 1, 1) := by decide +kernel
theorem dX10_tells_26 : decode cX10_tells 26 = .ok (.goto 4, 3) := by decide +kernel
theorem dX10_tells_29 : decode cX10_tells 29 = .ok (.iconst 0, 1) := by decide +kernel
theorem dX10_tells_30 : decode cX10_tells 30 = .ok (.istore_n 3, 1) := by decide +kernel
theorem dX10_tells_31 : decode cX10_tells 31 = .ok (.iload_n 1, 1) := by decide +kernel
theorem dX10_tells_32 : decode cX10_tells 32 = .ok (.invokestatic 256, 3) := by decide +kernel
theorem dX10_tells_35 : decode cX10_tells 35 = .ok (.ifCond .eq 19, 3) := by decide +kernel
theorem dX10_tells_38 : decode cX10_tells 38 = .ok (.iload_n 2, 1) := by decide +kernel
theorem dX10_tells_39 : decode cX10_tells 39 = .ok (.i2l, 1) := by decide +kernel
theorem dX10_tells_40 : decode cX10_tells 40 = .ok (.lconst 0, 1) := by decide +kernel
theorem dX10_tells_41 : decode cX10_tells 41 = .ok (.ldc2_w 322, 3) := by decide +kernel
theorem dX10_tells_44 : decode cX10_tells 44 = .ok (.invokestatic 82, 3) := by decide +kernel
theorem dX10_tells_47 : decode cX10_tells 47 = .ok (.ifCond .ne 10, 3) := by decide +kernel
theorem dX10_tells_50 : decode cX10_tells 50 = .ok (.iload_n 3, 1) := by decide +kernel
theorem dX10_tells_51 : decode cX10_tells 51 = .ok (.ifCond .ne 6, 3) := by decide +kernel
theorem dX10_tells_54 : decode cX10_tells 54 = .ok (.bipush (-2), 2) := by decide +kernel
theorem dX10_tells_56 : decode cX10_tells 56 = .ok (.ireturn, 1) := by decide +kernel
theorem dX10_tells_57 : decode cX10_tells 57 = .ok (.aload_n 0, 1) := by decide +kernel
theorem dX10_tells_58 : decode cX10_tells 58 = .ok (.getfield 60, 3) := by decide +kernel
theorem dX10_tells_61 : decode cX10_tells 61 = .ok (.iload_n 1, 1) := by decide +kernel
theorem dX10_tells_62 : decode cX10_tells 62 = .ok (.baload, 1) := by decide +kernel
theorem dX10_tells_63 : decode cX10_tells 63 = .ok (.ifCond .ne 6, 3) := by decide +kernel
theorem dX10_tells_66 : decode cX10_tells 66 = .ok (.bipush (-11), 2) := by decide +kernel
theorem dX10_tells_68 : decode cX10_tells 68 = .ok (.ireturn, 1) := by decide +kernel
theorem dX10_tells_69 : decode cX10_tells 69 = .ok (.aload_n 0, 1) := by decide +kernel
theorem dX10_tells_70 : decode cX10_tells 70 = .ok (.getfield 66, 3) := by decide +kernel
theorem dX10_tells_73 : decode cX10_tells 73 = .ok (.iload_n 1, 1) := by decide +kernel
theorem dX10_tells_74 : decode cX10_tells 74 = .ok (.iaload, 1) := by decide +kernel
theorem dX10_tells_75 : decode cX10_tells 75 = .ok (.aload_n 0, 1) := by decide +kernel
theorem dX10_tells_76 : decode cX10_tells 76 = .ok (.getfield 79, 3) := by decide +kernel
theorem dX10_tells_79 : decode cX10_tells 79 = .ok (.if_icmp .eq 6, 3) := by decide +kernel
theorem dX10_tells_82 : decode cX10_tells 82 = .ok (.bipush (-2), 2) := by decide +kernel
theorem dX10_tells_84 : decode cX10_tells 84 = .ok (.ireturn, 1) := by decide +kernel
theorem dX10_tells_85 : decode cX10_tells 85 = .ok (.iload_n 2, 1) := by decide +kernel
theorem dX10_tells_86 : decode cX10_tells 86 = .ok (.iconst 3, 1) := by decide +kernel
theorem dX10_tells_87 : decode cX10_tells 87 = .ok (.if_icmp .ne 9, 3) := by decide +kernel
theorem dX10_tells_90 : decode cX10_tells 90 = .ok (.aload_n 0, 1) := by decide +kernel
theorem dX10_tells_91 : decode cX10_tells 91 = .ok (.iload_n 1, 1) := by decide +kernel
theorem dX10_tells_92 : decode cX10_tells 92 = .ok (.invokevirtual 324, 3) := by decide +kernel
theorem dX10_tells_95 : decode cX10_tells 95 = .ok (.ireturn, 1) := by decide +kernel
theorem dX10_tells_96 : decode cX10_tells 96 = .ok (.iload_n 2, 1) := by decide +kernel
theorem dX10_tells_97 : decode cX10_tells 97 = .ok (.iconst 3, 1) := by decide +kernel
theorem dX10_tells_98 : decode cX10_tells 98 = .ok (.if_icmp .ge 82, 3) := by decide +kernel
theorem dX10_tells_101 : decode cX10_tells 101 = .ok (.aload_n 0, 1) := by decide +kernel
theorem dX10_tells_102 : decode cX10_tells 102 = .ok (.iconst 0, 1) := by decide +kernel
theorem dX10_tells_103 : decode cX10_tells 103 = .ok (.putfield 310, 3) := by decide +kernel
theorem dX10_tells_106 : decode cX10_tells 106 = .ok (.aload_n 0, 1) := by decide +kernel
theorem dX10_tells_107 : decode cX10_tells 107 = .ok (.iconst 0, 1) := by decide +kernel
theorem dX10_tells_108 : decode cX10_tells 108 = .ok (.putfield 313, 3) := by decide +kernel
theorem dX10_tells_111 : decode cX10_tells 111 = .ok (.iconst 0, 1) := by decide +kernel
theorem dX10_tells_112 : decode cX10_tells 112 = .ok (.istore 4, 2) := by decide +kernel
theorem dX10_tells_114 : decode cX10_tells 114 = .ok (.iload 4, 2) := by decide +kernel
theorem dX10_tells_116 : decode cX10_tells 116 = .ok (.aload_n 0, 1) := by decide +kernel
theorem dX10_tells_117 : decode cX10_tells 117 = .ok (.getfield 79, 3) := by decide +kernel
theorem dX10_tells_120 : decode cX10_tells 120 = .ok (.if_icmp .ge 17, 3) := by decide +kernel
theorem dX10_tells_123 : decode cX10_tells 123 = .ok (.aload_n 0, 1) := by decide +kernel
theorem dX10_tells_124 : decode cX10_tells 124 = .ok (.getfield 45, 3) := by decide +kernel
theorem dX10_tells_127 : decode cX10_tells 127 = .ok (.iload 4, 2) := by decide +kernel
theorem dX10_tells_129 : decode cX10_tells 129 = .ok (.iconst 0, 1) := by decide +kernel
theorem dX10_tells_130 : decode cX10_tells 130 = .ok (.iastore, 1) := by decide +kernel
theorem dX10_tells_131 : decode cX10_tells 131 = .ok (.iinc 4 1, 3) := by decide +kernel
theorem dX10_tells_134 : decode cX10_tells 134 = .ok (.goto (-20), 3) := by decide +kernel
theorem dX10_tells_137 : decode cX10_tells 137 = .ok (.aload_n 0, 1) := by decide +kernel
theorem dX10_tells_138 : decode cX10_tells 138 = .ok (.invokevirtual 113, 3) := by decide +kernel
theorem dX10_tells_141 : decode cX10_tells 141 = .ok (.aload_n 0, 1) := by decide +kernel
theorem dX10_tells_142 : decode cX10_tells 142 = .ok (.iload_n 1, 1) := by decide +kernel
theorem dX10_tells_143 : decode cX10_tells 143 = .ok (.aload_n 0, 1) := by decide +kernel
theorem dX10_tells_144 : decode cX10_tells 144 = .ok (.invokevirtual 289, 3) := by decide +kernel
theorem dX10_tells_147 : decode cX10_tells 147 = .ok (.iconst 0, 1) := by decide +kernel
theorem dX10_tells_148 : decode cX10_tells 148 = .ok (.iconst 0, 1) := by decide +kernel
theorem dX10_tells_149 : decode cX10_tells 149 = .ok (.invokevirtual 316, 3) := by decide +kernel
theorem dX10_tells_152 : decode cX10_tells 152 = .ok (.iload_n 2, 1) := by decide +kernel
theorem dX10_tells_153 : decode cX10_tells 153 = .ok (.ifCond .ne 10, 3) := by decide +kernel
theorem dX10_tells_156 : decode cX10_tells 156 = .ok (.aload_n 0, 1) := by decide +kernel
theorem dX10_tells_157 : decode cX10_tells 157 = .ok (.getfield 310, 3) := by decide +kernel
theorem dX10_tells_160 : decode cX10_tells 160 = .ok (.goto 19, 3) := by decide +kernel
theorem dX10_tells_163 : decode cX10_tells 163 = .ok (.iload_n 2, 1) := by decide +kernel
theorem dX10_tells_164 : decode cX10_tells 164 = .ok (.iconst 1, 1) := by decide +kernel
theorem dX10_tells_165 : decode cX10_tells 165 = .ok (.if_icmp .ne 10, 3) := by decide +kernel
theorem dX10_tells_168 : decode cX10_tells 168 = .ok (.aload_n 0, 1) := by decide +kernel
theorem dX10_tells_169 : decode cX10_tells 169 = .ok (.getfield 313, 3) := by decide +kernel
theorem dX10_tells_172 : decode cX10_tells 172 = .ok (.goto 7, 3) := by decide +kernel
theorem dX10_tells_175 : decode cX10_tells 175 = .ok (.aload_n 0, 1) := by decide +kernel
theorem dX10_tells_176 : decode cX10_tells 176 = .ok (.invokevirtual 327, 3) := by decide +kernel
theorem dX10_tells_179 : decode cX10_tells 179 = .ok (.ireturn, 1) := by decide +kernel
theorem dX10_tells_180 : decode cX10_tells 180 = .ok (.iload_n 2, 1) := by decide +kernel
theorem dX10_tells_181 : decode cX10_tells 181 = .ok (.bipush 10, 2) := by decide +kernel
theorem dX10_tells_183 : decode cX10_tells 183 = .ok (.irem, 1) := by decide +kernel
theorem dX10_tells_184 : decode cX10_tells 184 = .ok (.istore 4, 2) := by decide +kernel
theorem dX10_tells_186 : decode cX10_tells 186 = .ok (.iload_n 2, 1) := by decide +kernel
theorem dX10_tells_187 : decode cX10_tells 187 = .ok (.iconst 4, 1) := by decide +kernel
theorem dX10_tells_188 : decode cX10_tells 188 = .ok (.if_icmp .ne 8, 3) := by decide +kernel
theorem dX10_tells_191 : decode cX10_tells 191 = .ok (.bipush 7, 2) := by decide +kernel
theorem dX10_tells_193 : decode cX10_tells 193 = .ok (.goto 25, 3) := by decide +kernel
theorem dX10_tells_196 : decode cX10_tells 196 = .ok (.iload_n 2, 1) := by decide +kernel
theorem dX10_tells_197 : decode cX10_tells 197 = .ok (.bipush 20, 2) := by decide +kernel
theorem dX10_tells_199 : decode cX10_tells 199 = .ok (.if_icmp .ge 8, 3) := by decide +kernel
theorem dX10_tells_202 : decode cX10_tells 202 = .ok (.bipush 6, 2) := by decide +kernel
theorem dX10_tells_204 : decode cX10_tells 204 = .ok (.goto 14, 3) := by decide +kernel
theorem dX10_tells_207 : decode cX10_tells 207 = .ok (.iload_n 2, 1) := by decide +kernel
theorem dX10_tells_208 : decode cX10_tells 208 = .ok (.bipush 30, 2) := by decide +kernel
theorem dX10_tells_210 : decode cX10_tells 210 = .ok (.if_icmp .ge 7, 3) := by decide +kernel
theorem dX10_tells_213 : decode cX10_tells 213 = .ok (.iconst 3, 1) := by decide +kernel
theorem dX10_tells_214 : decode cX10_tells 214 = .ok (.goto 4, 3) := by decide +kernel
theorem dX10_tells_217 : decode cX10_tells 217 = .ok (.iconst 4, 1) := by decide +kernel
theorem dX10_tells_218 : decode cX10_tells 218 = .ok (.istore 5, 2) := by decide +kernel
theorem dX10_tells_220 : decode cX10_tells 220 = .ok (.iload 5, 2) := by decide +kernel
theorem dX10_tells_222 : decode cX10_tells 222 = .ok (.bipush 7, 2) := by decide +kernel
theorem dX10_tells_224 : decode cX10_tells 224 = .ok (.if_icmp .ne 10, 3) := by decide +kernel
theorem dX10_tells_227 : decode cX10_tells 227 = .ok (.aload_n 0, 1) := by decide +kernel
theorem dX10_tells_228 : decode cX10_tells 228 = .ok (.getfield 104, 3) := by decide +kernel
theorem dX10_tells_231 : decode cX10_tells 231 = .ok (.goto 11, 3) := by decide +kernel
theorem dX10_tells_234 : decode cX10_tells 234 = .ok (.aload_n 0, 1) := by decide +kernel
theorem dX10_tells_235 : decode cX10_tells 235 = .ok (.iload 4, 2) := by decide +kernel
theorem dX10_tells_237 : decode cX10_tells 237 = .ok (.iload 5, 2) := by decide +kernel
theorem dX10_tells_239 : decode cX10_tells 239 = .ok (.invokevirtual 96, 3) := by decide +kernel
theorem dX10_tells_242 : decode cX10_tells 242 = .ok (.istore 6, 2) := by decide +kernel
theorem dX10_tells_244 : decode cX10_tells 244 = .ok (.iload 5, 2) := by decide +kernel
theorem dX10_tells_246 : decode cX10_tells 246 = .ok (.bipush 7, 2) := by decide +kernel
theorem dX10_tells_248 : decode cX10_tells 248 = .ok (.if_icmp .ne 12, 3) := by decide +kernel
theorem dX10_tells_251 : decode cX10_tells 251 = .ok (.aload_n 0, 1) := by decide +kernel
theorem dX10_tells_252 : decode cX10_tells 252 = .ok (.getfield 76, 3) := by decide +kernel
theorem dX10_tells_255 : decode cX10_tells 255 = .ok (.iconst 1, 1) := by decide +kernel
theorem dX10_tells_256 : decode cX10_tells 256 = .ok (.isub, 1) := by decide +kernel
theorem dX10_tells_257 : decode cX10_tells 257 = .ok (.goto 19, 3) := by decide +kernel
theorem dX10_tells_260 : decode cX10_tells 260 = .ok (.iload 5, 2) := by decide +kernel
theorem dX10_tells_262 : decode cX10_tells 262 = .ok (.bipush 6, 2) := by decide +kernel
theorem dX10_tells_264 : decode cX10_tells 264 = .ok (.if_icmp .ne 7, 3) := by decide +kernel
theorem dX10_tells_267 : decode cX10_tells 267 = .ok (.iconst 5, 1) := by decide +kernel
theorem dX10_tells_268 : decode cX10_tells 268 = .ok (.goto 8, 3) := by decide +kernel
theorem dX10_tells_271 : decode cX10_tells 271 = .ok (.iload 5, 2) := by decide +kernel
theorem dX10_tells_273 : decode cX10_tells 273 = .ok (.invokestatic 92, 3) := by decide +kernel
theorem dX10_tells_276 : decode cX10_tells 276 = .ok (.istore 7, 2) := by decide +kernel
theorem dX10_tells_278 : decode cX10_tells 278 = .ok (.iconst 0, 1) := by decide +kernel
theorem dX10_tells_279 : decode cX10_tells 279 = .ok (.istore 8, 2) := by decide +kernel
theorem dX10_tells_281 : decode cX10_tells 281 = .ok (.iconst 0, 1) := by decide +kernel
theorem dX10_tells_282 : decode cX10_tells 282 = .ok (.istore 9, 2) := by decide +kernel
theorem dX10_tells_284 : decode cX10_tells 284 = .ok (.iload 9, 2) := by decide +kernel
theorem dX10_tells_286 : decode cX10_tells 286 = .ok (.iload 7, 2) := by decide +kernel
theorem dX10_tells_288 : decode cX10_tells 288 = .ok (.if_icmp .gt 41, 3) := by decide +kernel
theorem dX10_tells_291 : decode cX10_tells 291 = .ok (.aload_n 0, 1) := by decide +kernel
theorem dX10_tells_292 : decode cX10_tells 292 = .ok (.iload 5, 2) := by decide +kernel
theorem dX10_tells_294 : decode cX10_tells 294 = .ok (.iload 4, 2) := by decide +kernel
theorem dX10_tells_296 : decode cX10_tells 296 = .ok (.iload 9, 2) := by decide +kernel
theorem dX10_tells_298 : decode cX10_tells 298 = .ok (.invokevirtual 100, 3) := by decide +kernel
theorem dX10_tells_301 : decode cX10_tells 301 = .ok (.iload 8, 2) := by decide +kernel
theorem dX10_tells_303 : decode cX10_tells 303 = .ok (.aload_n 0, 1) := by decide +kernel
theorem dX10_tells_304 : decode cX10_tells 304 = .ok (.iload_n 1, 1) := by decide +kernel
theorem dX10_tells_305 : decode cX10_tells 305 = .ok (.invokevirtual 324, 3) := by decide +kernel
theorem dX10_tells_308 : decode cX10_tells 308 = .ok (.iconst (-1), 1) := by decide +kernel
theorem dX10_tells_309 : decode cX10_tells 309 = .ok (.if_icmp .ne 7, 3) := by decide +kernel
theorem dX10_tells_312 : decode cX10_tells 312 = .ok (.iconst 1, 1) := by decide +kernel
theorem dX10_tells_313 : decode cX10_tells 313 = .ok (.goto 4, 3) := by decide +kernel
theorem dX10_tells_316 : decode cX10_tells 316 = .ok (.iconst 0, 1) := by decide +kernel
theorem dX10_tells_317 : decode cX10_tells 317 = .ok (.iload 9, 2) := by decide +kernel
theorem dX10_tells_319 : decode cX10_tells 319 = .ok (.ishl, 1) := by decide +kernel
theorem dX10_tells_320 : decode cX10_tells 320 = .ok (.ior, 1) := by decide +kernel
theorem dX10_tells_321 : decode cX10_tells 321 = .ok (.istore 8, 2) := by decide +kernel
theorem dX10_tells_323 : decode cX10_tells 323 = .ok (.iinc 9 1, 3) := by decide +kernel
theorem dX10_tells_326 : decode cX10_tells 326 = .ok (.goto (-42), 3) := by decide +kernel
theorem dX10_tells_329 : decode cX10_tells 329 = .ok (.aload_n 0, 1) := by decide +kernel
theorem dX10_tells_330 : decode cX10_tells 330 = .ok (.iload 5, 2) := by decide +kernel
theorem dX10_tells_332 : decode cX10_tells 332 = .ok (.iload 4, 2) := by decide +kernel
theorem dX10_tells_334 : decode cX10_tells 334 = .ok (.iload 6, 2) := by decide +kernel
theorem dX10_tells_336 : decode cX10_tells 336 = .ok (.invokevirtual 100, 3) := by decide +kernel
theorem dX10_tells_339 : decode cX10_tells 339 = .ok (.iload 8, 2) := by decide +kernel
theorem dX10_tells_341 : decode cX10_tells 341 = .ok (.ireturn, 1) := by decide +kernel
theorem dX10_film_0 : decode cX10_film 0 = .ok (.iload_n 1, 1) := by decide +kernel
theorem dX10_film_1 : decode cX10_film 1 = .ok (.invokestatic 256, 3) := by decide +kernel
theorem dX10_film_4 : decode cX10_film 4 = .ok (.ifCond .ne 6, 3) := by decide +kernel
theorem dX10_film_7 : decode cX10_film 7 = .ok (.bipush (-2), 2) := by decide +kernel
theorem dX10_film_9 : decode cX10_film 9 = .ok (.ireturn, 1) := by decide +kernel
theorem dX10_film_10 : decode cX10_film 10 = .ok (.aload_n 0, 1) := by decide +kernel
theorem dX10_film_11 : decode cX10_film 11 = .ok (.invokevirtual 113, 3) := by decide +kernel
theorem dX10_film_14 : decode cX10_film 14 = .ok (.iconst 0, 1) := by decide +kernel
theorem dX10_film_15 : decode cX10_film 15 = .ok (.istore_n 2, 1) := by decide +kernel
theorem dX10_film_16 : decode cX10_film 16 = .ok (.iload_n 2, 1) := by decide +kernel
theorem dX10_film_17 : decode cX10_film 17 = .ok (.aload_n 0, 1) := by decide +kernel
theorem dX10_film_18 : decode cX10_film 18 = .ok (.getfield 79, 3) := by decide +kernel
theorem dX10_film_21 : decode cX10_film 21 = .ok (.if_icmp .ge 15, 3) := by decide +kernel
theorem dX10_film_24 : decode cX10_film 24 = .ok (.aload_n 0, 1) := by decide +kernel
theorem dX10_film_25 : decode cX10_film 25 = .ok (.iload_n 2, 1) := by decide +kernel
theorem dX10_film_26 : decode cX10_film 26 = .ok (.iload_n 2, 1) := by decide +kernel
theorem dX10_film_27 : decode cX10_film 27 = .ok (.invokevirtual 253, 3) := by decide +kernel
theorem dX10_film_30 : decode cX10_film 30 = .ok (.iinc 2 1, 3) := by decide +kernel
theorem dX10_film_33 : decode cX10_film 33 = .ok (.goto (-17), 3) := by decide +kernel
theorem dX10_film_36 : decode cX10_film 36 = .ok (.aload_n 0, 1) := by decide +kernel
theorem dX10_film_37 : decode cX10_film 37 = .ok (.iload_n 1, 1) := by decide +kernel
theorem dX10_film_38 : decode cX10_film 38 = .ok (.iconst 0, 1) := by decide +kernel
theorem dX10_film_39 : decode cX10_film 39 = .ok (.aload_n 0, 1) := by decide +kernel
theorem dX10_film_40 : decode cX10_film 40 = .ok (.getfield 79, 3) := by decide +kernel
theorem dX10_film_43 : decode cX10_film 43 = .ok (.invokevirtual 330, 3) := by decide +kernel
theorem dX10_film_46 : decode cX10_film 46 = .ok (.pop, 1) := by decide +kernel
theorem dX10_film_47 : decode cX10_film 47 = .ok (.iconst 0, 1) := by decide +kernel
theorem dX10_film_48 : decode cX10_film 48 = .ok (.istore_n 2, 1) := by decide +kernel
theorem dX10_film_49 : decode cX10_film 49 = .ok (.iload_n 2, 1) := by decide +kernel
theorem dX10_film_50 : decode cX10_film 50 = .ok (.aload_n 0, 1) := by decide +kernel
theorem dX10_film_51 : decode cX10_film 51 = .ok (.getfield 79, 3) := by decide +kernel
theorem dX10_film_54 : decode cX10_film 54 = .ok (.if_icmp .ge 28, 3) := by decide +kernel
theorem dX10_film_57 : decode cX10_film 57 = .ok (.aload_n 0, 1) := by decide +kernel
theorem dX10_film_58 : decode cX10_film 58 = .ok (.getfield 69, 3) := by decide +kernel
theorem dX10_film_61 : decode cX10_film 61 = .ok (.bipush 40, 2) := by decide +kernel
theorem dX10_film_63 : decode cX10_film 63 = .ok (.iload_n 1, 1) := by decide +kernel
theorem dX10_film_64 : decode cX10_film 64 = .ok (.imul, 1) := by decide +kernel
theorem dX10_film_65 : decode cX10_film 65 = .ok (.iload_n 2, 1) := by decide +kernel
theorem dX10_film_66 : decode cX10_film 66 = .ok (.iadd, 1) := by decide +kernel
theorem dX10_film_67 : decode cX10_film 67 = .ok (.aload_n 0, 1) := by decide +kernel
theorem dX10_film_68 : decode cX10_film 68 = .ok (.getfield 35, 3) := by decide +kernel
theorem dX10_film_71 : decode cX10_film 71 = .ok (.iload_n 2, 1) := by decide +kernel
theorem dX10_film_72 : decode cX10_film 72 = .ok (.iconst 1, 1) := by decide +kernel
theorem dX10_film_73 : decode cX10_film 73 = .ok (.iadd, 1) := by decide +kernel
theorem dX10_film_74 : decode cX10_film 74 = .ok (.iaload, 1) := by decide +kernel
theorem dX10_film_75 : decode cX10_film 75 = .ok (.iastore, 1) := by decide +kernel
theorem dX10_film_76 : decode cX10_film 76 = .ok (.iinc 2 1, 3) := by decide +kernel
theorem dX10_film_79 : decode cX10_film 79 = .ok (.goto (-30), 3) := by decide +kernel
theorem dX10_film_82 : decode cX10_film 82 = .ok (.aload_n 0, 1) := by decide +kernel
theorem dX10_film_83 : decode cX10_film 83 = .ok (.getfield 79, 3) := by decide +kernel
theorem dX10_film_86 : decode cX10_film 86 = .ok (.ireturn, 1) := by decide +kernel
theorem dX10_draws_0 : decode cX10_draws 0 = .ok (.iload_n 1, 1) := by decide +kernel
theorem dX10_draws_1 : decode cX10_draws 1 = .ok (.istore_n 2, 1) := by decide +kernel
theorem dX10_draws_2 : decode cX10_draws 2 = .ok (.iconst 0, 1) := by decide +kernel
theorem dX10_draws_3 : decode cX10_draws 3 = .ok (.istore_n 3, 1) := by decide +kernel
theorem dX10_draws_4 : decode cX10_draws 4 = .ok (.iload_n 3, 1) := by decide +kernel
theorem dX10_draws_5 : decode cX10_draws 5 = .ok (.aload_n 0, 1) := by decide +kernel
theorem dX10_draws_6 : decode cX10_draws 6 = .ok (.getfield 79, 3) := by decide +kernel
theorem dX10_draws_9 : decode cX10_draws 9 = .ok (.if_icmp .ge 47, 3) := by decide +kernel
theorem dX10_draws_12 : decode cX10_draws 12 = .ok (.aload_n 0, 1) := by decide +kernel
theorem dX10_draws_13 : decode cX10_draws 13 = .ok (.getfield 48, 3) := by decide +kernel
theorem dX10_draws_16 : decode cX10_draws 16 = .ok (.iload_n 3, 1) := by decide +kernel
theorem dX10_draws_17 : decode cX10_draws 17 = .ok (.aload_n 0, 1) := by decide +kernel
theorem dX10_draws_18 : decode cX10_draws 18 = .ok (.iload_n 3, 1) := by decide +kernel
theorem dX10_draws_19 : decode cX10_draws 19 = .ok (.invokevirtual 246, 3) := by decide +kernel
theorem dX10_draws_22 : decode cX10_draws 22 = .ok (.iastore, 1) := by decide +kernel
theorem dX10_draws_23 : decode cX10_draws 23 = .ok (.iload_n 2, 1) := by decide +kernel
theorem dX10_draws_24 : decode cX10_draws 24 = .ok (.ldc_w 333, 3) := by decide +kernel
theorem dX10_draws_27 : decode cX10_draws 27 = .ok (.imul, 1) := by decide +kernel
theorem dX10_draws_28 : decode cX10_draws 28 = .ok (.sipush 12345, 3) := by decide +kernel
theorem dX10_draws_31 : decode cX10_draws 31 = .ok (.iadd, 1) := by decide +kernel
theorem dX10_draws_32 : decode cX10_draws 32 = .ok (.istore_n 2, 1) := by decide +kernel
theorem dX10_draws_33 : decode cX10_draws 33 = .ok (.aload_n 0, 1) := by decide +kernel
theorem dX10_draws_34 : decode cX10_draws 34 = .ok (.getfield 29, 3) := by decide +kernel
theorem dX10_draws_37 : decode cX10_draws 37 = .ok (.iconst 3, 1) := by decide +kernel
theorem dX10_draws_38 : decode cX10_draws 38 = .ok (.iload_n 3, 1) := by decide +kernel
theorem dX10_draws_39 : decode cX10_draws 39 = .ok (.imul, 1) := by decide +kernel
theorem dX10_draws_40 : decode cX10_draws 40 = .ok (.iconst 1, 1) := by decide +kernel
theorem dX10_draws_41 : decode cX10_draws 41 = .ok (.iadd, 1) := by decide +kernel
theorem dX10_draws_42 : decode cX10_draws 42 = .ok (.iload_n 2, 1) := by decide +kernel
theorem dX10_draws_43 : decode cX10_draws 43 = .ok (.bipush 9, 2) := by decide +kernel
theorem dX10_draws_45 : decode cX10_draws 45 = .ok (.iushr, 1) := by decide +kernel
theorem dX10_draws_46 : decode cX10_draws 46 = .ok (.bipush 8, 2) := by decide +kernel
theorem dX10_draws_48 : decode cX10_draws 48 = .ok (.irem, 1) := by decide +kernel
theorem dX10_draws_49 : decode cX10_draws 49 = .ok (.iastore, 1) := by decide +kernel
theorem dX10_draws_50 : decode cX10_draws 50 = .ok (.iinc 3 1, 3) := by decide +kernel
theorem dX10_draws_53 : decode cX10_draws 53 = .ok (.goto (-49), 3) := by decide +kernel
theorem dX10_draws_56 : decode cX10_draws 56 = .ok (.aload_n 0, 1) := by decide +kernel
theorem dX10_draws_57 : decode cX10_draws 57 = .ok (.invokevirtual 113, 3) := by decide +kernel
theorem dX10_draws_60 : decode cX10_draws 60 = .ok (.iconst 0, 1) := by decide +kernel
theorem dX10_draws_61 : decode cX10_draws 61 = .ok (.istore_n 3, 1) := by decide +kernel
theorem dX10_draws_62 : decode cX10_draws 62 = .ok (.iload_n 3, 1) := by decide +kernel
theorem dX10_draws_63 : decode cX10_draws 63 = .ok (.aload_n 0, 1) := by decide +kernel
theorem dX10_draws_64 : decode cX10_draws 64 = .ok (.getfield 79, 3) := by decide +kernel
theorem dX10_draws_67 : decode cX10_draws 67 = .ok (.if_icmp .ge 15, 3) := by decide +kernel
theorem dX10_draws_70 : decode cX10_draws 70 = .ok (.aload_n 0, 1) := by decide +kernel
theorem dX10_draws_71 : decode cX10_draws 71 = .ok (.iload_n 3, 1) := by decide +kernel
theorem dX10_draws_72 : decode cX10_draws 72 = .ok (.iload_n 3, 1) := by decide +kernel
theorem dX10_draws_73 : decode cX10_draws 73 = .ok (.invokevirtual 253, 3) := by decide +kernel
theorem dX10_draws_76 : decode cX10_draws 76 = .ok (.iinc 3 1, 3) := by decide +kernel
theorem dX10_draws_79 : decode cX10_draws 79 = .ok (.goto (-17), 3) := by decide +kernel
theorem dX10_draws_82 : decode cX10_draws 82 = .ok (.iconst 0, 1) := by decide +kernel
theorem dX10_draws_83 : decode cX10_draws 83 = .ok (.istore_n 3, 1) := by decide +kernel
theorem dX10_draws_84 : decode cX10_draws 84 = .ok (.iload_n 3, 1) := by decide +kernel
theorem dX10_draws_85 : decode cX10_draws 85 = .ok (.aload_n 0, 1) := by decide +kernel
theorem dX10_draws_86 : decode cX10_draws 86 = .ok (.getfield 79, 3) := by decide +kernel
theorem dX10_draws_89 : decode cX10_draws 89 = .ok (.if_icmp .ge 25, 3) := by decide +kernel
theorem dX10_draws_92 : decode cX10_draws 92 = .ok (.aload_n 0, 1) := by decide +kernel
theorem dX10_draws_93 : decode cX10_draws 93 = .ok (.getfield 29, 3) := by decide +kernel
theorem dX10_draws_96 : decode cX10_draws 96 = .ok (.iconst 3, 1) := by decide +kernel
theorem dX10_draws_97 : decode cX10_draws 97 = .ok (.iload_n 3, 1) := by decide +kernel
theorem dX10_draws_98 : decode cX10_draws 98 = .ok (.imul, 1) := by decide +kernel
theorem dX10_draws_99 : decode cX10_draws 99 = .ok (.iconst 1, 1) := by decide +kernel
theorem dX10_draws_100 : decode cX10_draws 100 = .ok (.iadd, 1) := by decide +kernel
theorem dX10_draws_101 : decode cX10_draws 101 = .ok (.aload_n 0, 1) := by decide +kernel
theorem dX10_draws_102 : decode cX10_draws 102 = .ok (.getfield 48, 3) := by decide +kernel
theorem dX10_draws_105 : decode cX10_draws 105 = .ok (.iload_n 3, 1) := by decide +kernel
theorem dX10_draws_106 : decode cX10_draws 106 = .ok (.iaload, 1) := by decide +kernel
theorem dX10_draws_107 : decode cX10_draws 107 = .ok (.iastore, 1) := by decide +kernel
theorem dX10_draws_108 : decode cX10_draws 108 = .ok (.iinc 3 1, 3) := by decide +kernel
theorem dX10_draws_111 : decode cX10_draws 111 = .ok (.goto (-27), 3) := by decide +kernel
theorem dX10_draws_114 : decode cX10_draws 114 = .ok (.return_, 1) := by decide +kernel
theorem dX10_drawn_0 : decode cX10_drawn 0 = .ok (.aload_n 0, 1) := by decide +kernel
theorem dX10_drawn_1 : decode cX10_drawn 1 = .ok (.iload_n 1, 1) := by decide +kernel
theorem dX10_drawn_2 : decode cX10_drawn 2 = .ok (.invokevirtual 334, 3) := by decide +kernel
theorem dX10_drawn_5 : decode cX10_drawn 5 = .ok (.aload_n 0, 1) := by decide +kernel
theorem dX10_drawn_6 : decode cX10_drawn 6 = .ok (.getfield 35, 3) := by decide +kernel
theorem dX10_drawn_9 : decode cX10_drawn 9 = .ok (.aload_n 0, 1) := by decide +kernel
theorem dX10_drawn_10 : decode cX10_drawn 10 = .ok (.getfield 79, 3) := by decide +kernel
theorem dX10_drawn_13 : decode cX10_drawn 13 = .ok (.iaload, 1) := by decide +kernel
theorem dX10_drawn_14 : decode cX10_drawn 14 = .ok (.ireturn, 1) := by decide +kernel
theorem dX10_chance_0 : decode cX10_chance 0 = .ok (.iload_n 2, 1) := by decide +kernel
theorem dX10_chance_1 : decode cX10_chance 1 = .ok (.i2l, 1) := by decide +kernel
theorem dX10_chance_2 : decode cX10_chance 2 = .ok (.lconst 1, 1) := by decide +kernel
theorem dX10_chance_3 : decode cX10_chance 3 = .ok (.ldc2_w 337, 3) := by decide +kernel
theorem dX10_chance_6 : decode cX10_chance 6 = .ok (.invokestatic 82, 3) := by decide +kernel
theorem dX10_chance_9 : decode cX10_chance 9 = .ok (.ifCond .eq 13, 3) := by decide +kernel
theorem dX10_chance_12 : decode cX10_chance 12 = .ok (.iload_n 3, 1) := by decide +kernel
theorem dX10_chance_13 : decode cX10_chance 13 = .ok (.i2l, 1) := by decide +kernel
theorem dX10_chance_14 : decode cX10_chance 14 = .ok (.lconst 0, 1) := by decide +kernel
theorem dX10_chance_15 : decode cX10_chance 15 = .ok (.lconst 1, 1) := by decide +kernel
theorem dX10_chance_16 : decode cX10_chance 16 = .ok (.invokestatic 82, 3) := by decide +kernel
theorem dX10_chance_19 : decode cX10_chance 19 = .ok (.ifCond .ne 7, 3) := by decide +kernel
theorem dX10_chance_22 : decode cX10_chance 22 = .ok (.ldc2_w 339, 3) := by decide +kernel
theorem dX10_chance_25 : decode cX10_chance 25 = .ok (.lreturn, 1) := by decide +kernel
theorem dX10_chance_26 : decode cX10_chance 26 = .ok (.lconst 0, 1) := by decide +kernel
theorem dX10_chance_27 : decode cX10_chance 27 = .ok (.lstore 4, 2) := by decide +kernel
theorem dX10_chance_29 : decode cX10_chance 29 = .ok (.iconst 0, 1) := by decide +kernel
theorem dX10_chance_30 : decode cX10_chance 30 = .ok (.istore 6, 2) := by decide +kernel
theorem dX10_chance_32 : decode cX10_chance 32 = .ok (.iload 6, 2) := by decide +kernel
theorem dX10_chance_34 : decode cX10_chance 34 = .ok (.iload_n 2, 1) := by decide +kernel
theorem dX10_chance_35 : decode cX10_chance 35 = .ok (.if_icmp .ge 38, 3) := by decide +kernel
theorem dX10_chance_38 : decode cX10_chance 38 = .ok (.aload_n 0, 1) := by decide +kernel
theorem dX10_chance_39 : decode cX10_chance 39 = .ok (.iload_n 1, 1) := by decide +kernel
theorem dX10_chance_40 : decode cX10_chance 40 = .ok (.iload 6, 2) := by decide +kernel
theorem dX10_chance_42 : decode cX10_chance 42 = .ok (.iadd, 1) := by decide +kernel
theorem dX10_chance_43 : decode cX10_chance 43 = .ok (.invokevirtual 334, 3) := by decide +kernel
theorem dX10_chance_46 : decode cX10_chance 46 = .ok (.lload 4, 2) := by decide +kernel
theorem dX10_chance_48 : decode cX10_chance 48 = .ok (.aload_n 0, 1) := by decide +kernel
theorem dX10_chance_49 : decode cX10_chance 49 = .ok (.aload_n 0, 1) := by decide +kernel
theorem dX10_chance_50 : decode cX10_chance 50 = .ok (.getfield 79, 3) := by decide +kernel
theorem dX10_chance_53 : decode cX10_chance 53 = .ok (.invokevirtual 271, 3) := by decide +kernel
theorem dX10_chance_56 : decode cX10_chance 56 = .ok (.ifCond .le 7, 3) := by decide +kernel
theorem dX10_chance_59 : decode cX10_chance 59 = .ok (.lconst 1, 1) := by decide +kernel
theorem dX10_chance_60 : decode cX10_chance 60 = .ok (.goto 4, 3) := by decide +kernel
theorem dX10_chance_63 : decode cX10_chance 63 = .ok (.lconst 0, 1) := by decide +kernel
theorem dX10_chance_64 : decode cX10_chance 64 = .ok (.ladd, 1) := by decide +kernel
theorem dX10_chance_65 : decode cX10_chance 65 = .ok (.lstore 4, 2) := by decide +kernel
theorem dX10_chance_67 : decode cX10_chance 67 = .ok (.iinc 6 1, 3) := by decide +kernel
theorem dX10_chance_70 : decode cX10_chance 70 = .ok (.goto (-38), 3) := by decide +kernel
theorem dX10_chance_73 : decode cX10_chance 73 = .ok (.lload 4, 2) := by decide +kernel
theorem dX10_chance_75 : decode cX10_chance 75 = .ok (.lstore 6, 2) := by decide +kernel
theorem dX10_chance_77 : decode cX10_chance 77 = .ok (.iload_n 2, 1) := by decide +kernel
theorem dX10_chance_78 : decode cX10_chance 78 = .ok (.i2l, 1) := by decide +kernel
theorem dX10_chance_79 : decode cX10_chance 79 = .ok (.lstore 8, 2) := by decide +kernel
theorem dX10_chance_81 : decode cX10_chance 81 = .ok (.lload 8, 2) := by decide +kernel
theorem dX10_chance_83 : decode cX10_chance 83 = .ok (.lconst 0, 1) := by decide +kernel
theorem dX10_chance_84 : decode cX10_chance 84 = .ok (.lcmp, 1) := by decide +kernel
theorem dX10_chance_85 : decode cX10_chance 85 = .ok (.ifCond .eq 21, 3) := by decide +kernel
theorem dX10_chance_88 : decode cX10_chance 88 = .ok (.lload 6, 2) := by decide +kernel
theorem dX10_chance_90 : decode cX10_chance 90 = .ok (.lload 8, 2) := by decide +kernel
theorem dX10_chance_92 : decode cX10_chance 92 = .ok (.lrem, 1) := by decide +kernel
theorem dX10_chance_93 : decode cX10_chance 93 = .ok (.lstore 10, 2) := by decide +kernel
theorem dX10_chance_95 : decode cX10_chance 95 = .ok (.lload 8, 2) := by decide +kernel
theorem dX10_chance_97 : decode cX10_chance 97 = .ok (.lstore 6, 2) := by decide +kernel
theorem dX10_chance_99 : decode cX10_chance 99 = .ok (.lload 10, 2) := by decide +kernel
theorem dX10_chance_101 : decode cX10_chance 101 = .ok (.lstore 8, 2) := by decide +kernel
theorem dX10_chance_103 : decode cX10_chance 103 = .ok (.goto (-22), 3) := by decide +kernel
theorem dX10_chance_106 : decode cX10_chance 106 = .ok (.iload_n 3, 1) := by decide +kernel
theorem dX10_chance_107 : decode cX10_chance 107 = .ok (.ifCond .ne 11, 3) := by decide +kernel
theorem dX10_chance_110 : decode cX10_chance 110 = .ok (.lload 4, 2) := by decide +kernel
theorem dX10_chance_112 : decode cX10_chance 112 = .ok (.lload 6, 2) := by decide +kernel
theorem dX10_chance_114 : decode cX10_chance 114 = .ok (.ldiv, 1) := by decide +kernel
theorem dX10_chance_115 : decode cX10_chance 115 = .ok (.goto 8, 3) := by decide +kernel
theorem dX10_chance_118 : decode cX10_chance 118 = .ok (.iload_n 2, 1) := by decide +kernel
theorem dX10_chance_119 : decode cX10_chance 119 = .ok (.i2l, 1) := by decide +kernel
theorem dX10_chance_120 : decode cX10_chance 120 = .ok (.lload 6, 2) := by decide +kernel
theorem dX10_chance_122 : decode cX10_chance 122 = .ok (.ldiv, 1) := by decide +kernel
theorem dX10_chance_123 : decode cX10_chance 123 = .ok (.lreturn, 1) := by decide +kernel
theorem dX10_image_0 : decode cX10_image 0 = .ok (.iconst 0, 1) := by decide +kernel
theorem dX10_image_1 : decode cX10_image 1 = .ok (.istore_n 1, 1) := by decide +kernel
theorem dX10_image_2 : decode cX10_image 2 = .ok (.iload_n 1, 1) := by decide +kernel
theorem dX10_image_3 : decode cX10_image 3 = .ok (.iconst 3, 1) := by decide +kernel
theorem dX10_image_4 : decode cX10_image 4 = .ok (.if_icmp .ge 21, 3) := by decide +kernel
theorem dX10_image_7 : decode cX10_image 7 = .ok (.aload_n 0, 1) := by decide +kernel
theorem dX10_image_8 : decode cX10_image 8 = .ok (.getfield 51, 3) := by decide +kernel
theorem dX10_image_11 : decode cX10_image 11 = .ok (.iload_n 1, 1) := by decide +kernel
theorem dX10_image_12 : decode cX10_image 12 = .ok (.aload_n 0, 1) := by decide +kernel
theorem dX10_image_13 : decode cX10_image 13 = .ok (.getfield 23, 3) := by decide +kernel
theorem dX10_image_16 : decode cX10_image 16 = .ok (.iload_n 1, 1) := by decide +kernel
theorem dX10_image_17 : decode cX10_image 17 = .ok (.iaload, 1) := by decide +kernel
theorem dX10_image_18 : decode cX10_image 18 = .ok (.iastore, 1) := by decide +kernel
theorem dX10_image_19 : decode cX10_image 19 = .ok (.iinc 1 1, 3) := by decide +kernel
theorem dX10_image_22 : decode cX10_image 22 = .ok (.goto (-20), 3) := by decide +kernel
theorem dX10_image_25 : decode cX10_image 25 = .ok (.iconst 0, 1) := by decide +kernel
theorem dX10_image_26 : decode cX10_image 26 = .ok (.istore_n 1, 1) := by decide +kernel
theorem dX10_image_27 : decode cX10_image 27 = .ok (.iload_n 1, 1) := by decide +kernel
theorem dX10_image_28 : decode cX10_image 28 = .ok (.bipush 15, 2) := by decide +kernel
theorem dX10_image_30 : decode cX10_image 30 = .ok (.if_icmp .ge 21, 3) := by decide +kernel
theorem dX10_image_33 : decode cX10_image 33 = .ok (.aload_n 0, 1) := by decide +kernel
theorem dX10_image_34 : decode cX10_image 34 = .ok (.getfield 54, 3) := by decide +kernel
theorem dX10_image_37 : decode cX10_image 37 = .ok (.iload_n 1, 1) := by decide +kernel
theorem dX10_image_38 : decode cX10_image 38 = .ok (.aload_n 0, 1) := by decide +kernel
theorem dX10_image_39 : decode cX10_image 39 = .ok (.getfield 29, 3) := by decide +kernel
theorem dX10_image_42 : decode cX10_image 42 = .ok (.iload_n 1, 1) := by decide +kernel
theorem dX10_image_43 : decode cX10_image 43 = .ok (.iaload, 1) := by decide +kernel
theorem dX10_image_44 : decode cX10_image 44 = .ok (.iastore, 1) := by decide +kernel
theorem dX10_image_45 : decode cX10_image 45 = .ok (.iinc 1 1, 3) := by decide +kernel
theorem dX10_image_48 : decode cX10_image 48 = .ok (.goto (-21), 3) := by decide +kernel
theorem dX10_image_51 : decode cX10_image 51 = .ok (.aload_n 0, 1) := by decide +kernel
theorem dX10_image_52 : decode cX10_image 52 = .ok (.aload_n 0, 1) := by decide +kernel
theorem dX10_image_53 : decode cX10_image 53 = .ok (.getfield 79, 3) := by decide +kernel
theorem dX10_image_56 : decode cX10_image 56 = .ok (.putfield 57, 3) := by decide +kernel
theorem dX10_image_59 : decode cX10_image 59 = .ok (.aload_n 0, 1) := by decide +kernel
theorem dX10_image_60 : decode cX10_image 60 = .ok (.aload_n 0, 1) := by decide +kernel
theorem dX10_image_61 : decode cX10_image 61 = .ok (.getfield 274, 3) := by decide +kernel
theorem dX10_image_64 : decode cX10_image 64 = .ok (.putfield 341, 3) := by decide +kernel
theorem dX10_image_67 : decode cX10_image 67 = .ok (.aload_n 0, 1) := by decide +kernel
theorem dX10_image_68 : decode cX10_image 68 = .ok (.aload_n 0, 1) := by decide +kernel
theorem dX10_image_69 : decode cX10_image 69 = .ok (.getfield 104, 3) := by decide +kernel
theorem dX10_image_72 : decode cX10_image 72 = .ok (.putfield 344, 3) := by decide +kernel
theorem dX10_image_75 : decode cX10_image 75 = .ok (.aload_n 0, 1) := by decide +kernel
theorem dX10_image_76 : decode cX10_image 76 = .ok (.getfield 79, 3) := by decide +kernel
theorem dX10_image_79 : decode cX10_image 79 = .ok (.ireturn, 1) := by decide +kernel
theorem dX10_back_0 : decode cX10_back 0 = .ok (.aload_n 0, 1) := by decide +kernel
theorem dX10_back_1 : decode cX10_back 1 = .ok (.getfield 57, 3) := by decide +kernel
theorem dX10_back_4 : decode cX10_back 4 = .ok (.iconst (-1), 1) := by decide +kernel
theorem dX10_back_5 : decode cX10_back 5 = .ok (.if_icmp .ne 6, 3) := by decide +kernel
theorem dX10_back_8 : decode cX10_back 8 = .ok (.bipush (-3), 2) := by decide +kernel
theorem dX10_back_10 : decode cX10_back 10 = .ok (.ireturn, 1) := by decide +kernel
theorem dX10_back_11 : decode cX10_back 11 = .ok (.iconst 0, 1) := by decide +kernel
theorem dX10_back_12 : decode cX10_back 12 = .ok (.istore_n 1, 1) := by decide +kernel
theorem dX10_back_13 : decode cX10_back 13 = .ok (.iload_n 1, 1) := by decide +kernel
theorem dX10_back_14 : decode cX10_back 14 = .ok (.iconst 3, 1) := by decide +kernel
theorem dX10_back_15 : decode cX10_back 15 = .ok (.if_icmp .ge 21, 3) := by decide +kernel
theorem dX10_back_18 : decode cX10_back 18 = .ok (.aload_n 0, 1) := by decide +kernel
theorem dX10_back_19 : decode cX10_back 19 = .ok (.getfield 23, 3) := by decide +kernel
theorem dX10_back_22 : decode cX10_back 22 = .ok (.iload_n 1, 1) := by decide +kernel
theorem dX10_back_23 : decode cX10_back 23 = .ok (.aload_n 0, 1) := by decide +kernel
theorem dX10_back_24 : decode cX10_back 24 = .ok (.getfield 51, 3) := by decide +kernel
theorem dX10_back_27 : decode cX10_back 27 = .ok (.iload_n 1, 1) := by decide +kernel
theorem dX10_back_28 : decode cX10_back 28 = .ok (.iaload, 1) := by decide +kernel
theorem dX10_back_29 : decode cX10_back 29 = .ok (.iastore, 1) := by decide +kernel
theorem dX10_back_30 : decode cX10_back 30 = .ok (.iinc 1 1, 3) := by decide +kernel
theorem dX10_back_33 : decode cX10_back 33 = .ok (.goto (-20), 3) := by decide +kernel
theorem dX10_back_36 : decode cX10_back 36 = .ok (.iconst 0, 1) := by decide +kernel
theorem dX10_back_37 : decode cX10_back 37 = .ok (.istore_n 1, 1) := by decide +kernel
theorem dX10_back_38 : decode cX10_back 38 = .ok (.iload_n 1, 1) := by decide +kernel
theorem dX10_back_39 : decode cX10_back 39 = .ok (.bipush 15, 2) := by decide +kernel
theorem dX10_back_41 : decode cX10_back 41 = .ok (.if_icmp .ge 21, 3) := by decide +kernel
theorem dX10_back_44 : decode cX10_back 44 = .ok (.aload_n 0, 1) := by decide +kernel
theorem dX10_back_45 : decode cX10_back 45 = .ok (.getfield 29, 3) := by decide +kernel
theorem dX10_back_48 : decode cX10_back 48 = .ok (.iload_n 1, 1) := by decide +kernel
theorem dX10_back_49 : decode cX10_back 49 = .ok (.aload_n 0, 1) := by decide +kernel
theorem dX10_back_50 : decode cX10_back 50 = .ok (.getfield 54, 3) := by decide +kernel
theorem dX10_back_53 : decode cX10_back 53 = .ok (.iload_n 1, 1) := by decide +kernel
theorem dX10_back_54 : decode cX10_back 54 = .ok (.iaload, 1) := by decide +kernel
theorem dX10_back_55 : decode cX10_back 55 = .ok (.iastore, 1) := by decide +kernel
theorem dX10_back_56 : decode cX10_back 56 = .ok (.iinc 1 1, 3) := by decide +kernel
theorem dX10_back_59 : decode cX10_back 59 = .ok (.goto (-21), 3) := by decide +kernel
theorem dX10_back_62 : decode cX10_back 62 = .ok (.aload_n 0, 1) := by decide +kernel
theorem dX10_back_63 : decode cX10_back 63 = .ok (.aload_n 0, 1) := by decide +kernel
theorem dX10_back_64 : decode cX10_back 64 = .ok (.getfield 57, 3) := by decide +kernel
theorem dX10_back_67 : decode cX10_back 67 = .ok (.putfield 79, 3) := by decide +kernel
theorem dX10_back_70 : decode cX10_back 70 = .ok (.aload_n 0, 1) := by decide +kernel
theorem dX10_back_71 : decode cX10_back 71 = .ok (.aload_n 0, 1) := by decide +kernel
theorem dX10_back_72 : decode cX10_back 72 = .ok (.getfield 341, 3) := by decide +kernel
theorem dX10_back_75 : decode cX10_back 75 = .ok (.putfield 274, 3) := by decide +kernel
theorem dX10_back_78 : decode cX10_back 78 = .ok (.aload_n 0, 1) := by decide +kernel
theorem dX10_back_79 : decode cX10_back 79 = .ok (.aload_n 0, 1) := by decide +kernel
theorem dX10_back_80 : decode cX10_back 80 = .ok (.getfield 344, 3) := by decide +kernel
theorem dX10_back_83 : decode cX10_back 83 = .ok (.putfield 104, 3) := by decide +kernel
theorem dX10_back_86 : decode cX10_back 86 = .ok (.aload_n 0, 1) := by decide +kernel
theorem dX10_back_87 : decode cX10_back 87 = .ok (.getfield 79, 3) := by decide +kernel
theorem dX10_back_90 : decode cX10_back 90 = .ok (.ireturn, 1) := by decide +kernel
theorem dX10_count_0 : decode cX10_count 0 = .ok (.iload_n 1, 1) := by decide +kernel
theorem dX10_count_1 : decode cX10_count 1 = .ok (.i2l, 1) := by decide +kernel
theorem dX10_count_2 : decode cX10_count 2 = .ok (.lconst 0, 1) := by decide +kernel
theorem dX10_count_3 : decode cX10_count 3 = .ok (.ldc2_w 347, 3) := by decide +kernel
theorem dX10_count_6 : decode cX10_count 6 = .ok (.invokestatic 82, 3) := by decide +kernel
theorem dX10_count_9 : decode cX10_count 9 = .ok (.ifCond .ne 6, 3) := by decide +kernel
theorem dX10_count_12 : decode cX10_count 12 = .ok (.bipush (-2), 2) := by decide +kernel
theorem dX10_count_14 : decode cX10_count 14 = .ok (.ireturn, 1) := by decide +kernel
theorem dX10_count_15 : decode cX10_count 15 = .ok (.iload_n 1, 1) := by decide +kernel
theorem dX10_count_16 : decode cX10_count 16 = .ok (.iconst 1, 1) := by decide +kernel
theorem dX10_count_17 : decode cX10_count 17 = .ok (.if_icmp .le 58, 3) := by decide +kernel
theorem dX10_count_20 : decode cX10_count 20 = .ok (.iload_n 1, 1) := by decide +kernel
theorem dX10_count_21 : decode cX10_count 21 = .ok (.iconst 2, 1) := by decide +kernel
theorem dX10_count_22 : decode cX10_count 22 = .ok (.if_icmp .ne 10, 3) := by decide +kernel
theorem dX10_count_25 : decode cX10_count 25 = .ok (.aload_n 0, 1) := by decide +kernel
theorem dX10_count_26 : decode cX10_count 26 = .ok (.getfield 274, 3) := by decide +kernel
theorem dX10_count_29 : decode cX10_count 29 = .ok (.goto 45, 3) := by decide +kernel
theorem dX10_count_32 : decode cX10_count 32 = .ok (.iload_n 1, 1) := by decide +kernel
theorem dX10_count_33 : decode cX10_count 33 = .ok (.iconst 3, 1) := by decide +kernel
theorem dX10_count_34 : decode cX10_count 34 = .ok (.if_icmp .ne 12, 3) := by decide +kernel
theorem dX10_count_37 : decode cX10_count 37 = .ok (.aload_n 0, 1) := by decide +kernel
theorem dX10_count_38 : decode cX10_count 38 = .ok (.getfield 23, 3) := by decide +kernel
theorem dX10_count_41 : decode cX10_count 41 = .ok (.iconst 2, 1) := by decide +kernel
theorem dX10_count_42 : decode cX10_count 42 = .ok (.iaload, 1) := by decide +kernel
theorem dX10_count_43 : decode cX10_count 43 = .ok (.goto 31, 3) := by decide +kernel
theorem dX10_count_46 : decode cX10_count 46 = .ok (.iload_n 1, 1) := by decide +kernel
theorem dX10_count_47 : decode cX10_count 47 = .ok (.iconst 4, 1) := by decide +kernel
theorem dX10_count_48 : decode cX10_count 48 = .ok (.if_icmp .ne 10, 3) := by decide +kernel
theorem dX10_count_51 : decode cX10_count 51 = .ok (.aload_n 0, 1) := by decide +kernel
theorem dX10_count_52 : decode cX10_count 52 = .ok (.getfield 76, 3) := by decide +kernel
theorem dX10_count_55 : decode cX10_count 55 = .ok (.goto 19, 3) := by decide +kernel
theorem dX10_count_58 : decode cX10_count 58 = .ok (.iload_n 1, 1) := by decide +kernel
theorem dX10_count_59 : decode cX10_count 59 = .ok (.iconst 5, 1) := by decide +kernel
theorem dX10_count_60 : decode cX10_count 60 = .ok (.if_icmp .ne 10, 3) := by decide +kernel
theorem dX10_count_63 : decode cX10_count 63 = .ok (.aload_n 0, 1) := by decide +kernel
theorem dX10_count_64 : decode cX10_count 64 = .ok (.getfield 129, 3) := by decide +kernel
theorem dX10_count_67 : decode cX10_count 67 = .ok (.goto 7, 3) := by decide +kernel
theorem dX10_count_70 : decode cX10_count 70 = .ok (.aload_n 0, 1) := by decide +kernel
theorem dX10_count_71 : decode cX10_count 71 = .ok (.getfield 104, 3) := by decide +kernel
theorem dX10_count_74 : decode cX10_count 74 = .ok (.ireturn, 1) := by decide +kernel
theorem dX10_count_75 : decode cX10_count 75 = .ok (.iconst 0, 1) := by decide +kernel
theorem dX10_count_76 : decode cX10_count 76 = .ok (.istore_n 2, 1) := by decide +kernel
theorem dX10_count_77 : decode cX10_count 77 = .ok (.iconst 0, 1) := by decide +kernel
theorem dX10_count_78 : decode cX10_count 78 = .ok (.istore_n 3, 1) := by decide +kernel
theorem dX10_count_79 : decode cX10_count 79 = .ok (.iload_n 3, 1) := by decide +kernel
theorem dX10_count_80 : decode cX10_count 80 = .ok (.aload_n 0, 1) := by decide +kernel
theorem dX10_count_81 : decode cX10_count 81 = .ok (.getfield 79, 3) := by decide +kernel
theorem dX10_count_84 : decode cX10_count 84 = .ok (.if_icmp .ge 35, 3) := by decide +kernel
theorem dX10_count_87 : decode cX10_count 87 = .ok (.iload_n 2, 1) := by decide +kernel
theorem dX10_count_88 : decode cX10_count 88 = .ok (.iload_n 1, 1) := by decide +kernel
theorem dX10_count_89 : decode cX10_count 89 = .ok (.ifCond .eq 17, 3) := by decide +kernel
theorem dX10_count_92 : decode cX10_count 92 = .ok (.aload_n 0, 1) := by decide +kernel
theorem dX10_count_93 : decode cX10_count 93 = .ok (.getfield 29, 3) := by decide +kernel
theorem dX10_count_96 : decode cX10_count 96 = .ok (.iconst 3, 1) := by decide +kernel
theorem dX10_count_97 : decode cX10_count 97 = .ok (.iload_n 3, 1) := by decide +kernel
theorem dX10_count_98 : decode cX10_count 98 = .ok (.imul, 1) := by decide +kernel
theorem dX10_count_99 : decode cX10_count 99 = .ok (.iconst 2, 1) := by decide +kernel
theorem dX10_count_100 : decode cX10_count 100 = .ok (.iadd, 1) := by decide +kernel
theorem dX10_count_101 : decode cX10_count 101 = .ok (.iaload, 1) := by decide +kernel
theorem dX10_count_102 : decode cX10_count 102 = .ok (.iconst 1, 1) := by decide +kernel
theorem dX10_count_103 : decode cX10_count 103 = .ok (.if_icmp .ne 7, 3) := by decide +kernel
theorem dX10_count_106 : decode cX10_count 106 = .ok (.iconst 1, 1) := by decide +kernel
theorem dX10_count_107 : decode cX10_count 107 = .ok (.goto 4, 3) := by decide +kernel
theorem dX10_count_110 : decode cX10_count 110 = .ok (.iconst 0, 1) := by decide +kernel
theorem dX10_count_111 : decode cX10_count 111 = .ok (.iadd, 1) := by decide +kernel
theorem dX10_count_112 : decode cX10_count 112 = .ok (.istore_n 2, 1) := by decide +kernel
theorem dX10_count_113 : decode cX10_count 113 = .ok (.iinc 3 1, 3) := by decide +kernel
theorem dX10_count_116 : decode cX10_count 116 = .ok (.goto (-37), 3) := by decide +kernel
theorem dX10_count_119 : decode cX10_count 119 = .ok (.iload_n 2, 1) := by decide +kernel
theorem dX10_count_120 : decode cX10_count 120 = .ok (.ireturn, 1) := by decide +kernel
theorem dX10_isSheet_0 : decode cX10_isSheet 0 = .ok (.iload_n 0, 1) := by decide +kernel
theorem dX10_isSheet_1 : decode cX10_isSheet 1 = .ok (.i2l, 1) := by decide +kernel
theorem dX10_isSheet_2 : decode cX10_isSheet 2 = .ok (.lconst 0, 1) := by decide +kernel
theorem dX10_isSheet_3 : decode cX10_isSheet 3 = .ok (.ldc2_w 302, 3) := by decide +kernel
theorem dX10_isSheet_6 : decode cX10_isSheet 6 = .ok (.invokestatic 82, 3) := by decide +kernel
theorem dX10_isSheet_9 : decode cX10_isSheet 9 = .ok (.ireturn, 1) := by decide +kernel
theorem dX10_sheet_0 : decode cX10_sheet 0 = .ok (.iload_n 1, 1) := by decide +kernel
theorem dX10_sheet_1 : decode cX10_sheet 1 = .ok (.invokestatic 256, 3) := by decide +kernel
theorem dX10_sheet_4 : decode cX10_sheet 4 = .ok (.ifCond .eq 27, 3) := by decide +kernel
theorem dX10_sheet_7 : decode cX10_sheet 7 = .ok (.iload_n 2, 1) := by decide +kernel
theorem dX10_sheet_8 : decode cX10_sheet 8 = .ok (.i2l, 1) := by decide +kernel
theorem dX10_sheet_9 : decode cX10_sheet 9 = .ok (.ldc2_w 349, 3) := by decide +kernel
theorem dX10_sheet_12 : decode cX10_sheet 12 = .ok (.ldc2_w 259, 3) := by decide +kernel
theorem dX10_sheet_15 : decode cX10_sheet 15 = .ok (.invokestatic 82, 3) := by decide +kernel
theorem dX10_sheet_18 : decode cX10_sheet 18 = .ok (.ifCond .eq 13, 3) := by decide +kernel
theorem dX10_sheet_21 : decode cX10_sheet 21 = .ok (.iload_n 2, 1) := by decide +kernel
theorem dX10_sheet_22 : decode cX10_sheet 22 = .ok (.ifCond .lt 12, 3) := by decide +kernel
theorem dX10_sheet_25 : decode cX10_sheet 25 = .ok (.iload_n 3, 1) := by decide +kernel
theorem dX10_sheet_26 : decode cX10_sheet 26 = .ok (.bipush 40, 2) := by decide +kernel
theorem dX10_sheet_28 : decode cX10_sheet 28 = .ok (.if_icmp .le 6, 3) := by decide +kernel
theorem dX10_sheet_31 : decode cX10_sheet 31 = .ok (.bipush (-2), 2) := by decide +kernel
theorem dX10_sheet_33 : decode cX10_sheet 33 = .ok (.ireturn, 1) := by decide +kernel
theorem dX10_sheet_34 : decode cX10_sheet 34 = .ok (.iload_n 2, 1) := by decide +kernel
theorem dX10_sheet_35 : decode cX10_sheet 35 = .ok (.ifCond .lt 10, 3) := by decide +kernel
theorem dX10_sheet_38 : decode cX10_sheet 38 = .ok (.iload_n 3, 1) := by decide +kernel
theorem dX10_sheet_39 : decode cX10_sheet 39 = .ok (.ifCond .ge 6, 3) := by decide +kernel
theorem dX10_sheet_42 : decode cX10_sheet 42 = .ok (.bipush (-14), 2) := by decide +kernel
theorem dX10_sheet_44 : decode cX10_sheet 44 = .ok (.ireturn, 1) := by decide +kernel
theorem dX10_sheet_45 : decode cX10_sheet 45 = .ok (.aload_n 0, 1) := by decide +kernel
theorem dX10_sheet_46 : decode cX10_sheet 46 = .ok (.getfield 60, 3) := by decide +kernel
theorem dX10_sheet_49 : decode cX10_sheet 49 = .ok (.iload_n 1, 1) := by decide +kernel
theorem dX10_sheet_50 : decode cX10_sheet 50 = .ok (.iload_n 2, 1) := by decide +kernel
theorem dX10_sheet_51 : decode cX10_sheet 51 = .ok (.ifCond .lt 7, 3) := by decide +kernel
theorem dX10_sheet_54 : decode cX10_sheet 54 = .ok (.iconst 1, 1) := by decide +kernel
theorem dX10_sheet_55 : decode cX10_sheet 55 = .ok (.goto 4, 3) := by decide +kernel
theorem dX10_sheet_58 : decode cX10_sheet 58 = .ok (.iconst 0, 1) := by decide +kernel
theorem dX10_sheet_59 : decode cX10_sheet 59 = .ok (.bastore, 1) := by decide +kernel
theorem dX10_sheet_60 : decode cX10_sheet 60 = .ok (.aload_n 0, 1) := by decide +kernel
theorem dX10_sheet_61 : decode cX10_sheet 61 = .ok (.getfield 63, 3) := by decide +kernel
theorem dX10_sheet_64 : decode cX10_sheet 64 = .ok (.iload_n 1, 1) := by decide +kernel
theorem dX10_sheet_65 : decode cX10_sheet 65 = .ok (.iload_n 2, 1) := by decide +kernel
theorem dX10_sheet_66 : decode cX10_sheet 66 = .ok (.iastore, 1) := by decide +kernel
theorem dX10_sheet_67 : decode cX10_sheet 67 = .ok (.aload_n 0, 1) := by decide +kernel
theorem dX10_sheet_68 : decode cX10_sheet 68 = .ok (.getfield 66, 3) := by decide +kernel
theorem dX10_sheet_71 : decode cX10_sheet 71 = .ok (.iload_n 1, 1) := by decide +kernel
theorem dX10_sheet_72 : decode cX10_sheet 72 = .ok (.iload_n 3, 1) := by decide +kernel
theorem dX10_sheet_73 : decode cX10_sheet 73 = .ok (.iastore, 1) := by decide +kernel
theorem dX10_sheet_74 : decode cX10_sheet 74 = .ok (.iconst 0, 1) := by decide +kernel
theorem dX10_sheet_75 : decode cX10_sheet 75 = .ok (.istore 4, 2) := by decide +kernel
theorem dX10_sheet_77 : decode cX10_sheet 77 = .ok (.iload 4, 2) := by decide +kernel
theorem dX10_sheet_79 : decode cX10_sheet 79 = .ok (.iload_n 3, 1) := by decide +kernel
theorem dX10_sheet_80 : decode cX10_sheet 80 = .ok (.if_icmp .ge 26, 3) := by decide +kernel
theorem dX10_sheet_83 : decode cX10_sheet 83 = .ok (.iload_n 2, 1) := by decide +kernel
theorem dX10_sheet_84 : decode cX10_sheet 84 = .ok (.ifCond .lt 22, 3) := by decide +kernel
theorem dX10_sheet_87 : decode cX10_sheet 87 = .ok (.aload_n 0, 1) := by decide +kernel
theorem dX10_sheet_88 : decode cX10_sheet 88 = .ok (.getfield 69, 3) := by decide +kernel
theorem dX10_sheet_91 : decode cX10_sheet 91 = .ok (.bipush 40, 2) := by decide +kernel
theorem dX10_sheet_93 : decode cX10_sheet 93 = .ok (.iload_n 1, 1) := by decide +kernel
theorem dX10_sheet_94 : decode cX10_sheet 94 = .ok (.imul, 1) := by decide +kernel
theorem dX10_sheet_95 : decode cX10_sheet 95 = .ok (.iload 4, 2) := by decide +kernel
theorem dX10_sheet_97 : decode cX10_sheet 97 = .ok (.iadd, 1) := by decide +kernel
theorem dX10_sheet_98 : decode cX10_sheet 98 = .ok (.iconst 0, 1) := by decide +kernel
theorem dX10_sheet_99 : decode cX10_sheet 99 = .ok (.iastore, 1) := by decide +kernel
theorem dX10_sheet_100 : decode cX10_sheet 100 = .ok (.iinc 4 1, 3) := by decide +kernel
theorem dX10_sheet_103 : decode cX10_sheet 103 = .ok (.goto (-26), 3) := by decide +kernel
theorem dX10_sheet_106 : decode cX10_sheet 106 = .ok (.iconst 1, 1) := by decide +kernel
theorem dX10_sheet_107 : decode cX10_sheet 107 = .ok (.ireturn, 1) := by decide +kernel
theorem dX10_cell_0 : decode cX10_cell 0 = .ok (.iload_n 1, 1) := by decide +kernel
theorem dX10_cell_1 : decode cX10_cell 1 = .ok (.invokestatic 256, 3) := by decide +kernel
theorem dX10_cell_4 : decode cX10_cell 4 = .ok (.ifCond .ne 6, 3) := by decide +kernel
theorem dX10_cell_7 : decode cX10_cell 7 = .ok (.bipush (-2), 2) := by decide +kernel
theorem dX10_cell_9 : decode cX10_cell 9 = .ok (.ireturn, 1) := by decide +kernel
theorem dX10_cell_10 : decode cX10_cell 10 = .ok (.aload_n 0, 1) := by decide +kernel
theorem dX10_cell_11 : decode cX10_cell 11 = .ok (.getfield 60, 3) := by decide +kernel
theorem dX10_cell_14 : decode cX10_cell 14 = .ok (.iload_n 1, 1) := by decide +kernel
theorem dX10_cell_15 : decode cX10_cell 15 = .ok (.baload, 1) := by decide +kernel
theorem dX10_cell_16 : decode cX10_cell 16 = .ok (.ifCond .ne 6, 3) := by decide +kernel
theorem dX10_cell_19 : decode cX10_cell 19 = .ok (.bipush (-11), 2) := by decide +kernel
theorem dX10_cell_21 : decode cX10_cell 21 = .ok (.ireturn, 1) := by decide +kernel
theorem dX10_cell_22 : decode cX10_cell 22 = .ok (.iload_n 2, 1) := by decide +kernel
theorem dX10_cell_23 : decode cX10_cell 23 = .ok (.i2l, 1) := by decide +kernel
theorem dX10_cell_24 : decode cX10_cell 24 = .ok (.lconst 0, 1) := by decide +kernel
theorem dX10_cell_25 : decode cX10_cell 25 = .ok (.aload_n 0, 1) := by decide +kernel
theorem dX10_cell_26 : decode cX10_cell 26 = .ok (.getfield 66, 3) := by decide +kernel
theorem dX10_cell_29 : decode cX10_cell 29 = .ok (.iload_n 1, 1) := by decide +kernel
theorem dX10_cell_30 : decode cX10_cell 30 = .ok (.iaload, 1) := by decide +kernel
theorem dX10_cell_31 : decode cX10_cell 31 = .ok (.iconst 1, 1) := by decide +kernel
theorem dX10_cell_32 : decode cX10_cell 32 = .ok (.isub, 1) := by decide +kernel
theorem dX10_cell_33 : decode cX10_cell 33 = .ok (.i2l, 1) := by decide +kernel
theorem dX10_cell_34 : decode cX10_cell 34 = .ok (.invokestatic 82, 3) := by decide +kernel
theorem dX10_cell_37 : decode cX10_cell 37 = .ok (.ifCond .ne 6, 3) := by decide +kernel
theorem dX10_cell_40 : decode cX10_cell 40 = .ok (.bipush (-12), 2) := by decide +kernel
theorem dX10_cell_42 : decode cX10_cell 42 = .ok (.ireturn, 1) := by decide +kernel
theorem dX10_cell_43 : decode cX10_cell 43 = .ok (.aload_n 0, 1) := by decide +kernel
theorem dX10_cell_44 : decode cX10_cell 44 = .ok (.getfield 69, 3) := by decide +kernel
theorem dX10_cell_47 : decode cX10_cell 47 = .ok (.bipush 40, 2) := by decide +kernel
theorem dX10_cell_49 : decode cX10_cell 49 = .ok (.iload_n 1, 1) := by decide +kernel
theorem dX10_cell_50 : decode cX10_cell 50 = .ok (.imul, 1) := by decide +kernel
theorem dX10_cell_51 : decode cX10_cell 51 = .ok (.iload_n 2, 1) := by decide +kernel
theorem dX10_cell_52 : decode cX10_cell 52 = .ok (.iadd, 1) := by decide +kernel
theorem dX10_cell_53 : decode cX10_cell 53 = .ok (.aload_n 0, 1) := by decide +kernel
theorem dX10_cell_54 : decode cX10_cell 54 = .ok (.getfield 63, 3) := by decide +kernel
theorem dX10_cell_57 : decode cX10_cell 57 = .ok (.iload_n 1, 1) := by decide +kernel
theorem dX10_cell_58 : decode cX10_cell 58 = .ok (.iaload, 1) := by decide +kernel
theorem dX10_cell_59 : decode cX10_cell 59 = .ok (.ifCond .ne 8, 3) := by decide +kernel
theorem dX10_cell_62 : decode cX10_cell 62 = .ok (.iload_n 3, 1) := by decide +kernel
theorem dX10_cell_63 : decode cX10_cell 63 = .ok (.i2b, 1) := by decide +kernel
theorem dX10_cell_64 : decode cX10_cell 64 = .ok (.goto 19, 3) := by decide +kernel
theorem dX10_cell_67 : decode cX10_cell 67 = .ok (.aload_n 0, 1) := by decide +kernel
theorem dX10_cell_68 : decode cX10_cell 68 = .ok (.getfield 63, 3) := by decide +kernel
theorem dX10_cell_71 : decode cX10_cell 71 = .ok (.iload_n 1, 1) := by decide +kernel
theorem dX10_cell_72 : decode cX10_cell 72 = .ok (.iaload, 1) := by decide +kernel
theorem dX10_cell_73 : decode cX10_cell 73 = .ok (.iconst 1, 1) := by decide +kernel
theorem dX10_cell_74 : decode cX10_cell 74 = .ok (.if_icmp .ne 8, 3) := by decide +kernel
theorem dX10_cell_77 : decode cX10_cell 77 = .ok (.iload_n 3, 1) := by decide +kernel
theorem dX10_cell_78 : decode cX10_cell 78 = .ok (.i2s, 1) := by decide +kernel
theorem dX10_cell_79 : decode cX10_cell 79 = .ok (.goto 4, 3) := by decide +kernel
theorem dX10_cell_82 : decode cX10_cell 82 = .ok (.iload_n 3, 1) := by decide +kernel
theorem dX10_cell_83 : decode cX10_cell 83 = .ok (.iastore, 1) := by decide +kernel
theorem dX10_cell_84 : decode cX10_cell 84 = .ok (.iconst 1, 1) := by decide +kernel
theorem dX10_cell_85 : decode cX10_cell 85 = .ok (.ireturn, 1) := by decide +kernel
theorem dX10_copy_0 : decode cX10_copy 0 = .ok (.iload_n 1, 1) := by decide +kernel
theorem dX10_copy_1 : decode cX10_copy 1 = .ok (.invokestatic 256, 3) := by decide +kernel
theorem dX10_copy_4 : decode cX10_copy 4 = .ok (.ifCond .eq 10, 3) := by decide +kernel
theorem dX10_copy_7 : decode cX10_copy 7 = .ok (.iload_n 3, 1) := by decide +kernel
theorem dX10_copy_8 : decode cX10_copy 8 = .ok (.invokestatic 256, 3) := by decide +kernel
theorem dX10_copy_11 : decode cX10_copy 11 = .ok (.ifCond .ne 6, 3) := by decide +kernel
theorem dX10_copy_14 : decode cX10_copy 14 = .ok (.bipush (-2), 2) := by decide +kernel
theorem dX10_copy_16 : decode cX10_copy 16 = .ok (.ireturn, 1) := by decide +kernel
theorem dX10_copy_17 : decode cX10_copy 17 = .ok (.aload_n 0, 1) := by decide +kernel
theorem dX10_copy_18 : decode cX10_copy 18 = .ok (.getfield 60, 3) := by decide +kernel
theorem dX10_copy_21 : decode cX10_copy 21 = .ok (.iload_n 1, 1) := by decide +kernel
theorem dX10_copy_22 : decode cX10_copy 22 = .ok (.baload, 1) := by decide +kernel
theorem dX10_copy_23 : decode cX10_copy 23 = .ok (.ifCond .eq 12, 3) := by decide +kernel
theorem dX10_copy_26 : decode cX10_copy 26 = .ok (.aload_n 0, 1) := by decide +kernel
theorem dX10_copy_27 : decode cX10_copy 27 = .ok (.getfield 60, 3) := by decide +kernel
theorem dX10_copy_30 : decode cX10_copy 30 = .ok (.iload_n 3, 1) := by decide +kernel
theorem dX10_copy_31 : decode cX10_copy 31 = .ok (.baload, 1) := by decide +kernel
theorem dX10_copy_32 : decode cX10_copy 32 = .ok (.ifCond .ne 6, 3) := by decide +kernel
theorem dX10_copy_35 : decode cX10_copy 35 = .ok (.bipush (-11), 2) := by decide +kernel
theorem dX10_copy_37 : decode cX10_copy 37 = .ok (.ireturn, 1) := by decide +kernel
theorem dX10_copy_38 : decode cX10_copy 38 = .ok (.aload_n 0, 1) := by decide +kernel
theorem dX10_copy_39 : decode cX10_copy 39 = .ok (.getfield 63, 3) := by decide +kernel
theorem dX10_copy_42 : decode cX10_copy 42 = .ok (.iload_n 1, 1) := by decide +kernel
theorem dX10_copy_43 : decode cX10_copy 43 = .ok (.iaload, 1) := by decide +kernel
theorem dX10_copy_44 : decode cX10_copy 44 = .ok (.aload_n 0, 1) := by decide +kernel
theorem dX10_copy_45 : decode cX10_copy 45 = .ok (.getfield 63, 3) := by decide +kernel
theorem dX10_copy_48 : decode cX10_copy 48 = .ok (.iload_n 3, 1) := by decide +kernel
theorem dX10_copy_49 : decode cX10_copy 49 = .ok (.iaload, 1) := by decide +kernel
theorem dX10_copy_50 : decode cX10_copy 50 = .ok (.if_icmp .eq 6, 3) := by decide +kernel
theorem dX10_copy_53 : decode cX10_copy 53 = .ok (.bipush (-13), 2) := by decide +kernel
theorem dX10_copy_55 : decode cX10_copy 55 = .ok (.ireturn, 1) := by decide +kernel
theorem dX10_copy_56 : decode cX10_copy 56 = .ok (.iload 5, 2) := by decide +kernel
theorem dX10_copy_58 : decode cX10_copy 58 = .ok (.ifCond .lt 39, 3) := by decide +kernel
theorem dX10_copy_61 : decode cX10_copy 61 = .ok (.iload_n 2, 1) := by decide +kernel
theorem dX10_copy_62 : decode cX10_copy 62 = .ok (.ifCond .lt 35, 3) := by decide +kernel
theorem dX10_copy_65 : decode cX10_copy 65 = .ok (.iload 4, 2) := by decide +kernel
theorem dX10_copy_67 : decode cX10_copy 67 = .ok (.ifCond .lt 30, 3) := by decide +kernel
theorem dX10_copy_70 : decode cX10_copy 70 = .ok (.iload_n 2, 1) := by decide +kernel
theorem dX10_copy_71 : decode cX10_copy 71 = .ok (.aload_n 0, 1) := by decide +kernel
theorem dX10_copy_72 : decode cX10_copy 72 = .ok (.getfield 66, 3) := by decide +kernel
theorem dX10_copy_75 : decode cX10_copy 75 = .ok (.iload_n 1, 1) := by decide +kernel
theorem dX10_copy_76 : decode cX10_copy 76 = .ok (.iaload, 1) := by decide +kernel
theorem dX10_copy_77 : decode cX10_copy 77 = .ok (.iload 5, 2) := by decide +kernel
theorem dX10_copy_79 : decode cX10_copy 79 = .ok (.isub, 1) := by decide +kernel
theorem dX10_copy_80 : decode cX10_copy 80 = .ok (.if_icmp .gt 17, 3) := by decide +kernel
theorem dX10_copy_83 : decode cX10_copy 83 = .ok (.iload 4, 2) := by decide +kernel
theorem dX10_copy_85 : decode cX10_copy 85 = .ok (.aload_n 0, 1) := by decide +kernel
theorem dX10_copy_86 : decode cX10_copy 86 = .ok (.getfield 66, 3) := by decide +kernel
theorem dX10_copy_89 : decode cX10_copy 89 = .ok (.iload_n 3, 1) := by decide +kernel
theorem dX10_copy_90 : decode cX10_copy 90 = .ok (.iaload, 1) := by decide +kernel
theorem dX10_copy_91 : decode cX10_copy 91 = .ok (.iload 5, 2) := by decide +kernel
theorem dX10_copy_93 : decode cX10_copy 93 = .ok (.isub, 1) := by decide +kernel
theorem dX10_copy_94 : decode cX10_copy 94 = .ok (.if_icmp .le 6, 3) := by decide +kernel
theorem dX10_copy_97 : decode cX10_copy 97 = .ok (.bipush (-12), 2) := by decide +kernel
theorem dX10_copy_99 : decode cX10_copy 99 = .ok (.ireturn, 1) := by decide +kernel
theorem dX10_copy_100 : decode cX10_copy 100 = .ok (.iload_n 1, 1) := by decide +kernel
theorem dX10_copy_101 : decode cX10_copy 101 = .ok (.iload_n 3, 1) := by decide +kernel
theorem dX10_copy_102 : decode cX10_copy 102 = .ok (.if_icmp .ne 13, 3) := by decide +kernel
theorem dX10_copy_105 : decode cX10_copy 105 = .ok (.iload_n 2, 1) := by decide +kernel
theorem dX10_copy_106 : decode cX10_copy 106 = .ok (.iload 4, 2) := by decide +kernel
theorem dX10_copy_108 : decode cX10_copy 108 = .ok (.if_icmp .ge 7, 3) := by decide +kernel
theorem dX10_copy_111 : decode cX10_copy 111 = .ok (.iconst 1, 1) := by decide +kernel
theorem dX10_copy_112 : decode cX10_copy 112 = .ok (.goto 4, 3) := by decide +kernel
theorem dX10_copy_115 : decode cX10_copy 115 = .ok (.iconst 0, 1) := by decide +kernel
theorem dX10_copy_116 : decode cX10_copy 116 = .ok (.istore 6, 2) := by decide +kernel
theorem dX10_copy_118 : decode cX10_copy 118 = .ok (.iconst 0, 1) := by decide +kernel
theorem dX10_copy_119 : decode cX10_copy 119 = .ok (.istore 7, 2) := by decide +kernel
theorem dX10_copy_121 : decode cX10_copy 121 = .ok (.iload 7, 2) := by decide +kernel
theorem dX10_copy_123 : decode cX10_copy 123 = .ok (.iload 5, 2) := by decide +kernel
theorem dX10_copy_125 : decode cX10_copy 125 = .ok (.if_icmp .ge 57, 3) := by decide +kernel
theorem dX10_copy_128 : decode cX10_copy 128 = .ok (.iload 6, 2) := by decide +kernel
theorem dX10_copy_130 : decode cX10_copy 130 = .ok (.ifCond .eq 13, 3) := by decide +kernel
theorem dX10_copy_133 : decode cX10_copy 133 = .ok (.iload 5, 2) := by decide +kernel
theorem dX10_copy_135 : decode cX10_copy 135 = .ok (.iconst 1, 1) := by decide +kernel
theorem dX10_copy_136 : decode cX10_copy 136 = .ok (.isub, 1) := by decide +kernel
theorem dX10_copy_137 : decode cX10_copy 137 = .ok (.iload 7, 2) := by decide +kernel
theorem dX10_copy_139 : decode cX10_copy 139 = .ok (.isub, 1) := by decide +kernel
theorem dX10_copy_140 : decode cX10_copy 140 = .ok (.goto 5, 3) := by decide +kernel
theorem dX10_copy_143 : decode cX10_copy 143 = .ok (.iload 7, 2) := by decide +kernel
theorem dX10_copy_145 : decode cX10_copy 145 = .ok (.istore 8, 2) := by decide +kernel
theorem dX10_copy_147 : decode cX10_copy 147 = .ok (.aload_n 0, 1) := by decide +kernel
theorem dX10_copy_148 : decode cX10_copy 148 = .ok (.getfield 69, 3) := by decide +kernel
theorem dX10_copy_151 : decode cX10_copy 151 = .ok (.bipush 40, 2) := by decide +kernel
theorem dX10_copy_153 : decode cX10_copy 153 = .ok (.iload_n 3, 1) := by decide +kernel
theorem dX10_copy_154 : decode cX10_copy 154 = .ok (.imul, 1) := by decide +kernel
theorem dX10_copy_155 : decode cX10_copy 155 = .ok (.iload 4, 2) := by decide +kernel
theorem dX10_copy_157 : decode cX10_copy 157 = .ok (.iadd, 1) := by decide +kernel
theorem dX10_copy_158 : decode cX10_copy 158 = .ok (.iload 8, 2) := by decide +kernel
theorem dX10_copy_160 : decode cX10_copy 160 = .ok (.iadd, 1) := by decide +kernel
theorem dX10_copy_161 : decode cX10_copy 161 = .ok (.aload_n 0, 1) := by decide +kernel
theorem dX10_copy_162 : decode cX10_copy 162 = .ok (.getfield 69, 3) := by decide +kernel
theorem dX10_copy_165 : decode cX10_copy 165 = .ok (.bipush 40, 2) := by decide +kernel
theorem dX10_copy_167 : decode cX10_copy 167 = .ok (.iload_n 1, 1) := by decide +kernel
theorem dX10_copy_168 : decode cX10_copy 168 = .ok (.imul, 1) := by decide +kernel
theorem dX10_copy_169 : decode cX10_copy 169 = .ok (.iload_n 2, 1) := by decide +kernel
theorem dX10_copy_170 : decode cX10_copy 170 = .ok (.iadd, 1) := by decide +kernel
theorem dX10_copy_171 : decode cX10_copy 171 = .ok (.iload 8, 2) := by decide +kernel
theorem dX10_copy_173 : decode cX10_copy 173 = .ok (.iadd, 1) := by decide +kernel
theorem dX10_copy_174 : decode cX10_copy 174 = .ok (.iaload, 1) := by decide +kernel
theorem dX10_copy_175 : decode cX10_copy 175 = .ok (.iastore, 1) := by decide +kernel
theorem dX10_copy_176 : decode cX10_copy 176 = .ok (.iinc 7 1, 3) := by decide +kernel
theorem dX10_copy_179 : decode cX10_copy 179 = .ok (.goto (-58), 3) := by decide +kernel
theorem dX10_copy_182 : decode cX10_copy 182 = .ok (.iload 5, 2) := by decide +kernel
theorem dX10_copy_184 : decode cX10_copy 184 = .ok (.ireturn, 1) := by decide +kernel
theorem dX10_guests_0 : decode cX10_guests 0 = .ok (.iload_n 1, 1) := by decide +kernel
theorem dX10_guests_1 : decode cX10_guests 1 = .ok (.invokestatic 256, 3) := by decide +kernel
theorem dX10_guests_4 : decode cX10_guests 4 = .ok (.ifCond .eq 28, 3) := by decide +kernel
theorem dX10_guests_7 : decode cX10_guests 7 = .ok (.iload_n 2, 1) := by decide +kernel
theorem dX10_guests_8 : decode cX10_guests 8 = .ok (.i2l, 1) := by decide +kernel
theorem dX10_guests_9 : decode cX10_guests 9 = .ok (.lconst 0, 1) := by decide +kernel
theorem dX10_guests_10 : decode cX10_guests 10 = .ok (.ldc2_w 259, 3) := by decide +kernel
theorem dX10_guests_13 : decode cX10_guests 13 = .ok (.invokestatic 82, 3) := by decide +kernel
theorem dX10_guests_16 : decode cX10_guests 16 = .ok (.ifCond .eq 16, 3) := by decide +kernel
theorem dX10_guests_19 : decode cX10_guests 19 = .ok (.iload 4, 2) := by decide +kernel
theorem dX10_guests_21 : decode cX10_guests 21 = .ok (.i2l, 1) := by decide +kernel
theorem dX10_guests_22 : decode cX10_guests 22 = .ok (.lconst 0, 1) := by decide +kernel
theorem dX10_guests_23 : decode cX10_guests 23 = .ok (.ldc2_w 86, 3) := by decide +kernel
theorem dX10_guests_26 : decode cX10_guests 26 = .ok (.invokestatic 82, 3) := by decide +kernel
theorem dX10_guests_29 : decode cX10_guests 29 = .ok (.ifCond .ne 6, 3) := by decide +kernel
theorem dX10_guests_32 : decode cX10_guests 32 = .ok (.bipush (-2), 2) := by decide +kernel
theorem dX10_guests_34 : decode cX10_guests 34 = .ok (.ireturn, 1) := by decide +kernel
theorem dX10_guests_35 : decode cX10_guests 35 = .ok (.aload_n 0, 1) := by decide +kernel
theorem dX10_guests_36 : decode cX10_guests 36 = .ok (.getfield 60, 3) := by decide +kernel
theorem dX10_guests_39 : decode cX10_guests 39 = .ok (.iload_n 1, 1) := by decide +kernel
theorem dX10_guests_40 : decode cX10_guests 40 = .ok (.baload, 1) := by decide +kernel
theorem dX10_guests_41 : decode cX10_guests 41 = .ok (.ifCond .eq 16, 3) := by decide +kernel
theorem dX10_guests_44 : decode cX10_guests 44 = .ok (.aload_n 0, 1) := by decide +kernel
theorem dX10_guests_45 : decode cX10_guests 45 = .ok (.getfield 63, 3) := by decide +kernel
theorem dX10_guests_48 : decode cX10_guests 48 = .ok (.iload_n 1, 1) := by decide +kernel
theorem dX10_guests_49 : decode cX10_guests 49 = .ok (.iaload, 1) := by decide +kernel
theorem dX10_guests_50 : decode cX10_guests 50 = .ok (.iload_n 2, 1) := by decide +kernel
theorem dX10_guests_51 : decode cX10_guests 51 = .ok (.if_icmp .eq 6, 3) := by decide +kernel
theorem dX10_guests_54 : decode cX10_guests 54 = .ok (.bipush (-13), 2) := by decide +kernel
theorem dX10_guests_56 : decode cX10_guests 56 = .ok (.ireturn, 1) := by decide +kernel
theorem dX10_guests_57 : decode cX10_guests 57 = .ok (.aload_n 0, 1) := by decide +kernel
theorem dX10_guests_58 : decode cX10_guests 58 = .ok (.getfield 60, 3) := by decide +kernel
theorem dX10_guests_61 : decode cX10_guests 61 = .ok (.iload_n 1, 1) := by decide +kernel
theorem dX10_guests_62 : decode cX10_guests 62 = .ok (.baload, 1) := by decide +kernel
theorem dX10_guests_63 : decode cX10_guests 63 = .ok (.ifCond .ne 6, 3) := by decide +kernel
theorem dX10_guests_66 : decode cX10_guests 66 = .ok (.bipush (-11), 2) := by decide +kernel
theorem dX10_guests_68 : decode cX10_guests 68 = .ok (.ireturn, 1) := by decide +kernel
theorem dX10_guests_69 : decode cX10_guests 69 = .ok (.iconst 0, 1) := by decide +kernel
theorem dX10_guests_70 : decode cX10_guests 70 = .ok (.istore 5, 2) := by decide +kernel
theorem dX10_guests_72 : decode cX10_guests 72 = .ok (.iconst 0, 1) := by decide +kernel
theorem dX10_guests_73 : decode cX10_guests 73 = .ok (.istore 6, 2) := by decide +kernel
theorem dX10_guests_75 : decode cX10_guests 75 = .ok (.iload 6, 2) := by decide +kernel
theorem dX10_guests_77 : decode cX10_guests 77 = .ok (.iload 4, 2) := by decide +kernel
theorem dX10_guests_79 : decode cX10_guests 79 = .ok (.if_icmp .ge 88, 3) := by decide +kernel
theorem dX10_guests_82 : decode cX10_guests 82 = .ok (.iload_n 3, 1) := by decide +kernel
theorem dX10_guests_83 : decode cX10_guests 83 = .ok (.ifCond .lt 20, 3) := by decide +kernel
theorem dX10_guests_86 : decode cX10_guests 86 = .ok (.iload_n 3, 1) := by decide +kernel
theorem dX10_guests_87 : decode cX10_guests 87 = .ok (.aload_n 0, 1) := by decide +kernel
theorem dX10_guests_88 : decode cX10_guests 88 = .ok (.getfield 66, 3) := by decide +kernel
theorem dX10_guests_91 : decode cX10_guests 91 = .ok (.iload_n 1, 1) := by decide +kernel
theorem dX10_guests_92 : decode cX10_guests 92 = .ok (.iaload, 1) := by decide +kernel
theorem dX10_guests_93 : decode cX10_guests 93 = .ok (.iconst 3, 1) := by decide +kernel
theorem dX10_guests_94 : decode cX10_guests 94 = .ok (.iload 6, 2) := by decide +kernel
theorem dX10_guests_96 : decode cX10_guests 96 = .ok (.imul, 1) := by decide +kernel
theorem dX10_guests_97 : decode cX10_guests 97 = .ok (.isub, 1) := by decide +kernel
theorem dX10_guests_98 : decode cX10_guests 98 = .ok (.iconst 3, 1) := by decide +kernel
theorem dX10_guests_99 : decode cX10_guests 99 = .ok (.isub, 1) := by decide +kernel
theorem dX10_guests_100 : decode cX10_guests 100 = .ok (.if_icmp .le 6, 3) := by decide +kernel
theorem dX10_guests_103 : decode cX10_guests 103 = .ok (.bipush (-12), 2) := by decide +kernel
theorem dX10_guests_105 : decode cX10_guests 105 = .ok (.ireturn, 1) := by decide +kernel
theorem dX10_guests_106 : decode cX10_guests 106 = .ok (.bipush 40, 2) := by decide +kernel
theorem dX10_guests_108 : decode cX10_guests 108 = .ok (.iload_n 1, 1) := by decide +kernel
theorem dX10_guests_109 : decode cX10_guests 109 = .ok (.imul, 1) := by decide +kernel
theorem dX10_guests_110 : decode cX10_guests 110 = .ok (.iload_n 3, 1) := by decide +kernel
theorem dX10_guests_111 : decode cX10_guests 111 = .ok (.iadd, 1) := by decide +kernel
theorem dX10_guests_112 : decode cX10_guests 112 = .ok (.iconst 3, 1) := by decide +kernel
theorem dX10_guests_113 : decode cX10_guests 113 = .ok (.iload 6, 2) := by decide +kernel
theorem dX10_guests_115 : decode cX10_guests 115 = .ok (.imul, 1) := by decide +kernel
theorem dX10_guests_116 : decode cX10_guests 116 = .ok (.iadd, 1) := by decide +kernel
theorem dX10_guests_117 : decode cX10_guests 117 = .ok (.istore 7, 2) := by decide +kernel
theorem dX10_guests_119 : decode cX10_guests 119 = .ok (.iload 5, 2) := by decide +kernel
theorem dX10_guests_121 : decode cX10_guests 121 = .ok (.aload_n 0, 1) := by decide +kernel
theorem dX10_guests_122 : decode cX10_guests 122 = .ok (.aload_n 0, 1) := by decide +kernel
theorem dX10_guests_123 : decode cX10_guests 123 = .ok (.getfield 69, 3) := by decide +kernel
theorem dX10_guests_126 : decode cX10_guests 126 = .ok (.iload 7, 2) := by decide +kernel
theorem dX10_guests_128 : decode cX10_guests 128 = .ok (.iaload, 1) := by decide +kernel
theorem dX10_guests_129 : decode cX10_guests 129 = .ok (.aload_n 0, 1) := by decide +kernel
theorem dX10_guests_130 : decode cX10_guests 130 = .ok (.getfield 69, 3) := by decide +kernel
theorem dX10_guests_133 : decode cX10_guests 133 = .ok (.iload 7, 2) := by decide +kernel
theorem dX10_guests_135 : decode cX10_guests 135 = .ok (.iconst 1, 1) := by decide +kernel
theorem dX10_guests_136 : decode cX10_guests 136 = .ok (.iadd, 1) := by decide +kernel
theorem dX10_guests_137 : decode cX10_guests 137 = .ok (.iaload, 1) := by decide +kernel
theorem dX10_guests_138 : decode cX10_guests 138 = .ok (.aload_n 0, 1) := by decide +kernel
theorem dX10_guests_139 : decode cX10_guests 139 = .ok (.getfield 69, 3) := by decide +kernel
theorem dX10_guests_142 : decode cX10_guests 142 = .ok (.iload 7, 2) := by decide +kernel
theorem dX10_guests_144 : decode cX10_guests 144 = .ok (.iconst 2, 1) := by decide +kernel
theorem dX10_guests_145 : decode cX10_guests 145 = .ok (.iadd, 1) := by decide +kernel
theorem dX10_guests_146 : decode cX10_guests 146 = .ok (.iaload, 1) := by decide +kernel
theorem dX10_guests_147 : decode cX10_guests 147 = .ok (.invokevirtual 351, 3) := by decide +kernel
theorem dX10_guests_150 : decode cX10_guests 150 = .ok (.ifCond .lt 7, 3) := by decide +kernel
theorem dX10_guests_153 : decode cX10_guests 153 = .ok (.iconst 1, 1) := by decide +kernel
theorem dX10_guests_154 : decode cX10_guests 154 = .ok (.goto 4, 3) := by decide +kernel
theorem dX10_guests_157 : decode cX10_guests 157 = .ok (.iconst 0, 1) := by decide +kernel
theorem dX10_guests_158 : decode cX10_guests 158 = .ok (.iadd, 1) := by decide +kernel
theorem dX10_guests_159 : decode cX10_guests 159 = .ok (.istore 5, 2) := by decide +kernel
theorem dX10_guests_161 : decode cX10_guests 161 = .ok (.iinc 6 1, 3) := by decide +kernel
theorem dX10_guests_164 : decode cX10_guests 164 = .ok (.goto (-89), 3) := by decide +kernel
theorem dX10_guests_167 : decode cX10_guests 167 = .ok (.iload 5, 2) := by decide +kernel
theorem dX10_guests_169 : decode cX10_guests 169 = .ok (.ireturn, 1) := by decide +kernel
theorem dX10_over_0 : decode cX10_over 0 = .ok (.iload_n 0, 1) := by decide +kernel
theorem dX10_over_1 : decode cX10_over 1 = .ok (.ifCond .ne 7, 3) := by decide +kernel
theorem dX10_over_4 : decode cX10_over 4 = .ok (.iconst (-1), 1) := by decide +kernel
theorem dX10_over_5 : decode cX10_over 5 = .ok (.goto 22, 3) := by decide +kernel
theorem dX10_over_8 : decode cX10_over 8 = .ok (.iload_n 0, 1) := by decide +kernel
theorem dX10_over_9 : decode cX10_over 9 = .ok (.iconst 3, 1) := by decide +kernel
theorem dX10_over_10 : decode cX10_over 10 = .ok (.if_icmp .ne 7, 3) := by decide +kernel
theorem dX10_over_13 : decode cX10_over 13 = .ok (.iconst 1, 1) := by decide +kernel
theorem dX10_over_14 : decode cX10_over 14 = .ok (.goto 13, 3) := by decide +kernel
theorem dX10_over_17 : decode cX10_over 17 = .ok (.iload_n 0, 1) := by decide +kernel
theorem dX10_over_18 : decode cX10_over 18 = .ok (.iconst 4, 1) := by decide +kernel
theorem dX10_over_19 : decode cX10_over 19 = .ok (.if_icmp .ne 7, 3) := by decide +kernel
theorem dX10_over_22 : decode cX10_over 22 = .ok (.iconst 2, 1) := by decide +kernel
theorem dX10_over_23 : decode cX10_over 23 = .ok (.goto 4, 3) := by decide +kernel
theorem dX10_over_26 : decode cX10_over 26 = .ok (.iconst 0, 1) := by decide +kernel
theorem dX10_over_27 : decode cX10_over 27 = .ok (.ireturn, 1) := by decide +kernel
theorem dX10_taken_0 : decode cX10_taken 0 = .ok (.iload_n 2, 1) := by decide +kernel
theorem dX10_taken_1 : decode cX10_taken 1 = .ok (.i2l, 1) := by decide +kernel
theorem dX10_taken_2 : decode cX10_taken 2 = .ok (.lconst 0, 1) := by decide +kernel
theorem dX10_taken_3 : decode cX10_taken 3 = .ok (.ldc2_w 86, 3) := by decide +kernel
theorem dX10_taken_6 : decode cX10_taken 6 = .ok (.invokestatic 82, 3) := by decide +kernel
theorem dX10_taken_9 : decode cX10_taken 9 = .ok (.ifCond .ne 6, 3) := by decide +kernel
theorem dX10_taken_12 : decode cX10_taken 12 = .ok (.bipush (-2), 2) := by decide +kernel
theorem dX10_taken_14 : decode cX10_taken 14 = .ok (.ireturn, 1) := by decide +kernel
theorem dX10_taken_15 : decode cX10_taken 15 = .ok (.aload_n 0, 1) := by decide +kernel
theorem dX10_taken_16 : decode cX10_taken 16 = .ok (.iload_n 1, 1) := by decide +kernel
theorem dX10_taken_17 : decode cX10_taken 17 = .ok (.invokevirtual 88, 3) := by decide +kernel
theorem dX10_taken_20 : decode cX10_taken 20 = .ok (.ifCond .ne 6, 3) := by decide +kernel
theorem dX10_taken_23 : decode cX10_taken 23 = .ok (.bipush (-11), 2) := by decide +kernel
theorem dX10_taken_25 : decode cX10_taken 25 = .ok (.ireturn, 1) := by decide +kernel
theorem dX10_taken_26 : decode cX10_taken 26 = .ok (.aload_n 0, 1) := by decide +kernel
theorem dX10_taken_27 : decode cX10_taken 27 = .ok (.getfield 26, 3) := by decide +kernel
theorem dX10_taken_30 : decode cX10_taken 30 = .ok (.iload_n 1, 1) := by decide +kernel
theorem dX10_taken_31 : decode cX10_taken 31 = .ok (.iaload, 1) := by decide +kernel
theorem dX10_taken_32 : decode cX10_taken 32 = .ok (.istore_n 3, 1) := by decide +kernel
theorem dX10_taken_33 : decode cX10_taken 33 = .ok (.iload_n 3, 1) := by decide +kernel
theorem dX10_taken_34 : decode cX10_taken 34 = .ok (.iconst (-1), 1) := by decide +kernel
theorem dX10_taken_35 : decode cX10_taken 35 = .ok (.if_icmp .eq 16, 3) := by decide +kernel
theorem dX10_taken_38 : decode cX10_taken 38 = .ok (.iload_n 3, 1) := by decide +kernel
theorem dX10_taken_39 : decode cX10_taken 39 = .ok (.iload_n 2, 1) := by decide +kernel
theorem dX10_taken_40 : decode cX10_taken 40 = .ok (.if_icmp .eq 11, 3) := by decide +kernel
theorem dX10_taken_43 : decode cX10_taken 43 = .ok (.iload_n 3, 1) := by decide +kernel
theorem dX10_taken_44 : decode cX10_taken 44 = .ok (.invokestatic 354, 3) := by decide +kernel
theorem dX10_taken_47 : decode cX10_taken 47 = .ok (.istore_n 3, 1) := by decide +kernel
theorem dX10_taken_48 : decode cX10_taken 48 = .ok (.goto (-15), 3) := by decide +kernel
theorem dX10_taken_51 : decode cX10_taken 51 = .ok (.iload_n 3, 1) := by decide +kernel
theorem dX10_taken_52 : decode cX10_taken 52 = .ok (.iload_n 2, 1) := by decide +kernel
theorem dX10_taken_53 : decode cX10_taken 53 = .ok (.if_icmp .ne 14, 3) := by decide +kernel
theorem dX10_taken_56 : decode cX10_taken 56 = .ok (.aload_n 0, 1) := by decide +kernel
theorem dX10_taken_57 : decode cX10_taken 57 = .ok (.getfield 29, 3) := by decide +kernel
theorem dX10_taken_60 : decode cX10_taken 60 = .ok (.iconst 3, 1) := by decide +kernel
theorem dX10_taken_61 : decode cX10_taken 61 = .ok (.iload_n 1, 1) := by decide +kernel
theorem dX10_taken_62 : decode cX10_taken 62 = .ok (.imul, 1) := by decide +kernel
theorem dX10_taken_63 : decode cX10_taken 63 = .ok (.iaload, 1) := by decide +kernel
theorem dX10_taken_64 : decode cX10_taken 64 = .ok (.goto 5, 3) := by decide +kernel
theorem dX10_taken_67 : decode cX10_taken 67 = .ok (.bipush (-13), 2) := by decide +kernel
theorem dX10_taken_69 : decode cX10_taken 69 = .ok (.ireturn, 1) := by decide +kernel
