theorem dX12_in_0 : decode cX12_in 0 = .ok (.lload_n 0, 1) := by decide +kernel
theorem dX12_in_1 : decode cX12_in 1 = .ok (.lload_n 2, 1) := by decide +kernel
theorem dX12_in_2 : decode cX12_in 2 = .ok (.lcmp, 1) := by decide +kernel
theorem dX12_in_3 : decode cX12_in 3 = .ok (.ifCond .lt 14, 3) := by decide +kernel
theorem dX12_in_6 : decode cX12_in 6 = .ok (.lload_n 0, 1) := by decide +kernel
theorem dX12_in_7 : decode cX12_in 7 = .ok (.lload 4, 2) := by decide +kernel
theorem dX12_in_9 : decode cX12_in 9 = .ok (.lcmp, 1) := by decide +kernel
theorem dX12_in_10 : decode cX12_in 10 = .ok (.ifCond .gt 7, 3) := by decide +kernel
theorem dX12_in_13 : decode cX12_in 13 = .ok (.iconst 1, 1) := by decide +kernel
theorem dX12_in_14 : decode cX12_in 14 = .ok (.goto 4, 3) := by decide +kernel
theorem dX12_in_17 : decode cX12_in 17 = .ok (.iconst 0, 1) := by decide +kernel
theorem dX12_in_18 : decode cX12_in 18 = .ok (.ireturn, 1) := by decide +kernel
theorem dX12_init_0 : decode cX12_init 0 = .ok (.aload_n 0, 1) := by decide +kernel
theorem dX12_init_1 : decode cX12_init 1 = .ok (.invokespecial 7, 3) := by decide +kernel
theorem dX12_init_4 : decode cX12_init 4 = .ok (.aload_n 0, 1) := by decide +kernel
theorem dX12_init_5 : decode cX12_init 5 = .ok (.sipush 960, 3) := by decide +kernel
theorem dX12_init_8 : decode cX12_init 8 = .ok (.newarray .int, 2) := by decide +kernel
theorem dX12_init_10 : decode cX12_init 10 = .ok (.putfield 13, 3) := by decide +kernel
theorem dX12_init_13 : decode cX12_init 13 = .ok (.aload_n 0, 1) := by decide +kernel
theorem dX12_init_14 : decode cX12_init 14 = .ok (.bipush 6, 2) := by decide +kernel
theorem dX12_init_16 : decode cX12_init 16 = .ok (.newarray .int, 2) := by decide +kernel
theorem dX12_init_18 : decode cX12_init 18 = .ok (.putfield 17, 3) := by decide +kernel
theorem dX12_init_21 : decode cX12_init 21 = .ok (.aload_n 0, 1) := by decide +kernel
theorem dX12_init_22 : decode cX12_init 22 = .ok (.sipush 160, 3) := by decide +kernel
theorem dX12_init_25 : decode cX12_init 25 = .ok (.newarray .int, 2) := by decide +kernel
theorem dX12_init_27 : decode cX12_init 27 = .ok (.putfield 20, 3) := by decide +kernel
theorem dX12_init_30 : decode cX12_init 30 = .ok (.aload_n 0, 1) := by decide +kernel
theorem dX12_init_31 : decode cX12_init 31 = .ok (.bipush 10, 2) := by decide +kernel
theorem dX12_init_33 : decode cX12_init 33 = .ok (.newarray .int, 2) := by decide +kernel
theorem dX12_init_35 : decode cX12_init 35 = .ok (.putfield 23, 3) := by decide +kernel
theorem dX12_init_38 : decode cX12_init 38 = .ok (.aload_n 0, 1) := by decide +kernel
theorem dX12_init_39 : decode cX12_init 39 = .ok (.bipush 10, 2) := by decide +kernel
theorem dX12_init_41 : decode cX12_init 41 = .ok (.newarray .int, 2) := by decide +kernel
theorem dX12_init_43 : decode cX12_init 43 = .ok (.putfield 26, 3) := by decide +kernel
theorem dX12_init_46 : decode cX12_init 46 = .ok (.aload_n 0, 1) := by decide +kernel
theorem dX12_init_47 : decode cX12_init 47 = .ok (.bipush 10, 2) := by decide +kernel
theorem dX12_init_49 : decode cX12_init 49 = .ok (.newarray .int, 2) := by decide +kernel
theorem dX12_init_51 : decode cX12_init 51 = .ok (.putfield 29, 3) := by decide +kernel
theorem dX12_init_54 : decode cX12_init 54 = .ok (.aload_n 0, 1) := by decide +kernel
theorem dX12_init_55 : decode cX12_init 55 = .ok (.bipush 40, 2) := by decide +kernel
theorem dX12_init_57 : decode cX12_init 57 = .ok (.newarray .int, 2) := by decide +kernel
theorem dX12_init_59 : decode cX12_init 59 = .ok (.putfield 32, 3) := by decide +kernel
theorem dX12_init_62 : decode cX12_init 62 = .ok (.aload_n 0, 1) := by decide +kernel
theorem dX12_init_63 : decode cX12_init 63 = .ok (.iconst 4, 1) := by decide +kernel
theorem dX12_init_64 : decode cX12_init 64 = .ok (.newarray .int, 2) := by decide +kernel
theorem dX12_init_66 : decode cX12_init 66 = .ok (.putfield 35, 3) := by decide +kernel
theorem dX12_init_69 : decode cX12_init 69 = .ok (.aload_n 0, 1) := by decide +kernel
theorem dX12_init_70 : decode cX12_init 70 = .ok (.iconst 4, 1) := by decide +kernel
theorem dX12_init_71 : decode cX12_init 71 = .ok (.newarray .int, 2) := by decide +kernel
theorem dX12_init_73 : decode cX12_init 73 = .ok (.putfield 38, 3) := by decide +kernel
theorem dX12_init_76 : decode cX12_init 76 = .ok (.aload_n 0, 1) := by decide +kernel
theorem dX12_init_77 : decode cX12_init 77 = .ok (.iconst 4, 1) := by decide +kernel
theorem dX12_init_78 : decode cX12_init 78 = .ok (.newarray .int, 2) := by decide +kernel
theorem dX12_init_80 : decode cX12_init 80 = .ok (.putfield 41, 3) := by decide +kernel
theorem dX12_init_83 : decode cX12_init 83 = .ok (.aload_n 0, 1) := by decide +kernel
theorem dX12_init_84 : decode cX12_init 84 = .ok (.bipush 6, 2) := by decide +kernel
theorem dX12_init_86 : decode cX12_init 86 = .ok (.newarray .int, 2) := by decide +kernel
theorem dX12_init_88 : decode cX12_init 88 = .ok (.putfield 44, 3) := by decide +kernel
theorem dX12_init_91 : decode cX12_init 91 = .ok (.aload_n 0, 1) := by decide +kernel
theorem dX12_init_92 : decode cX12_init 92 = .ok (.bipush 6, 2) := by decide +kernel
theorem dX12_init_94 : decode cX12_init 94 = .ok (.newarray .int, 2) := by decide +kernel
theorem dX12_init_96 : decode cX12_init 96 = .ok (.putfield 47, 3) := by decide +kernel
theorem dX12_init_99 : decode cX12_init 99 = .ok (.aload_n 0, 1) := by decide +kernel
theorem dX12_init_100 : decode cX12_init 100 = .ok (.bipush 24, 2) := by decide +kernel
theorem dX12_init_102 : decode cX12_init 102 = .ok (.newarray .int, 2) := by decide +kernel
theorem dX12_init_104 : decode cX12_init 104 = .ok (.putfield 50, 3) := by decide +kernel
theorem dX12_init_107 : decode cX12_init 107 = .ok (.aload_n 0, 1) := by decide +kernel
theorem dX12_init_108 : decode cX12_init 108 = .ok (.bipush 24, 2) := by decide +kernel
theorem dX12_init_110 : decode cX12_init 110 = .ok (.newarray .int, 2) := by decide +kernel
theorem dX12_init_112 : decode cX12_init 112 = .ok (.putfield 53, 3) := by decide +kernel
theorem dX12_init_115 : decode cX12_init 115 = .ok (.aload_n 0, 1) := by decide +kernel
theorem dX12_init_116 : decode cX12_init 116 = .ok (.bipush 24, 2) := by decide +kernel
theorem dX12_init_118 : decode cX12_init 118 = .ok (.newarray .int, 2) := by decide +kernel
theorem dX12_init_120 : decode cX12_init 120 = .ok (.putfield 56, 3) := by decide +kernel
theorem dX12_init_123 : decode cX12_init 123 = .ok (.aload_n 0, 1) := by decide +kernel
theorem dX12_init_124 : decode cX12_init 124 = .ok (.bipush 24, 2) := by decide +kernel
theorem dX12_init_126 : decode cX12_init 126 = .ok (.newarray .int, 2) := by decide +kernel
theorem dX12_init_128 : decode cX12_init 128 = .ok (.putfield 59, 3) := by decide +kernel
theorem dX12_init_131 : decode cX12_init 131 = .ok (.aload_n 0, 1) := by decide +kernel
theorem dX12_init_132 : decode cX12_init 132 = .ok (.bipush 24, 2) := by decide +kernel
theorem dX12_init_134 : decode cX12_init 134 = .ok (.newarray .int, 2) := by decide +kernel
theorem dX12_init_136 : decode cX12_init 136 = .ok (.putfield 62, 3) := by decide +kernel
theorem dX12_init_139 : decode cX12_init 139 = .ok (.aload_n 0, 1) := by decide +kernel
theorem dX12_init_140 : decode cX12_init 140 = .ok (.bipush 24, 2) := by decide +kernel
theorem dX12_init_142 : decode cX12_init 142 = .ok (.newarray .int, 2) := by decide +kernel
theorem dX12_init_144 : decode cX12_init 144 = .ok (.putfield 65, 3) := by decide +kernel
theorem dX12_init_147 : decode cX12_init 147 = .ok (.aload_n 0, 1) := by decide +kernel
theorem dX12_init_148 : decode cX12_init 148 = .ok (.bipush 12, 2) := by decide +kernel
theorem dX12_init_150 : decode cX12_init 150 = .ok (.newarray .int, 2) := by decide +kernel
theorem dX12_init_152 : decode cX12_init 152 = .ok (.putfield 68, 3) := by decide +kernel
theorem dX12_init_155 : decode cX12_init 155 = .ok (.aload_n 0, 1) := by decide +kernel
theorem dX12_init_156 : decode cX12_init 156 = .ok (.bipush 12, 2) := by decide +kernel
theorem dX12_init_158 : decode cX12_init 158 = .ok (.newarray .int, 2) := by decide +kernel
theorem dX12_init_160 : decode cX12_init 160 = .ok (.putfield 71, 3) := by decide +kernel
theorem dX12_init_163 : decode cX12_init 163 = .ok (.aload_n 0, 1) := by decide +kernel
theorem dX12_init_164 : decode cX12_init 164 = .ok (.bipush 12, 2) := by decide +kernel
theorem dX12_init_166 : decode cX12_init 166 = .ok (.newarray .int, 2) := by decide +kernel
theorem dX12_init_168 : decode cX12_init 168 = .ok (.putfield 74, 3) := by decide +kernel
theorem dX12_init_171 : decode cX12_init 171 = .ok (.aload_n 0, 1) := by decide +kernel
theorem dX12_init_172 : decode cX12_init 172 = .ok (.bipush 12, 2) := by decide +kernel
theorem dX12_init_174 : decode cX12_init 174 = .ok (.newarray .int, 2) := by decide +kernel
theorem dX12_init_176 : decode cX12_init 176 = .ok (.putfield 77, 3) := by decide +kernel
theorem dX12_init_179 : decode cX12_init 179 = .ok (.aload_n 0, 1) := by decide +kernel
theorem dX12_init_180 : decode cX12_init 180 = .ok (.bipush 12, 2) := by decide +kernel
theorem dX12_init_182 : decode cX12_init 182 = .ok (.newarray .int, 2) := by decide +kernel
theorem dX12_init_184 : decode cX12_init 184 = .ok (.putfield 80, 3) := by decide +kernel
theorem dX12_init_187 : decode cX12_init 187 = .ok (.aload_n 0, 1) := by decide +kernel
theorem dX12_init_188 : decode cX12_init 188 = .ok (.iconst 4, 1) := by decide +kernel
theorem dX12_init_189 : decode cX12_init 189 = .ok (.newarray .int, 2) := by decide +kernel
theorem dX12_init_191 : decode cX12_init 191 = .ok (.putfield 83, 3) := by decide +kernel
theorem dX12_init_194 : decode cX12_init 194 = .ok (.aload_n 0, 1) := by decide +kernel
theorem dX12_init_195 : decode cX12_init 195 = .ok (.iconst 4, 1) := by decide +kernel
theorem dX12_init_196 : decode cX12_init 196 = .ok (.newarray .int, 2) := by decide +kernel
theorem dX12_init_198 : decode cX12_init 198 = .ok (.putfield 86, 3) := by decide +kernel
theorem dX12_init_201 : decode cX12_init 201 = .ok (.aload_n 0, 1) := by decide +kernel
theorem dX12_init_202 : decode cX12_init 202 = .ok (.iconst 4, 1) := by decide +kernel
theorem dX12_init_203 : decode cX12_init 203 = .ok (.newarray .int, 2) := by decide +kernel
theorem dX12_init_205 : decode cX12_init 205 = .ok (.putfield 89, 3) := by decide +kernel
theorem dX12_init_208 : decode cX12_init 208 = .ok (.aload_n 0, 1) := by decide +kernel
theorem dX12_init_209 : decode cX12_init 209 = .ok (.bipush 40, 2) := by decide +kernel
theorem dX12_init_211 : decode cX12_init 211 = .ok (.newarray .int, 2) := by decide +kernel
theorem dX12_init_213 : decode cX12_init 213 = .ok (.putfield 92, 3) := by decide +kernel
theorem dX12_init_216 : decode cX12_init 216 = .ok (.aload_n 0, 1) := by decide +kernel
theorem dX12_init_217 : decode cX12_init 217 = .ok (.bipush 40, 2) := by decide +kernel
theorem dX12_init_219 : decode cX12_init 219 = .ok (.newarray .int, 2) := by decide +kernel
theorem dX12_init_221 : decode cX12_init 221 = .ok (.putfield 95, 3) := by decide +kernel
theorem dX12_init_224 : decode cX12_init 224 = .ok (.aload_n 0, 1) := by decide +kernel
theorem dX12_init_225 : decode cX12_init 225 = .ok (.bipush 60, 2) := by decide +kernel
theorem dX12_init_227 : decode cX12_init 227 = .ok (.newarray .int, 2) := by decide +kernel
theorem dX12_init_229 : decode cX12_init 229 = .ok (.putfield 98, 3) := by decide +kernel
theorem dX12_init_232 : decode cX12_init 232 = .ok (.aload_n 0, 1) := by decide +kernel
theorem dX12_init_233 : decode cX12_init 233 = .ok (.iconst 4, 1) := by decide +kernel
theorem dX12_init_234 : decode cX12_init 234 = .ok (.newarray .boolean, 2) := by decide +kernel
theorem dX12_init_236 : decode cX12_init 236 = .ok (.putfield 101, 3) := by decide +kernel
theorem dX12_init_239 : decode cX12_init 239 = .ok (.aload_n 0, 1) := by decide +kernel
theorem dX12_init_240 : decode cX12_init 240 = .ok (.iconst 4, 1) := by decide +kernel
theorem dX12_init_241 : decode cX12_init 241 = .ok (.newarray .int, 2) := by decide +kernel
theorem dX12_init_243 : decode cX12_init 243 = .ok (.putfield 105, 3) := by decide +kernel
theorem dX12_init_246 : decode cX12_init 246 = .ok (.aload_n 0, 1) := by decide +kernel
theorem dX12_init_247 : decode cX12_init 247 = .ok (.iconst 4, 1) := by decide +kernel
theorem dX12_init_248 : decode cX12_init 248 = .ok (.newarray .int, 2) := by decide +kernel
theorem dX12_init_250 : decode cX12_init 250 = .ok (.putfield 108, 3) := by decide +kernel
theorem dX12_init_253 : decode cX12_init 253 = .ok (.aload_n 0, 1) := by decide +kernel
theorem dX12_init_254 : decode cX12_init 254 = .ok (.sipush 160, 3) := by decide +kernel
theorem dX12_init_257 : decode cX12_init 257 = .ok (.newarray .int, 2) := by decide +kernel
theorem dX12_init_259 : decode cX12_init 259 = .ok (.putfield 111, 3) := by decide +kernel
theorem dX12_init_262 : decode cX12_init 262 = .ok (.aload_n 0, 1) := by decide +kernel
theorem dX12_init_263 : decode cX12_init 263 = .ok (.iconst 0, 1) := by decide +kernel
theorem dX12_init_264 : decode cX12_init 264 = .ok (.ldc2_w 114, 3) := by decide +kernel
theorem dX12_init_267 : decode cX12_init 267 = .ok (.invokevirtual 116, 3) := by decide +kernel
theorem dX12_init_270 : decode cX12_init 270 = .ok (.aload_n 0, 1) := by decide +kernel
theorem dX12_init_271 : decode cX12_init 271 = .ok (.bipush 8, 2) := by decide +kernel
theorem dX12_init_273 : decode cX12_init 273 = .ok (.ldc2_w 120, 3) := by decide +kernel
theorem dX12_init_276 : decode cX12_init 276 = .ok (.invokevirtual 116, 3) := by decide +kernel
theorem dX12_init_279 : decode cX12_init 279 = .ok (.aload_n 0, 1) := by decide +kernel
theorem dX12_init_280 : decode cX12_init 280 = .ok (.bipush 16, 2) := by decide +kernel
theorem dX12_init_282 : decode cX12_init 282 = .ok (.ldc2_w 122, 3) := by decide +kernel
theorem dX12_init_285 : decode cX12_init 285 = .ok (.invokevirtual 116, 3) := by decide +kernel
theorem dX12_init_288 : decode cX12_init 288 = .ok (.aload_n 0, 1) := by decide +kernel
theorem dX12_init_289 : decode cX12_init 289 = .ok (.bipush 24, 2) := by decide +kernel
theorem dX12_init_291 : decode cX12_init 291 = .ok (.ldc2_w 124, 3) := by decide +kernel
theorem dX12_init_294 : decode cX12_init 294 = .ok (.invokevirtual 116, 3) := by decide +kernel
theorem dX12_init_297 : decode cX12_init 297 = .ok (.aload_n 0, 1) := by decide +kernel
theorem dX12_init_298 : decode cX12_init 298 = .ok (.bipush 32, 2) := by decide +kernel
theorem dX12_init_300 : decode cX12_init 300 = .ok (.ldc2_w 126, 3) := by decide +kernel
theorem dX12_init_303 : decode cX12_init 303 = .ok (.invokevirtual 116, 3) := by decide +kernel
theorem dX12_init_306 : decode cX12_init 306 = .ok (.aload_n 0, 1) := by decide +kernel
theorem dX12_init_307 : decode cX12_init 307 = .ok (.bipush 40, 2) := by decide +kernel
theorem dX12_init_309 : decode cX12_init 309 = .ok (.ldc2_w 128, 3) := by decide +kernel
theorem dX12_init_312 : decode cX12_init 312 = .ok (.invokevirtual 116, 3) := by decide +kernel
theorem dX12_init_315 : decode cX12_init 315 = .ok (.aload_n 0, 1) := by decide +kernel
theorem dX12_init_316 : decode cX12_init 316 = .ok (.getfield 17, 3) := by decide +kernel
theorem dX12_init_319 : decode cX12_init 319 = .ok (.iconst 0, 1) := by decide +kernel
theorem dX12_init_320 : decode cX12_init 320 = .ok (.bipush 48, 2) := by decide +kernel
theorem dX12_init_322 : decode cX12_init 322 = .ok (.iastore, 1) := by decide +kernel
theorem dX12_init_323 : decode cX12_init 323 = .ok (.aload_n 0, 1) := by decide +kernel
theorem dX12_init_324 : decode cX12_init 324 = .ok (.iconst 1, 1) := by decide +kernel
theorem dX12_init_325 : decode cX12_init 325 = .ok (.putfield 130, 3) := by decide +kernel
theorem dX12_init_328 : decode cX12_init 328 = .ok (.return_, 1) := by decide +kernel
theorem dX12_spell_0 : decode cX12_spell 0 = .ok (.iconst 0, 1) := by decide +kernel
theorem dX12_spell_1 : decode cX12_spell 1 = .ok (.istore 4, 2) := by decide +kernel
theorem dX12_spell_3 : decode cX12_spell 3 = .ok (.iload 4, 2) := by decide +kernel
theorem dX12_spell_5 : decode cX12_spell 5 = .ok (.bipush 8, 2) := by decide +kernel
theorem dX12_spell_7 : decode cX12_spell 7 = .ok (.if_icmp .ge 33, 3) := by decide +kernel
theorem dX12_spell_10 : decode cX12_spell 10 = .ok (.aload_n 0, 1) := by decide +kernel
theorem dX12_spell_11 : decode cX12_spell 11 = .ok (.getfield 13, 3) := by decide +kernel
theorem dX12_spell_14 : decode cX12_spell 14 = .ok (.iload_n 1, 1) := by decide +kernel
theorem dX12_spell_15 : decode cX12_spell 15 = .ok (.iload 4, 2) := by decide +kernel
theorem dX12_spell_17 : decode cX12_spell 17 = .ok (.iadd, 1) := by decide +kernel
theorem dX12_spell_18 : decode cX12_spell 18 = .ok (.lload_n 2, 1) := by decide +kernel
theorem dX12_spell_19 : decode cX12_spell 19 = .ok (.bipush 56, 2) := by decide +kernel
theorem dX12_spell_21 : decode cX12_spell 21 = .ok (.bipush 8, 2) := by decide +kernel
theorem dX12_spell_23 : decode cX12_spell 23 = .ok (.iload 4, 2) := by decide +kernel
theorem dX12_spell_25 : decode cX12_spell 25 = .ok (.imul, 1) := by decide +kernel
theorem dX12_spell_26 : decode cX12_spell 26 = .ok (.isub, 1) := by decide +kernel
theorem dX12_spell_27 : decode cX12_spell 27 = .ok (.lshr, 1) := by decide +kernel
theorem dX12_spell_28 : decode cX12_spell 28 = .ok (.ldc2_w 133, 3) := by decide +kernel
theorem dX12_spell_31 : decode cX12_spell 31 = .ok (.land, 1) := by decide +kernel
theorem dX12_spell_32 : decode cX12_spell 32 = .ok (.l2i, 1) := by decide +kernel
theorem dX12_spell_33 : decode cX12_spell 33 = .ok (.iastore, 1) := by decide +kernel
theorem dX12_spell_34 : decode cX12_spell 34 = .ok (.iinc 4 1, 3) := by decide +kernel
theorem dX12_spell_37 : decode cX12_spell 37 = .ok (.goto (-34), 3) := by decide +kernel
theorem dX12_spell_40 : decode cX12_spell 40 = .ok (.return_, 1) := by decide +kernel
theorem dX12_isMan_0 : decode cX12_isMan 0 = .ok (.iload_n 1, 1) := by decide +kernel
theorem dX12_isMan_1 : decode cX12_isMan 1 = .ok (.i2l, 1) := by decide +kernel
theorem dX12_isMan_2 : decode cX12_isMan 2 = .ok (.lconst 0, 1) := by decide +kernel
theorem dX12_isMan_3 : decode cX12_isMan 3 = .ok (.aload_n 0, 1) := by decide +kernel
theorem dX12_isMan_4 : decode cX12_isMan 4 = .ok (.getfield 135, 3) := by decide +kernel
theorem dX12_isMan_7 : decode cX12_isMan 7 = .ok (.iconst 1, 1) := by decide +kernel
theorem dX12_isMan_8 : decode cX12_isMan 8 = .ok (.isub, 1) := by decide +kernel
theorem dX12_isMan_9 : decode cX12_isMan 9 = .ok (.i2l, 1) := by decide +kernel
theorem dX12_isMan_10 : decode cX12_isMan 10 = .ok (.invokestatic 138, 3) := by decide +kernel
theorem dX12_isMan_13 : decode cX12_isMan 13 = .ok (.ireturn, 1) := by decide +kernel
theorem dX12_isTick_0 : decode cX12_isTick 0 = .ok (.iload_n 0, 1) := by decide +kernel
theorem dX12_isTick_1 : decode cX12_isTick 1 = .ok (.i2l, 1) := by decide +kernel
theorem dX12_isTick_2 : decode cX12_isTick 2 = .ok (.lconst 0, 1) := by decide +kernel
theorem dX12_isTick_3 : decode cX12_isTick 3 = .ok (.ldc2_w 142, 3) := by decide +kernel
theorem dX12_isTick_6 : decode cX12_isTick 6 = .ok (.invokestatic 138, 3) := by decide +kernel
theorem dX12_isTick_9 : decode cX12_isTick 9 = .ok (.ireturn, 1) := by decide +kernel
theorem dX12_isWidth_0 : decode cX12_isWidth 0 = .ok (.iload_n 0, 1) := by decide +kernel
theorem dX12_isWidth_1 : decode cX12_isWidth 1 = .ok (.i2l, 1) := by decide +kernel
theorem dX12_isWidth_2 : decode cX12_isWidth 2 = .ok (.lconst 0, 1) := by decide +kernel
theorem dX12_isWidth_3 : decode cX12_isWidth 3 = .ok (.ldc2_w 144, 3) := by decide +kernel
theorem dX12_isWidth_6 : decode cX12_isWidth 6 = .ok (.invokestatic 138, 3) := by decide +kernel
theorem dX12_isWidth_9 : decode cX12_isWidth 9 = .ok (.ireturn, 1) := by decide +kernel
theorem dX12_man_0 : decode cX12_man 0 = .ok (.iload_n 1, 1) := by decide +kernel
theorem dX12_man_1 : decode cX12_man 1 = .ok (.i2l, 1) := by decide +kernel
theorem dX12_man_2 : decode cX12_man 2 = .ok (.lconst 0, 1) := by decide +kernel
theorem dX12_man_3 : decode cX12_man 3 = .ok (.ldc2_w 146, 3) := by decide +kernel
theorem dX12_man_6 : decode cX12_man 6 = .ok (.invokestatic 138, 3) := by decide +kernel
theorem dX12_man_9 : decode cX12_man 9 = .ok (.ifCond .eq 29, 3) := by decide +kernel
theorem dX12_man_12 : decode cX12_man 12 = .ok (.iload_n 2, 1) := by decide +kernel
theorem dX12_man_13 : decode cX12_man 13 = .ok (.i2l, 1) := by decide +kernel
theorem dX12_man_14 : decode cX12_man 14 = .ok (.lconst 0, 1) := by decide +kernel
theorem dX12_man_15 : decode cX12_man 15 = .ok (.ldc2_w 148, 3) := by decide +kernel
theorem dX12_man_18 : decode cX12_man 18 = .ok (.invokestatic 138, 3) := by decide +kernel
theorem dX12_man_21 : decode cX12_man 21 = .ok (.ifCond .eq 17, 3) := by decide +kernel
theorem dX12_man_24 : decode cX12_man 24 = .ok (.iload_n 3, 1) := by decide +kernel
theorem dX12_man_25 : decode cX12_man 25 = .ok (.i2l, 1) := by decide +kernel
theorem dX12_man_26 : decode cX12_man 26 = .ok (.ldc2_w 150, 3) := by decide +kernel
theorem dX12_man_29 : decode cX12_man 29 = .ok (.ldc2_w 152, 3) := by decide +kernel
theorem dX12_man_32 : decode cX12_man 32 = .ok (.invokestatic 138, 3) := by decide +kernel
theorem dX12_man_35 : decode cX12_man 35 = .ok (.ifCond .ne 6, 3) := by decide +kernel
theorem dX12_man_38 : decode cX12_man 38 = .ok (.bipush (-2), 2) := by decide +kernel
theorem dX12_man_40 : decode cX12_man 40 = .ok (.ireturn, 1) := by decide +kernel
theorem dX12_man_41 : decode cX12_man 41 = .ok (.aload_n 0, 1) := by decide +kernel
theorem dX12_man_42 : decode cX12_man 42 = .ok (.getfield 135, 3) := by decide +kernel
theorem dX12_man_45 : decode cX12_man 45 = .ok (.bipush 10, 2) := by decide +kernel
theorem dX12_man_47 : decode cX12_man 47 = .ok (.if_icmp .ne 6, 3) := by decide +kernel
theorem dX12_man_50 : decode cX12_man 50 = .ok (.bipush (-4), 2) := by decide +kernel
theorem dX12_man_52 : decode cX12_man 52 = .ok (.ireturn, 1) := by decide +kernel
theorem dX12_man_53 : decode cX12_man 53 = .ok (.aload_n 0, 1) := by decide +kernel
theorem dX12_man_54 : decode cX12_man 54 = .ok (.getfield 23, 3) := by decide +kernel
theorem dX12_man_57 : decode cX12_man 57 = .ok (.aload_n 0, 1) := by decide +kernel
theorem dX12_man_58 : decode cX12_man 58 = .ok (.getfield 135, 3) := by decide +kernel
theorem dX12_man_61 : decode cX12_man 61 = .ok (.iload_n 1, 1) := by decide +kernel
theorem dX12_man_62 : decode cX12_man 62 = .ok (.iastore, 1) := by decide +kernel
theorem dX12_man_63 : decode cX12_man 63 = .ok (.aload_n 0, 1) := by decide +kernel
theorem dX12_man_64 : decode cX12_man 64 = .ok (.getfield 26, 3) := by decide +kernel
theorem dX12_man_67 : decode cX12_man 67 = .ok (.aload_n 0, 1) := by decide +kernel
theorem dX12_man_68 : decode cX12_man 68 = .ok (.getfield 135, 3) := by decide +kernel
theorem dX12_man_71 : decode cX12_man 71 = .ok (.iload_n 2, 1) := by decide +kernel
theorem dX12_man_72 : decode cX12_man 72 = .ok (.iastore, 1) := by decide +kernel
theorem dX12_man_73 : decode cX12_man 73 = .ok (.aload_n 0, 1) := by decide +kernel
theorem dX12_man_74 : decode cX12_man 74 = .ok (.getfield 29, 3) := by decide +kernel
theorem dX12_man_77 : decode cX12_man 77 = .ok (.aload_n 0, 1) := by decide +kernel
theorem dX12_man_78 : decode cX12_man 78 = .ok (.getfield 135, 3) := by decide +kernel
theorem dX12_man_81 : decode cX12_man 81 = .ok (.iload_n 3, 1) := by decide +kernel
theorem dX12_man_82 : decode cX12_man 82 = .ok (.iastore, 1) := by decide +kernel
theorem dX12_man_83 : decode cX12_man 83 = .ok (.iconst 0, 1) := by decide +kernel
theorem dX12_man_84 : decode cX12_man 84 = .ok (.istore 4, 2) := by decide +kernel
theorem dX12_man_86 : decode cX12_man 86 = .ok (.iload 4, 2) := by decide +kernel
theorem dX12_man_88 : decode cX12_man 88 = .ok (.iconst 4, 1) := by decide +kernel
theorem dX12_man_89 : decode cX12_man 89 = .ok (.if_icmp .ge 24, 3) := by decide +kernel
theorem dX12_man_92 : decode cX12_man 92 = .ok (.aload_n 0, 1) := by decide +kernel
theorem dX12_man_93 : decode cX12_man 93 = .ok (.getfield 32, 3) := by decide +kernel
theorem dX12_man_96 : decode cX12_man 96 = .ok (.iconst 4, 1) := by decide +kernel
theorem dX12_man_97 : decode cX12_man 97 = .ok (.aload_n 0, 1) := by decide +kernel
theorem dX12_man_98 : decode cX12_man 98 = .ok (.getfield 135, 3) := by decide +kernel
theorem dX12_man_101 : decode cX12_man 101 = .ok (.imul, 1) := by decide +kernel
theorem dX12_man_102 : decode cX12_man 102 = .ok (.iload 4, 2) := by decide +kernel
theorem dX12_man_104 : decode cX12_man 104 = .ok (.iadd, 1) := by decide +kernel
theorem dX12_man_105 : decode cX12_man 105 = .ok (.iconst 0, 1) := by decide +kernel
theorem dX12_man_106 : decode cX12_man 106 = .ok (.iastore, 1) := by decide +kernel
theorem dX12_man_107 : decode cX12_man 107 = .ok (.iinc 4 1, 3) := by decide +kernel
theorem dX12_man_110 : decode cX12_man 110 = .ok (.goto (-24), 3) := by decide +kernel
theorem dX12_man_113 : decode cX12_man 113 = .ok (.aload_n 0, 1) := by decide +kernel
theorem dX12_man_114 : decode cX12_man 114 = .ok (.dup, 1) := by decide +kernel
theorem dX12_man_115 : decode cX12_man 115 = .ok (.getfield 135, 3) := by decide +kernel
theorem dX12_man_118 : decode cX12_man 118 = .ok (.iconst 1, 1) := by decide +kernel
theorem dX12_man_119 : decode cX12_man 119 = .ok (.iadd, 1) := by decide +kernel
theorem dX12_man_120 : decode cX12_man 120 = .ok (.putfield 135, 3) := by decide +kernel
theorem dX12_man_123 : decode cX12_man 123 = .ok (.aload_n 0, 1) := by decide +kernel
theorem dX12_man_124 : decode cX12_man 124 = .ok (.getfield 135, 3) := by decide +kernel
theorem dX12_man_127 : decode cX12_man 127 = .ok (.iconst 1, 1) := by decide +kernel
theorem dX12_man_128 : decode cX12_man 128 = .ok (.isub, 1) := by decide +kernel
theorem dX12_man_129 : decode cX12_man 129 = .ok (.ireturn, 1) := by decide +kernel
theorem dX12_part_0 : decode cX12_part 0 = .ok (.aload_n 0, 1) := by decide +kernel
theorem dX12_part_1 : decode cX12_part 1 = .ok (.iload_n 1, 1) := by decide +kernel
theorem dX12_part_2 : decode cX12_part 2 = .ok (.invokevirtual 154, 3) := by decide +kernel
theorem dX12_part_5 : decode cX12_part 5 = .ok (.ifCond .eq 29, 3) := by decide +kernel
theorem dX12_part_8 : decode cX12_part 8 = .ok (.iload_n 2, 1) := by decide +kernel
theorem dX12_part_9 : decode cX12_part 9 = .ok (.i2l, 1) := by decide +kernel
theorem dX12_part_10 : decode cX12_part 10 = .ok (.lconst 0, 1) := by decide +kernel
theorem dX12_part_11 : decode cX12_part 11 = .ok (.ldc2_w 146, 3) := by decide +kernel
theorem dX12_part_14 : decode cX12_part 14 = .ok (.invokestatic 138, 3) := by decide +kernel
theorem dX12_part_17 : decode cX12_part 17 = .ok (.ifCond .eq 17, 3) := by decide +kernel
theorem dX12_part_20 : decode cX12_part 20 = .ok (.iload_n 3, 1) := by decide +kernel
theorem dX12_part_21 : decode cX12_part 21 = .ok (.i2l, 1) := by decide +kernel
theorem dX12_part_22 : decode cX12_part 22 = .ok (.ldc2_w 158, 3) := by decide +kernel
theorem dX12_part_25 : decode cX12_part 25 = .ok (.ldc2_w 160, 3) := by decide +kernel
theorem dX12_part_28 : decode cX12_part 28 = .ok (.invokestatic 138, 3) := by decide +kernel
theorem dX12_part_31 : decode cX12_part 31 = .ok (.ifCond .ne 7, 3) := by decide +kernel
theorem dX12_part_34 : decode cX12_part 34 = .ok (.sipush (-1000), 3) := by decide +kernel
theorem dX12_part_37 : decode cX12_part 37 = .ok (.ireturn, 1) := by decide +kernel
theorem dX12_part_38 : decode cX12_part 38 = .ok (.aload_n 0, 1) := by decide +kernel
theorem dX12_part_39 : decode cX12_part 39 = .ok (.getfield 32, 3) := by decide +kernel
theorem dX12_part_42 : decode cX12_part 42 = .ok (.iconst 4, 1) := by decide +kernel
theorem dX12_part_43 : decode cX12_part 43 = .ok (.iload_n 1, 1) := by decide +kernel
theorem dX12_part_44 : decode cX12_part 44 = .ok (.imul, 1) := by decide +kernel
theorem dX12_part_45 : decode cX12_part 45 = .ok (.iload_n 2, 1) := by decide +kernel
theorem dX12_part_46 : decode cX12_part 46 = .ok (.iadd, 1) := by decide +kernel
theorem dX12_part_47 : decode cX12_part 47 = .ok (.iaload, 1) := by decide +kernel
theorem dX12_part_48 : decode cX12_part 48 = .ok (.istore 4, 2) := by decide +kernel
theorem dX12_part_50 : decode cX12_part 50 = .ok (.aload_n 0, 1) := by decide +kernel
theorem dX12_part_51 : decode cX12_part 51 = .ok (.getfield 32, 3) := by decide +kernel
theorem dX12_part_54 : decode cX12_part 54 = .ok (.iconst 4, 1) := by decide +kernel
theorem dX12_part_55 : decode cX12_part 55 = .ok (.iload_n 1, 1) := by decide +kernel
theorem dX12_part_56 : decode cX12_part 56 = .ok (.imul, 1) := by decide +kernel
theorem dX12_part_57 : decode cX12_part 57 = .ok (.iload_n 2, 1) := by decide +kernel
theorem dX12_part_58 : decode cX12_part 58 = .ok (.iadd, 1) := by decide +kernel
theorem dX12_part_59 : decode cX12_part 59 = .ok (.iload_n 3, 1) := by decide +kernel
theorem dX12_part_60 : decode cX12_part 60 = .ok (.iastore, 1) := by decide +kernel
theorem dX12_part_61 : decode cX12_part 61 = .ok (.iload 4, 2) := by decide +kernel
theorem dX12_part_63 : decode cX12_part 63 = .ok (.ireturn, 1) := by decide +kernel
theorem dX12_move_0 : decode cX12_move 0 = .ok (.aload_n 0, 1) := by decide +kernel
theorem dX12_move_1 : decode cX12_move 1 = .ok (.iload_n 1, 1) := by decide +kernel
theorem dX12_move_2 : decode cX12_move 2 = .ok (.invokevirtual 154, 3) := by decide +kernel
theorem dX12_move_5 : decode cX12_move 5 = .ok (.ifCond .eq 45, 3) := by decide +kernel
theorem dX12_move_8 : decode cX12_move 8 = .ok (.iload_n 2, 1) := by decide +kernel
theorem dX12_move_9 : decode cX12_move 9 = .ok (.i2l, 1) := by decide +kernel
theorem dX12_move_10 : decode cX12_move 10 = .ok (.lconst 0, 1) := by decide +kernel
theorem dX12_move_11 : decode cX12_move 11 = .ok (.lconst 1, 1) := by decide +kernel
theorem dX12_move_12 : decode cX12_move 12 = .ok (.invokestatic 138, 3) := by decide +kernel
theorem dX12_move_15 : decode cX12_move 15 = .ok (.ifCond .eq 35, 3) := by decide +kernel
theorem dX12_move_18 : decode cX12_move 18 = .ok (.iload_n 3, 1) := by decide +kernel
theorem dX12_move_19 : decode cX12_move 19 = .ok (.i2l, 1) := by decide +kernel
theorem dX12_move_20 : decode cX12_move 20 = .ok (.iload_n 2, 1) := by decide +kernel
theorem dX12_move_21 : decode cX12_move 21 = .ok (.ifCond .ne 7, 3) := by decide +kernel
theorem dX12_move_24 : decode cX12_move 24 = .ok (.lconst 0, 1) := by decide +kernel
theorem dX12_move_25 : decode cX12_move 25 = .ok (.goto 6, 3) := by decide +kernel
theorem dX12_move_28 : decode cX12_move 28 = .ok (.ldc2_w 150, 3) := by decide +kernel
theorem dX12_move_31 : decode cX12_move 31 = .ok (.iload_n 2, 1) := by decide +kernel
theorem dX12_move_32 : decode cX12_move 32 = .ok (.ifCond .ne 9, 3) := by decide +kernel
theorem dX12_move_35 : decode cX12_move 35 = .ok (.ldc2_w 148, 3) := by decide +kernel
theorem dX12_move_38 : decode cX12_move 38 = .ok (.goto 6, 3) := by decide +kernel
theorem dX12_move_41 : decode cX12_move 41 = .ok (.ldc2_w 152, 3) := by decide +kernel
theorem dX12_move_44 : decode cX12_move 44 = .ok (.invokestatic 138, 3) := by decide +kernel
theorem dX12_move_47 : decode cX12_move 47 = .ok (.ifCond .ne 7, 3) := by decide +kernel
theorem dX12_move_50 : decode cX12_move 50 = .ok (.sipush (-1000), 3) := by decide +kernel
theorem dX12_move_53 : decode cX12_move 53 = .ok (.ireturn, 1) := by decide +kernel
theorem dX12_move_54 : decode cX12_move 54 = .ok (.iload_n 2, 1) := by decide +kernel
theorem dX12_move_55 : decode cX12_move 55 = .ok (.ifCond .ne 12, 3) := by decide +kernel
theorem dX12_move_58 : decode cX12_move 58 = .ok (.aload_n 0, 1) := by decide +kernel
theorem dX12_move_59 : decode cX12_move 59 = .ok (.getfield 26, 3) := by decide +kernel
theorem dX12_move_62 : decode cX12_move 62 = .ok (.iload_n 1, 1) := by decide +kernel
theorem dX12_move_63 : decode cX12_move 63 = .ok (.iaload, 1) := by decide +kernel
theorem dX12_move_64 : decode cX12_move 64 = .ok (.goto 9, 3) := by decide +kernel
theorem dX12_move_67 : decode cX12_move 67 = .ok (.aload_n 0, 1) := by decide +kernel
theorem dX12_move_68 : decode cX12_move 68 = .ok (.getfield 29, 3) := by decide +kernel
theorem dX12_move_71 : decode cX12_move 71 = .ok (.iload_n 1, 1) := by decide +kernel
theorem dX12_move_72 : decode cX12_move 72 = .ok (.iaload, 1) := by decide +kernel
theorem dX12_move_73 : decode cX12_move 73 = .ok (.istore 4, 2) := by decide +kernel
theorem dX12_move_75 : decode cX12_move 75 = .ok (.iload_n 2, 1) := by decide +kernel
theorem dX12_move_76 : decode cX12_move 76 = .ok (.ifCond .ne 13, 3) := by decide +kernel
theorem dX12_move_79 : decode cX12_move 79 = .ok (.aload_n 0, 1) := by decide +kernel
theorem dX12_move_80 : decode cX12_move 80 = .ok (.getfield 26, 3) := by decide +kernel
theorem dX12_move_83 : decode cX12_move 83 = .ok (.iload_n 1, 1) := by decide +kernel
theorem dX12_move_84 : decode cX12_move 84 = .ok (.iload_n 3, 1) := by decide +kernel
theorem dX12_move_85 : decode cX12_move 85 = .ok (.iastore, 1) := by decide +kernel
theorem dX12_move_86 : decode cX12_move 86 = .ok (.goto 10, 3) := by decide +kernel
theorem dX12_move_89 : decode cX12_move 89 = .ok (.aload_n 0, 1) := by decide +kernel
theorem dX12_move_90 : decode cX12_move 90 = .ok (.getfield 29, 3) := by decide +kernel
theorem dX12_move_93 : decode cX12_move 93 = .ok (.iload_n 1, 1) := by decide +kernel
theorem dX12_move_94 : decode cX12_move 94 = .ok (.iload_n 3, 1) := by decide +kernel
theorem dX12_move_95 : decode cX12_move 95 = .ok (.iastore, 1) := by decide +kernel
theorem dX12_move_96 : decode cX12_move 96 = .ok (.iload 4, 2) := by decide +kernel
theorem dX12_move_98 : decode cX12_move 98 = .ok (.ireturn, 1) := by decide +kernel
theorem dX12_feed_0 : decode cX12_feed 0 = .ok (.iload_n 1, 1) := by decide +kernel
theorem dX12_feed_1 : decode cX12_feed 1 = .ok (.i2l, 1) := by decide +kernel
theorem dX12_feed_2 : decode cX12_feed 2 = .ok (.lconst 1, 1) := by decide +kernel
theorem dX12_feed_3 : decode cX12_feed 3 = .ok (.ldc2_w 162, 3) := by decide +kernel
theorem dX12_feed_6 : decode cX12_feed 6 = .ok (.invokestatic 138, 3) := by decide +kernel
theorem dX12_feed_9 : decode cX12_feed 9 = .ok (.ifCond .ne 6, 3) := by decide +kernel
theorem dX12_feed_12 : decode cX12_feed 12 = .ok (.bipush (-2), 2) := by decide +kernel
theorem dX12_feed_14 : decode cX12_feed 14 = .ok (.ireturn, 1) := by decide +kernel
theorem dX12_feed_15 : decode cX12_feed 15 = .ok (.aload_n 0, 1) := by decide +kernel
theorem dX12_feed_16 : decode cX12_feed 16 = .ok (.getfield 164, 3) := by decide +kernel
theorem dX12_feed_19 : decode cX12_feed 19 = .ok (.iload_n 1, 1) := by decide +kernel
theorem dX12_feed_20 : decode cX12_feed 20 = .ok (.iadd, 1) := by decide +kernel
theorem dX12_feed_21 : decode cX12_feed 21 = .ok (.sipush 160, 3) := by decide +kernel
theorem dX12_feed_24 : decode cX12_feed 24 = .ok (.if_icmp .le 6, 3) := by decide +kernel
theorem dX12_feed_27 : decode cX12_feed 27 = .ok (.bipush (-4), 2) := by decide +kernel
theorem dX12_feed_29 : decode cX12_feed 29 = .ok (.ireturn, 1) := by decide +kernel
theorem dX12_feed_30 : decode cX12_feed 30 = .ok (.iconst 0, 1) := by decide +kernel
theorem dX12_feed_31 : decode cX12_feed 31 = .ok (.istore 4, 2) := by decide +kernel
theorem dX12_feed_33 : decode cX12_feed 33 = .ok (.iload 4, 2) := by decide +kernel
theorem dX12_feed_35 : decode cX12_feed 35 = .ok (.iload_n 1, 1) := by decide +kernel
theorem dX12_feed_36 : decode cX12_feed 36 = .ok (.if_icmp .ge 40, 3) := by decide +kernel
theorem dX12_feed_39 : decode cX12_feed 39 = .ok (.aload_n 0, 1) := by decide +kernel
theorem dX12_feed_40 : decode cX12_feed 40 = .ok (.getfield 20, 3) := by decide +kernel
theorem dX12_feed_43 : decode cX12_feed 43 = .ok (.aload_n 0, 1) := by decide +kernel
theorem dX12_feed_44 : decode cX12_feed 44 = .ok (.getfield 164, 3) := by decide +kernel
theorem dX12_feed_47 : decode cX12_feed 47 = .ok (.lload_n 2, 1) := by decide +kernel
theorem dX12_feed_48 : decode cX12_feed 48 = .ok (.bipush 8, 2) := by decide +kernel
theorem dX12_feed_50 : decode cX12_feed 50 = .ok (.iload 4, 2) := by decide +kernel
theorem dX12_feed_52 : decode cX12_feed 52 = .ok (.imul, 1) := by decide +kernel
theorem dX12_feed_53 : decode cX12_feed 53 = .ok (.lshr, 1) := by decide +kernel
theorem dX12_feed_54 : decode cX12_feed 54 = .ok (.ldc2_w 133, 3) := by decide +kernel
theorem dX12_feed_57 : decode cX12_feed 57 = .ok (.land, 1) := by decide +kernel
theorem dX12_feed_58 : decode cX12_feed 58 = .ok (.l2i, 1) := by decide +kernel
theorem dX12_feed_59 : decode cX12_feed 59 = .ok (.iastore, 1) := by decide +kernel
theorem dX12_feed_60 : decode cX12_feed 60 = .ok (.aload_n 0, 1) := by decide +kernel
theorem dX12_feed_61 : decode cX12_feed 61 = .ok (.dup, 1) := by decide +kernel
theorem dX12_feed_62 : decode cX12_feed 62 = .ok (.getfield 164, 3) := by decide +kernel
theorem dX12_feed_65 : decode cX12_feed 65 = .ok (.iconst 1, 1) := by decide +kernel
theorem dX12_feed_66 : decode cX12_feed 66 = .ok (.iadd, 1) := by decide +kernel
theorem dX12_feed_67 : decode cX12_feed 67 = .ok (.putfield 164, 3) := by decide +kernel
theorem dX12_feed_70 : decode cX12_feed 70 = .ok (.iinc 4 1, 3) := by decide +kernel
theorem dX12_feed_73 : decode cX12_feed 73 = .ok (.goto (-40), 3) := by decide +kernel
theorem dX12_feed_76 : decode cX12_feed 76 = .ok (.aload_n 0, 1) := by decide +kernel
theorem dX12_feed_77 : decode cX12_feed 77 = .ok (.getfield 164, 3) := by decide +kernel
theorem dX12_feed_80 : decode cX12_feed 80 = .ok (.ireturn, 1) := by decide +kernel
theorem dX12_byteAt_0 : decode cX12_byteAt 0 = .ok (.iload_n 1, 1) := by decide +kernel
theorem dX12_byteAt_1 : decode cX12_byteAt 1 = .ok (.aload_n 0, 1) := by decide +kernel
theorem dX12_byteAt_2 : decode cX12_byteAt 2 = .ok (.getfield 167, 3) := by decide +kernel
theorem dX12_byteAt_5 : decode cX12_byteAt 5 = .ok (.if_icmp .ge 17, 3) := by decide +kernel
theorem dX12_byteAt_8 : decode cX12_byteAt 8 = .ok (.aload_n 0, 1) := by decide +kernel
theorem dX12_byteAt_9 : decode cX12_byteAt 9 = .ok (.getfield 13, 3) := by decide +kernel
theorem dX12_byteAt_12 : decode cX12_byteAt 12 = .ok (.aload_n 0, 1) := by decide +kernel
theorem dX12_byteAt_13 : decode cX12_byteAt 13 = .ok (.getfield 170, 3) := by decide +kernel
theorem dX12_byteAt_16 : decode cX12_byteAt 16 = .ok (.iload_n 1, 1) := by decide +kernel
theorem dX12_byteAt_17 : decode cX12_byteAt 17 = .ok (.iadd, 1) := by decide +kernel
theorem dX12_byteAt_18 : decode cX12_byteAt 18 = .ok (.iaload, 1) := by decide +kernel
theorem dX12_byteAt_19 : decode cX12_byteAt 19 = .ok (.goto 4, 3) := by decide +kernel
theorem dX12_byteAt_22 : decode cX12_byteAt 22 = .ok (.iconst (-1), 1) := by decide +kernel
theorem dX12_byteAt_23 : decode cX12_byteAt 23 = .ok (.ireturn, 1) := by decide +kernel
theorem dX12_next_0 : decode cX12_next 0 = .ok (.aload_n 0, 1) := by decide +kernel
theorem dX12_next_1 : decode cX12_next 1 = .ok (.aload_n 0, 1) := by decide +kernel
theorem dX12_next_2 : decode cX12_next 2 = .ok (.getfield 173, 3) := by decide +kernel
theorem dX12_next_5 : decode cX12_next 5 = .ok (.invokevirtual 176, 3) := by decide +kernel
theorem dX12_next_8 : decode cX12_next 8 = .ok (.bipush 32, 2) := by decide +kernel
theorem dX12_next_10 : decode cX12_next 10 = .ok (.if_icmp .eq 16, 3) := by decide +kernel
theorem dX12_next_13 : decode cX12_next 13 = .ok (.aload_n 0, 1) := by decide +kernel
theorem dX12_next_14 : decode cX12_next 14 = .ok (.aload_n 0, 1) := by decide +kernel
theorem dX12_next_15 : decode cX12_next 15 = .ok (.getfield 173, 3) := by decide +kernel
theorem dX12_next_18 : decode cX12_next 18 = .ok (.invokevirtual 176, 3) := by decide +kernel
theorem dX12_next_21 : decode cX12_next 21 = .ok (.bipush 10, 2) := by decide +kernel
theorem dX12_next_23 : decode cX12_next 23 = .ok (.if_icmp .ne 16, 3) := by decide +kernel
theorem dX12_next_26 : decode cX12_next 26 = .ok (.aload_n 0, 1) := by decide +kernel
theorem dX12_next_27 : decode cX12_next 27 = .ok (.dup, 1) := by decide +kernel
theorem dX12_next_28 : decode cX12_next 28 = .ok (.getfield 173, 3) := by decide +kernel
theorem dX12_next_31 : decode cX12_next 31 = .ok (.iconst 1, 1) := by decide +kernel
theorem dX12_next_32 : decode cX12_next 32 = .ok (.iadd, 1) := by decide +kernel
theorem dX12_next_33 : decode cX12_next 33 = .ok (.putfield 173, 3) := by decide +kernel
theorem dX12_next_36 : decode cX12_next 36 = .ok (.goto (-36), 3) := by decide +kernel
theorem dX12_next_39 : decode cX12_next 39 = .ok (.aload_n 0, 1) := by decide +kernel
theorem dX12_next_40 : decode cX12_next 40 = .ok (.aload_n 0, 1) := by decide +kernel
theorem dX12_next_41 : decode cX12_next 41 = .ok (.getfield 173, 3) := by decide +kernel
theorem dX12_next_44 : decode cX12_next 44 = .ok (.putfield 180, 3) := by decide +kernel
theorem dX12_next_47 : decode cX12_next 47 = .ok (.aload_n 0, 1) := by decide +kernel
theorem dX12_next_48 : decode cX12_next 48 = .ok (.aload_n 0, 1) := by decide +kernel
theorem dX12_next_49 : decode cX12_next 49 = .ok (.getfield 173, 3) := by decide +kernel
theorem dX12_next_52 : decode cX12_next 52 = .ok (.invokevirtual 176, 3) := by decide +kernel
theorem dX12_next_55 : decode cX12_next 55 = .ok (.istore_n 1, 1) := by decide +kernel
theorem dX12_next_56 : decode cX12_next 56 = .ok (.aload_n 0, 1) := by decide +kernel
theorem dX12_next_57 : decode cX12_next 57 = .ok (.iconst 4, 1) := by decide +kernel
theorem dX12_next_58 : decode cX12_next 58 = .ok (.putfield 183, 3) := by decide +kernel
theorem dX12_next_61 : decode cX12_next 61 = .ok (.iload_n 1, 1) := by decide +kernel
theorem dX12_next_62 : decode cX12_next 62 = .ok (.ifCond .ge 19, 3) := by decide +kernel
theorem dX12_next_65 : decode cX12_next 65 = .ok (.aload_n 0, 1) := by decide +kernel
theorem dX12_next_66 : decode cX12_next 66 = .ok (.iconst 0, 1) := by decide +kernel
theorem dX12_next_67 : decode cX12_next 67 = .ok (.putfield 183, 3) := by decide +kernel
theorem dX12_next_70 : decode cX12_next 70 = .ok (.aload_n 0, 1) := by decide +kernel
theorem dX12_next_71 : decode cX12_next 71 = .ok (.aload_n 0, 1) := by decide +kernel
theorem dX12_next_72 : decode cX12_next 72 = .ok (.getfield 167, 3) := by decide +kernel
theorem dX12_next_75 : decode cX12_next 75 = .ok (.putfield 180, 3) := by decide +kernel
theorem dX12_next_78 : decode cX12_next 78 = .ok (.goto 294, 3) := by decide +kernel
theorem dX12_next_81 : decode cX12_next 81 = .ok (.iload_n 1, 1) := by decide +kernel
theorem dX12_next_82 : decode cX12_next 82 = .ok (.i2l, 1) := by decide +kernel
theorem dX12_next_83 : decode cX12_next 83 = .ok (.ldc2_w 186, 3) := by decide +kernel
theorem dX12_next_86 : decode cX12_next 86 = .ok (.ldc2_w 188, 3) := by decide +kernel
theorem dX12_next_89 : decode cX12_next 89 = .ok (.invokestatic 138, 3) := by decide +kernel
theorem dX12_next_92 : decode cX12_next 92 = .ok (.ifCond .eq 93, 3) := by decide +kernel
theorem dX12_next_95 : decode cX12_next 95 = .ok (.aload_n 0, 1) := by decide +kernel
theorem dX12_next_96 : decode cX12_next 96 = .ok (.iconst 1, 1) := by decide +kernel
theorem dX12_next_97 : decode cX12_next 97 = .ok (.putfield 183, 3) := by decide +kernel
theorem dX12_next_100 : decode cX12_next 100 = .ok (.aload_n 0, 1) := by decide +kernel
theorem dX12_next_101 : decode cX12_next 101 = .ok (.lconst 0, 1) := by decide +kernel
theorem dX12_next_102 : decode cX12_next 102 = .ok (.putfield 190, 3) := by decide +kernel
theorem dX12_next_105 : decode cX12_next 105 = .ok (.iconst 0, 1) := by decide +kernel
theorem dX12_next_106 : decode cX12_next 106 = .ok (.istore_n 2, 1) := by decide +kernel
theorem dX12_next_107 : decode cX12_next 107 = .ok (.aload_n 0, 1) := by decide +kernel
theorem dX12_next_108 : decode cX12_next 108 = .ok (.aload_n 0, 1) := by decide +kernel
theorem dX12_next_109 : decode cX12_next 109 = .ok (.getfield 173, 3) := by decide +kernel
theorem dX12_next_112 : decode cX12_next 112 = .ok (.invokevirtual 176, 3) := by decide +kernel
theorem dX12_next_115 : decode cX12_next 115 = .ok (.i2l, 1) := by decide +kernel
theorem dX12_next_116 : decode cX12_next 116 = .ok (.ldc2_w 186, 3) := by decide +kernel
theorem dX12_next_119 : decode cX12_next 119 = .ok (.ldc2_w 188, 3) := by decide +kernel
theorem dX12_next_122 : decode cX12_next 122 = .ok (.invokestatic 138, 3) := by decide +kernel
theorem dX12_next_125 : decode cX12_next 125 = .ok (.ifCond .eq 57, 3) := by decide +kernel
theorem dX12_next_128 : decode cX12_next 128 = .ok (.aload_n 0, 1) := by decide +kernel
theorem dX12_next_129 : decode cX12_next 129 = .ok (.iload_n 2, 1) := by decide +kernel
theorem dX12_next_130 : decode cX12_next 130 = .ok (.bipush 8, 2) := by decide +kernel
theorem dX12_next_132 : decode cX12_next 132 = .ok (.if_icmp .ge 28, 3) := by decide +kernel
theorem dX12_next_135 : decode cX12_next 135 = .ok (.ldc2_w 194, 3) := by decide +kernel
theorem dX12_next_138 : decode cX12_next 138 = .ok (.aload_n 0, 1) := by decide +kernel
theorem dX12_next_139 : decode cX12_next 139 = .ok (.getfield 190, 3) := by decide +kernel
theorem dX12_next_142 : decode cX12_next 142 = .ok (.lmul, 1) := by decide +kernel
theorem dX12_next_143 : decode cX12_next 143 = .ok (.aload_n 0, 1) := by decide +kernel
theorem dX12_next_144 : decode cX12_next 144 = .ok (.aload_n 0, 1) := by decide +kernel
theorem dX12_next_145 : decode cX12_next 145 = .ok (.getfield 173, 3) := by decide +kernel
theorem dX12_next_148 : decode cX12_next 148 = .ok (.invokevirtual 176, 3) := by decide +kernel
theorem dX12_next_151 : decode cX12_next 151 = .ok (.i2l, 1) := by decide +kernel
theorem dX12_next_152 : decode cX12_next 152 = .ok (.ladd, 1) := by decide +kernel
theorem dX12_next_153 : decode cX12_next 153 = .ok (.ldc2_w 196, 3) := by decide +kernel
theorem dX12_next_156 : decode cX12_next 156 = .ok (.lsub, 1) := by decide +kernel
theorem dX12_next_157 : decode cX12_next 157 = .ok (.goto 6, 3) := by decide +kernel
theorem dX12_next_160 : decode cX12_next 160 = .ok (.ldc2_w 198, 3) := by decide +kernel
theorem dX12_next_163 : decode cX12_next 163 = .ok (.putfield 190, 3) := by decide +kernel
theorem dX12_next_166 : decode cX12_next 166 = .ok (.iinc 2 1, 3) := by decide +kernel
theorem dX12_next_169 : decode cX12_next 169 = .ok (.aload_n 0, 1) := by decide +kernel
theorem dX12_next_170 : decode cX12_next 170 = .ok (.dup, 1) := by decide +kernel
theorem dX12_next_171 : decode cX12_next 171 = .ok (.getfield 173, 3) := by decide +kernel
theorem dX12_next_174 : decode cX12_next 174 = .ok (.iconst 1, 1) := by decide +kernel
theorem dX12_next_175 : decode cX12_next 175 = .ok (.iadd, 1) := by decide +kernel
theorem dX12_next_176 : decode cX12_next 176 = .ok (.putfield 173, 3) := by decide +kernel
theorem dX12_next_179 : decode cX12_next 179 = .ok (.goto (-72), 3) := by decide +kernel
theorem dX12_next_182 : decode cX12_next 182 = .ok (.goto 190, 3) := by decide +kernel
theorem dX12_next_185 : decode cX12_next 185 = .ok (.iload_n 1, 1) := by decide +kernel
theorem dX12_next_186 : decode cX12_next 186 = .ok (.i2l, 1) := by decide +kernel
theorem dX12_next_187 : decode cX12_next 187 = .ok (.ldc2_w 200, 3) := by decide +kernel
theorem dX12_next_190 : decode cX12_next 190 = .ok (.ldc2_w 202, 3) := by decide +kernel
theorem dX12_next_193 : decode cX12_next 193 = .ok (.invokestatic 138, 3) := by decide +kernel
theorem dX12_next_196 : decode cX12_next 196 = .ok (.ifCond .eq 107, 3) := by decide +kernel
theorem dX12_next_199 : decode cX12_next 199 = .ok (.aload_n 0, 1) := by decide +kernel
theorem dX12_next_200 : decode cX12_next 200 = .ok (.iconst 2, 1) := by decide +kernel
theorem dX12_next_201 : decode cX12_next 201 = .ok (.putfield 183, 3) := by decide +kernel
theorem dX12_next_204 : decode cX12_next 204 = .ok (.aload_n 0, 1) := by decide +kernel
theorem dX12_next_205 : decode cX12_next 205 = .ok (.lconst 0, 1) := by decide +kernel
theorem dX12_next_206 : decode cX12_next 206 = .ok (.putfield 190, 3) := by decide +kernel
theorem dX12_next_209 : decode cX12_next 209 = .ok (.iconst 0, 1) := by decide +kernel
theorem dX12_next_210 : decode cX12_next 210 = .ok (.istore_n 2, 1) := by decide +kernel
theorem dX12_next_211 : decode cX12_next 211 = .ok (.aload_n 0, 1) := by decide +kernel
theorem dX12_next_212 : decode cX12_next 212 = .ok (.aload_n 0, 1) := by decide +kernel
theorem dX12_next_213 : decode cX12_next 213 = .ok (.getfield 173, 3) := by decide +kernel
theorem dX12_next_216 : decode cX12_next 216 = .ok (.invokevirtual 176, 3) := by decide +kernel
theorem dX12_next_219 : decode cX12_next 219 = .ok (.i2l, 1) := by decide +kernel
theorem dX12_next_220 : decode cX12_next 220 = .ok (.ldc2_w 200, 3) := by decide +kernel
theorem dX12_next_223 : decode cX12_next 223 = .ok (.ldc2_w 202, 3) := by decide +kernel
theorem dX12_next_226 : decode cX12_next 226 = .ok (.invokestatic 138, 3) := by decide +kernel
theorem dX12_next_229 : decode cX12_next 229 = .ok (.ifCond .eq 57, 3) := by decide +kernel
theorem dX12_next_232 : decode cX12_next 232 = .ok (.aload_n 0, 1) := by decide +kernel
theorem dX12_next_233 : decode cX12_next 233 = .ok (.iload_n 2, 1) := by decide +kernel
theorem dX12_next_234 : decode cX12_next 234 = .ok (.iconst 4, 1) := by decide +kernel
theorem dX12_next_235 : decode cX12_next 235 = .ok (.if_icmp .ge 28, 3) := by decide +kernel
theorem dX12_next_238 : decode cX12_next 238 = .ok (.ldc2_w 204, 3) := by decide +kernel
theorem dX12_next_241 : decode cX12_next 241 = .ok (.aload_n 0, 1) := by decide +kernel
theorem dX12_next_242 : decode cX12_next 242 = .ok (.getfield 190, 3) := by decide +kernel
theorem dX12_next_245 : decode cX12_next 245 = .ok (.lmul, 1) := by decide +kernel
theorem dX12_next_246 : decode cX12_next 246 = .ok (.aload_n 0, 1) := by decide +kernel
theorem dX12_next_247 : decode cX12_next 247 = .ok (.aload_n 0, 1) := by decide +kernel
theorem dX12_next_248 : decode cX12_next 248 = .ok (.getfield 173, 3) := by decide +kernel
theorem dX12_next_251 : decode cX12_next 251 = .ok (.invokevirtual 176, 3) := by decide +kernel
theorem dX12_next_254 : decode cX12_next 254 = .ok (.i2l, 1) := by decide +kernel
theorem dX12_next_255 : decode cX12_next 255 = .ok (.ladd, 1) := by decide +kernel
theorem dX12_next_256 : decode cX12_next 256 = .ok (.ldc2_w 200, 3) := by decide +kernel
theorem dX12_next_259 : decode cX12_next 259 = .ok (.lsub, 1) := by decide +kernel
theorem dX12_next_260 : decode cX12_next 260 = .ok (.goto 7, 3) := by decide +kernel
theorem dX12_next_263 : decode cX12_next 263 = .ok (.aload_n 0, 1) := by decide +kernel
theorem dX12_next_264 : decode cX12_next 264 = .ok (.getfield 190, 3) := by decide +kernel
theorem dX12_next_267 : decode cX12_next 267 = .ok (.putfield 190, 3) := by decide +kernel
theorem dX12_next_270 : decode cX12_next 270 = .ok (.iinc 2 1, 3) := by decide +kernel
theorem dX12_next_273 : decode cX12_next 273 = .ok (.aload_n 0, 1) := by decide +kernel
theorem dX12_next_274 : decode cX12_next 274 = .ok (.dup, 1) := by decide +kernel
theorem dX12_next_275 : decode cX12_next 275 = .ok (.getfield 173, 3) := by decide +kernel
theorem dX12_next_278 : decode cX12_next 278 = .ok (.iconst 1, 1) := by decide +kernel
theorem dX12_next_279 : decode cX12_next 279 = .ok (.iadd, 1) := by decide +kernel
theorem dX12_next_280 : decode cX12_next 280 = .ok (.putfield 173, 3) := by decide +kernel
theorem dX12_next_283 : decode cX12_next 283 = .ok (.goto (-72), 3) := by decide +kernel
theorem dX12_next_286 : decode cX12_next 286 = .ok (.aload_n 0, 1) := by decide +kernel
theorem dX12_next_287 : decode cX12_next 287 = .ok (.iload_n 2, 1) := by decide +kernel
theorem dX12_next_288 : decode cX12_next 288 = .ok (.iconst 4, 1) := by decide +kernel
theorem dX12_next_289 : decode cX12_next 289 = .ok (.if_icmp .le 7, 3) := by decide +kernel
theorem dX12_next_292 : decode cX12_next 292 = .ok (.iconst 4, 1) := by decide +kernel
theorem dX12_next_293 : decode cX12_next 293 = .ok (.goto 4, 3) := by decide +kernel
theorem dX12_next_296 : decode cX12_next 296 = .ok (.iconst 2, 1) := by decide +kernel
theorem dX12_next_297 : decode cX12_next 297 = .ok (.putfield 183, 3) := by decide +kernel
theorem dX12_next_300 : decode cX12_next 300 = .ok (.goto 72, 3) := by decide +kernel
theorem dX12_next_303 : decode cX12_next 303 = .ok (.iload_n 1, 1) := by decide +kernel
theorem dX12_next_304 : decode cX12_next 304 = .ok (.bipush 40, 2) := by decide +kernel
theorem dX12_next_306 : decode cX12_next 306 = .ok (.if_icmp .eq 45, 3) := by decide +kernel
theorem dX12_next_309 : decode cX12_next 309 = .ok (.iload_n 1, 1) := by decide +kernel
theorem dX12_next_310 : decode cX12_next 310 = .ok (.bipush 41, 2) := by decide +kernel
theorem dX12_next_312 : decode cX12_next 312 = .ok (.if_icmp .eq 39, 3) := by decide +kernel
theorem dX12_next_315 : decode cX12_next 315 = .ok (.iload_n 1, 1) := by decide +kernel
theorem dX12_next_316 : decode cX12_next 316 = .ok (.bipush 59, 2) := by decide +kernel
theorem dX12_next_318 : decode cX12_next 318 = .ok (.if_icmp .eq 33, 3) := by decide +kernel
theorem dX12_next_321 : decode cX12_next 321 = .ok (.iload_n 1, 1) := by decide +kernel
theorem dX12_next_322 : decode cX12_next 322 = .ok (.bipush 43, 2) := by decide +kernel
theorem dX12_next_324 : decode cX12_next 324 = .ok (.if_icmp .eq 27, 3) := by decide +kernel
theorem dX12_next_327 : decode cX12_next 327 = .ok (.iload_n 1, 1) := by decide +kernel
theorem dX12_next_328 : decode cX12_next 328 = .ok (.bipush 45, 2) := by decide +kernel
theorem dX12_next_330 : decode cX12_next 330 = .ok (.if_icmp .eq 21, 3) := by decide +kernel
theorem dX12_next_333 : decode cX12_next 333 = .ok (.iload_n 1, 1) := by decide +kernel
theorem dX12_next_334 : decode cX12_next 334 = .ok (.bipush 42, 2) := by decide +kernel
theorem dX12_next_336 : decode cX12_next 336 = .ok (.if_icmp .eq 15, 3) := by decide +kernel
theorem dX12_next_339 : decode cX12_next 339 = .ok (.iload_n 1, 1) := by decide +kernel
theorem dX12_next_340 : decode cX12_next 340 = .ok (.bipush 60, 2) := by decide +kernel
theorem dX12_next_342 : decode cX12_next 342 = .ok (.if_icmp .eq 9, 3) := by decide +kernel
theorem dX12_next_345 : decode cX12_next 345 = .ok (.iload_n 1, 1) := by decide +kernel
theorem dX12_next_346 : decode cX12_next 346 = .ok (.bipush 61, 2) := by decide +kernel
theorem dX12_next_348 : decode cX12_next 348 = .ok (.if_icmp .ne 24, 3) := by decide +kernel
theorem dX12_next_351 : decode cX12_next 351 = .ok (.aload_n 0, 1) := by decide +kernel
theorem dX12_next_352 : decode cX12_next 352 = .ok (.iconst 3, 1) := by decide +kernel
theorem dX12_next_353 : decode cX12_next 353 = .ok (.putfield 183, 3) := by decide +kernel
theorem dX12_next_356 : decode cX12_next 356 = .ok (.aload_n 0, 1) := by decide +kernel
theorem dX12_next_357 : decode cX12_next 357 = .ok (.iload_n 1, 1) := by decide +kernel
theorem dX12_next_358 : decode cX12_next 358 = .ok (.i2l, 1) := by decide +kernel
theorem dX12_next_359 : decode cX12_next 359 = .ok (.putfield 190, 3) := by decide +kernel
theorem dX12_next_362 : decode cX12_next 362 = .ok (.aload_n 0, 1) := by decide +kernel
theorem dX12_next_363 : decode cX12_next 363 = .ok (.dup, 1) := by decide +kernel
theorem dX12_next_364 : decode cX12_next 364 = .ok (.getfield 173, 3) := by decide +kernel
theorem dX12_next_367 : decode cX12_next 367 = .ok (.iconst 1, 1) := by decide +kernel
theorem dX12_next_368 : decode cX12_next 368 = .ok (.iadd, 1) := by decide +kernel
theorem dX12_next_369 : decode cX12_next 369 = .ok (.putfield 173, 3) := by decide +kernel
theorem dX12_next_372 : decode cX12_next 372 = .ok (.return_, 1) := by decide +kernel
theorem dX12_fail_0 : decode cX12_fail 0 = .ok (.aload_n 0, 1) := by decide +kernel
theorem dX12_fail_1 : decode cX12_fail 1 = .ok (.getfield 206, 3) := by decide +kernel
theorem dX12_fail_4 : decode cX12_fail 4 = .ok (.ifCond .ne 16, 3) := by decide +kernel
theorem dX12_fail_7 : decode cX12_fail 7 = .ok (.aload_n 0, 1) := by decide +kernel
theorem dX12_fail_8 : decode cX12_fail 8 = .ok (.iconst 1, 1) := by decide +kernel
theorem dX12_fail_9 : decode cX12_fail 9 = .ok (.putfield 206, 3) := by decide +kernel
theorem dX12_fail_12 : decode cX12_fail 12 = .ok (.aload_n 0, 1) := by decide +kernel
theorem dX12_fail_13 : decode cX12_fail 13 = .ok (.aload_n 0, 1) := by decide +kernel
theorem dX12_fail_14 : decode cX12_fail 14 = .ok (.getfield 180, 3) := by decide +kernel
theorem dX12_fail_17 : decode cX12_fail 17 = .ok (.putfield 210, 3) := by decide +kernel
theorem dX12_fail_20 : decode cX12_fail 20 = .ok (.return_, 1) := by decide +kernel
theorem dX12_isWord_0 : decode cX12_isWord 0 = .ok (.aload_n 0, 1) := by decide +kernel
theorem dX12_isWord_1 : decode cX12_isWord 1 = .ok (.getfield 206, 3) := by decide +kernel
theorem dX12_isWord_4 : decode cX12_isWord 4 = .ok (.ifCond .ne 24, 3) := by decide +kernel
theorem dX12_isWord_7 : decode cX12_isWord 7 = .ok (.aload_n 0, 1) := by decide +kernel
theorem dX12_isWord_8 : decode cX12_isWord 8 = .ok (.getfield 183, 3) := by decide +kernel
theorem dX12_isWord_11 : decode cX12_isWord 11 = .ok (.iconst 1, 1) := by decide +kernel
theorem dX12_isWord_12 : decode cX12_isWord 12 = .ok (.if_icmp .ne 16, 3) := by decide +kernel
theorem dX12_isWord_15 : decode cX12_isWord 15 = .ok (.aload_n 0, 1) := by decide +kernel
theorem dX12_isWord_16 : decode cX12_isWord 16 = .ok (.getfield 190, 3) := by decide +kernel
theorem dX12_isWord_19 : decode cX12_isWord 19 = .ok (.lload_n 1, 1) := by decide +kernel
theorem dX12_isWord_20 : decode cX12_isWord 20 = .ok (.lcmp, 1) := by decide +kernel
theorem dX12_isWord_21 : decode cX12_isWord 21 = .ok (.ifCond .ne 7, 3) := by decide +kernel
theorem dX12_isWord_24 : decode cX12_isWord 24 = .ok (.iconst 1, 1) := by decide +kernel
theorem dX12_isWord_25 : decode cX12_isWord 25 = .ok (.goto 4, 3) := by decide +kernel
theorem dX12_isWord_28 : decode cX12_isWord 28 = .ok (.iconst 0, 1) := by decide +kernel
theorem dX12_isWord_29 : decode cX12_isWord 29 = .ok (.ireturn, 1) := by decide +kernel
theorem dX12_isSign_0 : decode cX12_isSign 0 = .ok (.aload_n 0, 1) := by decide +kernel
theorem dX12_isSign_1 : decode cX12_isSign 1 = .ok (.getfield 206, 3) := by decide +kernel
theorem dX12_isSign_4 : decode cX12_isSign 4 = .ok (.ifCond .ne 25, 3) := by decide +kernel
theorem dX12_isSign_7 : decode cX12_isSign 7 = .ok (.aload_n 0, 1) := by decide +kernel
theorem dX12_isSign_8 : decode cX12_isSign 8 = .ok (.getfield 183, 3) := by decide +kernel
theorem dX12_isSign_11 : decode cX12_isSign 11 = .ok (.iconst 3, 1) := by decide +kernel
theorem dX12_isSign_12 : decode cX12_isSign 12 = .ok (.if_icmp .ne 17, 3) := by decide +kernel
theorem dX12_isSign_15 : decode cX12_isSign 15 = .ok (.aload_n 0, 1) := by decide +kernel
theorem dX12_isSign_16 : decode cX12_isSign 16 = .ok (.getfield 190, 3) := by decide +kernel
theorem dX12_isSign_19 : decode cX12_isSign 19 = .ok (.iload_n 1, 1) := by decide +kernel
theorem dX12_isSign_20 : decode cX12_isSign 20 = .ok (.i2l, 1) := by decide +kernel
theorem dX12_isSign_21 : decode cX12_isSign 21 = .ok (.lcmp, 1) := by decide +kernel
theorem dX12_isSign_22 : decode cX12_isSign 22 = .ok (.ifCond .ne 7, 3) := by decide +kernel
theorem dX12_isSign_25 : decode cX12_isSign 25 = .ok (.iconst 1, 1) := by decide +kernel
theorem dX12_isSign_26 : decode cX12_isSign 26 = .ok (.goto 4, 3) := by decide +kernel
theorem dX12_isSign_29 : decode cX12_isSign 29 = .ok (.iconst 0, 1) := by decide +kernel
theorem dX12_isSign_30 : decode cX12_isSign 30 = .ok (.ireturn, 1) := by decide +kernel
theorem dX12_opens_0 : decode cX12_opens 0 = .ok (.aload_n 0, 1) := by decide +kernel
theorem dX12_opens_1 : decode cX12_opens 1 = .ok (.getfield 213, 3) := by decide +kernel
theorem dX12_opens_4 : decode cX12_opens 4 = .ok (.iconst 5, 1) := by decide +kernel
theorem dX12_opens_5 : decode cX12_opens 5 = .ok (.if_icmp .ne 9, 3) := by decide +kernel
theorem dX12_opens_8 : decode cX12_opens 8 = .ok (.aload_n 0, 1) := by decide +kernel
theorem dX12_opens_9 : decode cX12_opens 9 = .ok (.invokevirtual 216, 3) := by decide +kernel
theorem dX12_opens_12 : decode cX12_opens 12 = .ok (.iconst 0, 1) := by decide +kernel
theorem dX12_opens_13 : decode cX12_opens 13 = .ok (.ireturn, 1) := by decide +kernel
theorem dX12_opens_14 : decode cX12_opens 14 = .ok (.aload_n 0, 1) := by decide +kernel
theorem dX12_opens_15 : decode cX12_opens 15 = .ok (.dup, 1) := by decide +kernel
theorem dX12_opens_16 : decode cX12_opens 16 = .ok (.getfield 213, 3) := by decide +kernel
theorem dX12_opens_19 : decode cX12_opens 19 = .ok (.iconst 1, 1) := by decide +kernel
theorem dX12_opens_20 : decode cX12_opens 20 = .ok (.iadd, 1) := by decide +kernel
theorem dX12_opens_21 : decode cX12_opens 21 = .ok (.putfield 213, 3) := by decide +kernel
theorem dX12_opens_24 : decode cX12_opens 24 = .ok (.aload_n 0, 1) := by decide +kernel
theorem dX12_opens_25 : decode cX12_opens 25 = .ok (.invokevirtual 219, 3) := by decide +kernel
theorem dX12_opens_28 : decode cX12_opens 28 = .ok (.iconst 1, 1) := by decide +kernel
theorem dX12_opens_29 : decode cX12_opens 29 = .ok (.ireturn, 1) := by decide +kernel
theorem dX12_name_0 : decode cX12_name 0 = .ok (.aload_n 0, 1) := by decide +kernel
theorem dX12_name_1 : decode cX12_name 1 = .ok (.ldc2_w 222, 3) := by decide +kernel
theorem dX12_name_4 : decode cX12_name 4 = .ok (.invokevirtual 224, 3) := by decide +kernel
theorem dX12_name_7 : decode cX12_name 7 = .ok (.ifCond .eq 8, 3) := by decide +kernel
theorem dX12_name_10 : decode cX12_name 10 = .ok (.aload_n 0, 1) := by decide +kernel
theorem dX12_name_11 : decode cX12_name 11 = .ok (.getfield 228, 3) := by decide +kernel
theorem dX12_name_14 : decode cX12_name 14 = .ok (.ireturn, 1) := by decide +kernel
theorem dX12_name_15 : decode cX12_name 15 = .ok (.aload_n 0, 1) := by decide +kernel
theorem dX12_name_16 : decode cX12_name 16 = .ok (.ldc2_w 231, 3) := by decide +kernel
theorem dX12_name_19 : decode cX12_name 19 = .ok (.invokevirtual 224, 3) := by decide +kernel
theorem dX12_name_22 : decode cX12_name 22 = .ok (.ifCond .eq 20, 3) := by decide +kernel
theorem dX12_name_25 : decode cX12_name 25 = .ok (.aload_n 0, 1) := by decide +kernel
theorem dX12_name_26 : decode cX12_name 26 = .ok (.getfield 32, 3) := by decide +kernel
theorem dX12_name_29 : decode cX12_name 29 = .ok (.iconst 4, 1) := by decide +kernel
theorem dX12_name_30 : decode cX12_name 30 = .ok (.aload_n 0, 1) := by decide +kernel
theorem dX12_name_31 : decode cX12_name 31 = .ok (.getfield 233, 3) := by decide +kernel
theorem dX12_name_34 : decode cX12_name 34 = .ok (.imul, 1) := by decide +kernel
theorem dX12_name_35 : decode cX12_name 35 = .ok (.aload_n 0, 1) := by decide +kernel
theorem dX12_name_36 : decode cX12_name 36 = .ok (.getfield 228, 3) := by decide +kernel
theorem dX12_name_39 : decode cX12_name 39 = .ok (.iadd, 1) := by decide +kernel
theorem dX12_name_40 : decode cX12_name 40 = .ok (.iaload, 1) := by decide +kernel
theorem dX12_name_41 : decode cX12_name 41 = .ok (.ireturn, 1) := by decide +kernel
theorem dX12_name_42 : decode cX12_name 42 = .ok (.aload_n 0, 1) := by decide +kernel
theorem dX12_name_43 : decode cX12_name 43 = .ok (.ldc2_w 236, 3) := by decide +kernel
theorem dX12_name_46 : decode cX12_name 46 = .ok (.invokevirtual 224, 3) := by decide +kernel
theorem dX12_name_49 : decode cX12_name 49 = .ok (.ifCond .eq 13, 3) := by decide +kernel
theorem dX12_name_52 : decode cX12_name 52 = .ok (.aload_n 0, 1) := by decide +kernel
theorem dX12_name_53 : decode cX12_name 53 = .ok (.getfield 29, 3) := by decide +kernel
theorem dX12_name_56 : decode cX12_name 56 = .ok (.aload_n 0, 1) := by decide +kernel
theorem dX12_name_57 : decode cX12_name 57 = .ok (.getfield 233, 3) := by decide +kernel
theorem dX12_name_60 : decode cX12_name 60 = .ok (.iaload, 1) := by decide +kernel
theorem dX12_name_61 : decode cX12_name 61 = .ok (.ireturn, 1) := by decide +kernel
theorem dX12_name_62 : decode cX12_name 62 = .ok (.aload_n 0, 1) := by decide +kernel
theorem dX12_name_63 : decode cX12_name 63 = .ok (.ldc2_w 238, 3) := by decide +kernel
theorem dX12_name_66 : decode cX12_name 66 = .ok (.invokevirtual 224, 3) := by decide +kernel
theorem dX12_name_69 : decode cX12_name 69 = .ok (.ifCond .eq 13, 3) := by decide +kernel
theorem dX12_name_72 : decode cX12_name 72 = .ok (.aload_n 0, 1) := by decide +kernel
theorem dX12_name_73 : decode cX12_name 73 = .ok (.getfield 23, 3) := by decide +kernel
theorem dX12_name_76 : decode cX12_name 76 = .ok (.aload_n 0, 1) := by decide +kernel
theorem dX12_name_77 : decode cX12_name 77 = .ok (.getfield 233, 3) := by decide +kernel
theorem dX12_name_80 : decode cX12_name 80 = .ok (.iaload, 1) := by decide +kernel
theorem dX12_name_81 : decode cX12_name 81 = .ok (.ireturn, 1) := by decide +kernel
theorem dX12_name_82 : decode cX12_name 82 = .ok (.aload_n 0, 1) := by decide +kernel
theorem dX12_name_83 : decode cX12_name 83 = .ok (.ldc2_w 240, 3) := by decide +kernel
theorem dX12_name_86 : decode cX12_name 86 = .ok (.invokevirtual 224, 3) := by decide +kernel
theorem dX12_name_89 : decode cX12_name 89 = .ok (.ifCond .eq 8, 3) := by decide +kernel
theorem dX12_name_92 : decode cX12_name 92 = .ok (.aload_n 0, 1) := by decide +kernel
theorem dX12_name_93 : decode cX12_name 93 = .ok (.getfield 242, 3) := by decide +kernel
theorem dX12_name_96 : decode cX12_name 96 = .ok (.ireturn, 1) := by decide +kernel
theorem dX12_name_97 : decode cX12_name 97 = .ok (.aload_n 0, 1) := by decide +kernel
theorem dX12_name_98 : decode cX12_name 98 = .ok (.ldc2_w 245, 3) := by decide +kernel
theorem dX12_name_101 : decode cX12_name 101 = .ok (.invokevirtual 224, 3) := by decide +kernel
theorem dX12_name_104 : decode cX12_name 104 = .ok (.ifCond .eq 8, 3) := by decide +kernel
theorem dX12_name_107 : decode cX12_name 107 = .ok (.aload_n 0, 1) := by decide +kernel
theorem dX12_name_108 : decode cX12_name 108 = .ok (.getfield 247, 3) := by decide +kernel
theorem dX12_name_111 : decode cX12_name 111 = .ok (.ireturn, 1) := by decide +kernel
theorem dX12_name_112 : decode cX12_name 112 = .ok (.aload_n 0, 1) := by decide +kernel
theorem dX12_name_113 : decode cX12_name 113 = .ok (.invokevirtual 216, 3) := by decide +kernel
theorem dX12_name_116 : decode cX12_name 116 = .ok (.iconst 0, 1) := by decide +kernel
theorem dX12_name_117 : decode cX12_name 117 = .ok (.ireturn, 1) := by decide +kernel
theorem dX12_one_0 : decode cX12_one 0 = .ok (.iconst 0, 1) := by decide +kernel
theorem dX12_one_1 : decode cX12_one 1 = .ok (.istore_n 1, 1) := by decide +kernel
theorem dX12_one_2 : decode cX12_one 2 = .ok (.aload_n 0, 1) := by decide +kernel
theorem dX12_one_3 : decode cX12_one 3 = .ok (.bipush 45, 2) := by decide +kernel
theorem dX12_one_5 : decode cX12_one 5 = .ok (.invokevirtual 250, 3) := by decide +kernel
theorem dX12_one_8 : decode cX12_one 8 = .ok (.ifCond .eq 29, 3) := by decide +kernel
theorem dX12_one_11 : decode cX12_one 11 = .ok (.aload_n 0, 1) := by decide +kernel
theorem dX12_one_12 : decode cX12_one 12 = .ok (.invokevirtual 253, 3) := by decide +kernel
theorem dX12_one_15 : decode cX12_one 15 = .ok (.ifCond .eq 146, 3) := by decide +kernel
theorem dX12_one_18 : decode cX12_one 18 = .ok (.aload_n 0, 1) := by decide +kernel
theorem dX12_one_19 : decode cX12_one 19 = .ok (.invokevirtual 257, 3) := by decide +kernel
theorem dX12_one_22 : decode cX12_one 22 = .ok (.ineg, 1) := by decide +kernel
theorem dX12_one_23 : decode cX12_one 23 = .ok (.istore_n 1, 1) := by decide +kernel
theorem dX12_one_24 : decode cX12_one 24 = .ok (.aload_n 0, 1) := by decide +kernel
theorem dX12_one_25 : decode cX12_one 25 = .ok (.dup, 1) := by decide +kernel
theorem dX12_one_26 : decode cX12_one 26 = .ok (.getfield 213, 3) := by decide +kernel
theorem dX12_one_29 : decode cX12_one 29 = .ok (.iconst 1, 1) := by decide +kernel
theorem dX12_one_30 : decode cX12_one 30 = .ok (.isub, 1) := by decide +kernel
theorem dX12_one_31 : decode cX12_one 31 = .ok (.putfield 213, 3) := by decide +kernel
theorem dX12_one_34 : decode cX12_one 34 = .ok (.goto 127, 3) := by decide +kernel
theorem dX12_one_37 : decode cX12_one 37 = .ok (.aload_n 0, 1) := by decide +kernel
theorem dX12_one_38 : decode cX12_one 38 = .ok (.bipush 40, 2) := by decide +kernel
theorem dX12_one_40 : decode cX12_one 40 = .ok (.invokevirtual 250, 3) := by decide +kernel
theorem dX12_one_43 : decode cX12_one 43 = .ok (.ifCond .eq 52, 3) := by decide +kernel
theorem dX12_one_46 : decode cX12_one 46 = .ok (.aload_n 0, 1) := by decide +kernel
theorem dX12_one_47 : decode cX12_one 47 = .ok (.invokevirtual 253, 3) := by decide +kernel
theorem dX12_one_50 : decode cX12_one 50 = .ok (.ifCond .eq 111, 3) := by decide +kernel
theorem dX12_one_53 : decode cX12_one 53 = .ok (.aload_n 0, 1) := by decide +kernel
theorem dX12_one_54 : decode cX12_one 54 = .ok (.invokevirtual 261, 3) := by decide +kernel
theorem dX12_one_57 : decode cX12_one 57 = .ok (.istore_n 1, 1) := by decide +kernel
theorem dX12_one_58 : decode cX12_one 58 = .ok (.aload_n 0, 1) := by decide +kernel
theorem dX12_one_59 : decode cX12_one 59 = .ok (.bipush 41, 2) := by decide +kernel
theorem dX12_one_61 : decode cX12_one 61 = .ok (.invokevirtual 250, 3) := by decide +kernel
theorem dX12_one_64 : decode cX12_one 64 = .ok (.ifCond .ne 7, 3) := by decide +kernel
theorem dX12_one_67 : decode cX12_one 67 = .ok (.aload_n 0, 1) := by decide +kernel
theorem dX12_one_68 : decode cX12_one 68 = .ok (.invokevirtual 216, 3) := by decide +kernel
theorem dX12_one_71 : decode cX12_one 71 = .ok (.aload_n 0, 1) := by decide +kernel
theorem dX12_one_72 : decode cX12_one 72 = .ok (.dup, 1) := by decide +kernel
theorem dX12_one_73 : decode cX12_one 73 = .ok (.getfield 213, 3) := by decide +kernel
theorem dX12_one_76 : decode cX12_one 76 = .ok (.iconst 1, 1) := by decide +kernel
theorem dX12_one_77 : decode cX12_one 77 = .ok (.isub, 1) := by decide +kernel
theorem dX12_one_78 : decode cX12_one 78 = .ok (.putfield 213, 3) := by decide +kernel
theorem dX12_one_81 : decode cX12_one 81 = .ok (.aload_n 0, 1) := by decide +kernel
theorem dX12_one_82 : decode cX12_one 82 = .ok (.getfield 206, 3) := by decide +kernel
theorem dX12_one_85 : decode cX12_one 85 = .ok (.ifCond .ne 76, 3) := by decide +kernel
theorem dX12_one_88 : decode cX12_one 88 = .ok (.aload_n 0, 1) := by decide +kernel
theorem dX12_one_89 : decode cX12_one 89 = .ok (.invokevirtual 219, 3) := by decide +kernel
theorem dX12_one_92 : decode cX12_one 92 = .ok (.goto 69, 3) := by decide +kernel
theorem dX12_one_95 : decode cX12_one 95 = .ok (.aload_n 0, 1) := by decide +kernel
theorem dX12_one_96 : decode cX12_one 96 = .ok (.getfield 206, 3) := by decide +kernel
theorem dX12_one_99 : decode cX12_one 99 = .ok (.ifCond .ne 24, 3) := by decide +kernel
theorem dX12_one_102 : decode cX12_one 102 = .ok (.aload_n 0, 1) := by decide +kernel
theorem dX12_one_103 : decode cX12_one 103 = .ok (.getfield 183, 3) := by decide +kernel
theorem dX12_one_106 : decode cX12_one 106 = .ok (.iconst 2, 1) := by decide +kernel
theorem dX12_one_107 : decode cX12_one 107 = .ok (.if_icmp .ne 16, 3) := by decide +kernel
theorem dX12_one_110 : decode cX12_one 110 = .ok (.aload_n 0, 1) := by decide +kernel
theorem dX12_one_111 : decode cX12_one 111 = .ok (.getfield 190, 3) := by decide +kernel
theorem dX12_one_114 : decode cX12_one 114 = .ok (.l2i, 1) := by decide +kernel
theorem dX12_one_115 : decode cX12_one 115 = .ok (.istore_n 1, 1) := by decide +kernel
theorem dX12_one_116 : decode cX12_one 116 = .ok (.aload_n 0, 1) := by decide +kernel
theorem dX12_one_117 : decode cX12_one 117 = .ok (.invokevirtual 219, 3) := by decide +kernel
theorem dX12_one_120 : decode cX12_one 120 = .ok (.goto 41, 3) := by decide +kernel
theorem dX12_one_123 : decode cX12_one 123 = .ok (.aload_n 0, 1) := by decide +kernel
theorem dX12_one_124 : decode cX12_one 124 = .ok (.getfield 206, 3) := by decide +kernel
theorem dX12_one_127 : decode cX12_one 127 = .ok (.ifCond .ne 30, 3) := by decide +kernel
theorem dX12_one_130 : decode cX12_one 130 = .ok (.aload_n 0, 1) := by decide +kernel
theorem dX12_one_131 : decode cX12_one 131 = .ok (.getfield 183, 3) := by decide +kernel
theorem dX12_one_134 : decode cX12_one 134 = .ok (.iconst 1, 1) := by decide +kernel
theorem dX12_one_135 : decode cX12_one 135 = .ok (.if_icmp .ne 22, 3) := by decide +kernel
theorem dX12_one_138 : decode cX12_one 138 = .ok (.aload_n 0, 1) := by decide +kernel
theorem dX12_one_139 : decode cX12_one 139 = .ok (.invokevirtual 264, 3) := by decide +kernel
theorem dX12_one_142 : decode cX12_one 142 = .ok (.istore_n 1, 1) := by decide +kernel
theorem dX12_one_143 : decode cX12_one 143 = .ok (.aload_n 0, 1) := by decide +kernel
theorem dX12_one_144 : decode cX12_one 144 = .ok (.getfield 206, 3) := by decide +kernel
theorem dX12_one_147 : decode cX12_one 147 = .ok (.ifCond .ne 14, 3) := by decide +kernel
theorem dX12_one_150 : decode cX12_one 150 = .ok (.aload_n 0, 1) := by decide +kernel
theorem dX12_one_151 : decode cX12_one 151 = .ok (.invokevirtual 219, 3) := by decide +kernel
theorem dX12_one_154 : decode cX12_one 154 = .ok (.goto 7, 3) := by decide +kernel
theorem dX12_one_157 : decode cX12_one 157 = .ok (.aload_n 0, 1) := by decide +kernel
theorem dX12_one_158 : decode cX12_one 158 = .ok (.invokevirtual 216, 3) := by decide +kernel
theorem dX12_one_161 : decode cX12_one 161 = .ok (.iload_n 1, 1) := by decide +kernel
theorem dX12_one_162 : decode cX12_one 162 = .ok (.ireturn, 1) := by decide +kernel
theorem dX12_term_0 : decode cX12_term 0 = .ok (.aload_n 0, 1) := by decide +kernel
theorem dX12_term_1 : decode cX12_term 1 = .ok (.invokevirtual 257, 3) := by decide +kernel
theorem dX12_term_4 : decode cX12_term 4 = .ok (.istore_n 1, 1) := by decide +kernel
theorem dX12_term_5 : decode cX12_term 5 = .ok (.aload_n 0, 1) := by decide +kernel
theorem dX12_term_6 : decode cX12_term 6 = .ok (.bipush 42, 2) := by decide +kernel
theorem dX12_term_8 : decode cX12_term 8 = .ok (.invokevirtual 250, 3) := by decide +kernel
theorem dX12_term_11 : decode cX12_term 11 = .ok (.ifCond .eq 17, 3) := by decide +kernel
theorem dX12_term_14 : decode cX12_term 14 = .ok (.aload_n 0, 1) := by decide +kernel
theorem dX12_term_15 : decode cX12_term 15 = .ok (.invokevirtual 219, 3) := by decide +kernel
theorem dX12_term_18 : decode cX12_term 18 = .ok (.iload_n 1, 1) := by decide +kernel
theorem dX12_term_19 : decode cX12_term 19 = .ok (.aload_n 0, 1) := by decide +kernel
theorem dX12_term_20 : decode cX12_term 20 = .ok (.invokevirtual 257, 3) := by decide +kernel
theorem dX12_term_23 : decode cX12_term 23 = .ok (.imul, 1) := by decide +kernel
theorem dX12_term_24 : decode cX12_term 24 = .ok (.istore_n 1, 1) := by decide +kernel
theorem dX12_term_25 : decode cX12_term 25 = .ok (.goto (-20), 3) := by decide +kernel
theorem dX12_term_28 : decode cX12_term 28 = .ok (.iload_n 1, 1) := by decide +kernel
theorem dX12_term_29 : decode cX12_term 29 = .ok (.ireturn, 1) := by decide +kernel
theorem dX12_added_0 : decode cX12_added 0 = .ok (.aload_n 0, 1) := by decide +kernel
theorem dX12_added_1 : decode cX12_added 1 = .ok (.invokevirtual 267, 3) := by decide +kernel
theorem dX12_added_4 : decode cX12_added 4 = .ok (.istore_n 1, 1) := by decide +kernel
theorem dX12_added_5 : decode cX12_added 5 = .ok (.aload_n 0, 1) := by decide +kernel
theorem dX12_added_6 : decode cX12_added 6 = .ok (.bipush 43, 2) := by decide +kernel
theorem dX12_added_8 : decode cX12_added 8 = .ok (.invokevirtual 250, 3) := by decide +kernel
theorem dX12_added_11 : decode cX12_added 11 = .ok (.ifCond .ne 12, 3) := by decide +kernel
theorem dX12_added_14 : decode cX12_added 14 = .ok (.aload_n 0, 1) := by decide +kernel
theorem dX12_added_15 : decode cX12_added 15 = .ok (.bipush 45, 2) := by decide +kernel
theorem dX12_added_17 : decode cX12_added 17 = .ok (.invokevirtual 250, 3) := by decide +kernel
theorem dX12_added_20 : decode cX12_added 20 = .ok (.ifCond .eq 46, 3) := by decide +kernel
theorem dX12_added_23 : decode cX12_added 23 = .ok (.aload_n 0, 1) := by decide +kernel
theorem dX12_added_24 : decode cX12_added 24 = .ok (.getfield 190, 3) := by decide +kernel
theorem dX12_added_27 : decode cX12_added 27 = .ok (.ldc2_w 270, 3) := by decide +kernel
theorem dX12_added_30 : decode cX12_added 30 = .ok (.lcmp, 1) := by decide +kernel
theorem dX12_added_31 : decode cX12_added 31 = .ok (.ifCond .ne 7, 3) := by decide +kernel
theorem dX12_added_34 : decode cX12_added 34 = .ok (.iconst 1, 1) := by decide +kernel
theorem dX12_added_35 : decode cX12_added 35 = .ok (.goto 4, 3) := by decide +kernel
theorem dX12_added_38 : decode cX12_added 38 = .ok (.iconst 0, 1) := by decide +kernel
theorem dX12_added_39 : decode cX12_added 39 = .ok (.istore_n 2, 1) := by decide +kernel
theorem dX12_added_40 : decode cX12_added 40 = .ok (.aload_n 0, 1) := by decide +kernel
theorem dX12_added_41 : decode cX12_added 41 = .ok (.invokevirtual 219, 3) := by decide +kernel
theorem dX12_added_44 : decode cX12_added 44 = .ok (.aload_n 0, 1) := by decide +kernel
theorem dX12_added_45 : decode cX12_added 45 = .ok (.invokevirtual 267, 3) := by decide +kernel
theorem dX12_added_48 : decode cX12_added 48 = .ok (.istore_n 3, 1) := by decide +kernel
theorem dX12_added_49 : decode cX12_added 49 = .ok (.iload_n 2, 1) := by decide +kernel
theorem dX12_added_50 : decode cX12_added 50 = .ok (.ifCond .eq 9, 3) := by decide +kernel
theorem dX12_added_53 : decode cX12_added 53 = .ok (.iload_n 1, 1) := by decide +kernel
theorem dX12_added_54 : decode cX12_added 54 = .ok (.iload_n 3, 1) := by decide +kernel
theorem dX12_added_55 : decode cX12_added 55 = .ok (.iadd, 1) := by decide +kernel
theorem dX12_added_56 : decode cX12_added 56 = .ok (.goto 6, 3) := by decide +kernel
theorem dX12_added_59 : decode cX12_added 59 = .ok (.iload_n 1, 1) := by decide +kernel
theorem dX12_added_60 : decode cX12_added 60 = .ok (.iload_n 3, 1) := by decide +kernel
theorem dX12_added_61 : decode cX12_added 61 = .ok (.isub, 1) := by decide +kernel
theorem dX12_added_62 : decode cX12_added 62 = .ok (.istore_n 1, 1) := by decide +kernel
theorem dX12_added_63 : decode cX12_added 63 = .ok (.goto (-58), 3) := by decide +kernel
theorem dX12_added_66 : decode cX12_added 66 = .ok (.iload_n 1, 1) := by decide +kernel
theorem dX12_added_67 : decode cX12_added 67 = .ok (.ireturn, 1) := by decide +kernel
theorem dX12_not_0 : decode cX12_not 0 = .ok (.aload_n 0, 1) := by decide +kernel
theorem dX12_not_1 : decode cX12_not 1 = .ok (.ldc2_w 272, 3) := by decide +kernel
theorem dX12_not_4 : decode cX12_not 4 = .ok (.invokevirtual 224, 3) := by decide +kernel
theorem dX12_not_7 : decode cX12_not 7 = .ok (.ifCond .eq 37, 3) := by decide +kernel
theorem dX12_not_10 : decode cX12_not 10 = .ok (.aload_n 0, 1) := by decide +kernel
theorem dX12_not_11 : decode cX12_not 11 = .ok (.invokevirtual 253, 3) := by decide +kernel
theorem dX12_not_14 : decode cX12_not 14 = .ok (.ifCond .ne 5, 3) := by decide +kernel
theorem dX12_not_17 : decode cX12_not 17 = .ok (.iconst 0, 1) := by decide +kernel
theorem dX12_not_18 : decode cX12_not 18 = .ok (.ireturn, 1) := by decide +kernel
theorem dX12_not_19 : decode cX12_not 19 = .ok (.aload_n 0, 1) := by decide +kernel
theorem dX12_not_20 : decode cX12_not 20 = .ok (.invokevirtual 274, 3) := by decide +kernel
theorem dX12_not_23 : decode cX12_not 23 = .ok (.istore_n 1, 1) := by decide +kernel
theorem dX12_not_24 : decode cX12_not 24 = .ok (.aload_n 0, 1) := by decide +kernel
theorem dX12_not_25 : decode cX12_not 25 = .ok (.dup, 1) := by decide +kernel
theorem dX12_not_26 : decode cX12_not 26 = .ok (.getfield 213, 3) := by decide +kernel
theorem dX12_not_29 : decode cX12_not 29 = .ok (.iconst 1, 1) := by decide +kernel
theorem dX12_not_30 : decode cX12_not 30 = .ok (.isub, 1) := by decide +kernel
theorem dX12_not_31 : decode cX12_not 31 = .ok (.putfield 213, 3) := by decide +kernel
theorem dX12_not_34 : decode cX12_not 34 = .ok (.iload_n 1, 1) := by decide +kernel
theorem dX12_not_35 : decode cX12_not 35 = .ok (.ifCond .ne 7, 3) := by decide +kernel
theorem dX12_not_38 : decode cX12_not 38 = .ok (.iconst 1, 1) := by decide +kernel
theorem dX12_not_39 : decode cX12_not 39 = .ok (.goto 4, 3) := by decide +kernel
theorem dX12_not_42 : decode cX12_not 42 = .ok (.iconst 0, 1) := by decide +kernel
theorem dX12_not_43 : decode cX12_not 43 = .ok (.ireturn, 1) := by decide +kernel
theorem dX12_not_44 : decode cX12_not 44 = .ok (.aload_n 0, 1) := by decide +kernel
theorem dX12_not_45 : decode cX12_not 45 = .ok (.invokevirtual 277, 3) := by decide +kernel
theorem dX12_not_48 : decode cX12_not 48 = .ok (.istore_n 1, 1) := by decide +kernel
theorem dX12_not_49 : decode cX12_not 49 = .ok (.aload_n 0, 1) := by decide +kernel
theorem dX12_not_50 : decode cX12_not 50 = .ok (.bipush 60, 2) := by decide +kernel
theorem dX12_not_52 : decode cX12_not 52 = .ok (.invokevirtual 250, 3) := by decide +kernel
theorem dX12_not_55 : decode cX12_not 55 = .ok (.ifCond .ne 14, 3) := by decide +kernel
theorem dX12_not_58 : decode cX12_not 58 = .ok (.aload_n 0, 1) := by decide +kernel
theorem dX12_not_59 : decode cX12_not 59 = .ok (.bipush 61, 2) := by decide +kernel
theorem dX12_not_61 : decode cX12_not 61 = .ok (.invokevirtual 250, 3) := by decide +kernel
theorem dX12_not_64 : decode cX12_not 64 = .ok (.ifCond .ne 5, 3) := by decide +kernel
theorem dX12_not_67 : decode cX12_not 67 = .ok (.iload_n 1, 1) := by decide +kernel
theorem dX12_not_68 : decode cX12_not 68 = .ok (.ireturn, 1) := by decide +kernel
theorem dX12_not_69 : decode cX12_not 69 = .ok (.aload_n 0, 1) := by decide +kernel
theorem dX12_not_70 : decode cX12_not 70 = .ok (.getfield 190, 3) := by decide +kernel
theorem dX12_not_73 : decode cX12_not 73 = .ok (.ldc2_w 280, 3) := by decide +kernel
theorem dX12_not_76 : decode cX12_not 76 = .ok (.lcmp, 1) := by decide +kernel
theorem dX12_not_77 : decode cX12_not 77 = .ok (.ifCond .ne 7, 3) := by decide +kernel
theorem dX12_not_80 : decode cX12_not 80 = .ok (.iconst 1, 1) := by decide +kernel
theorem dX12_not_81 : decode cX12_not 81 = .ok (.goto 4, 3) := by decide +kernel
theorem dX12_not_84 : decode cX12_not 84 = .ok (.iconst 0, 1) := by decide +kernel
theorem dX12_not_85 : decode cX12_not 85 = .ok (.istore_n 2, 1) := by decide +kernel
theorem dX12_not_86 : decode cX12_not 86 = .ok (.aload_n 0, 1) := by decide +kernel
theorem dX12_not_87 : decode cX12_not 87 = .ok (.invokevirtual 219, 3) := by decide +kernel
theorem dX12_not_90 : decode cX12_not 90 = .ok (.aload_n 0, 1) := by decide +kernel
theorem dX12_not_91 : decode cX12_not 91 = .ok (.invokevirtual 277, 3) := by decide +kernel
theorem dX12_not_94 : decode cX12_not 94 = .ok (.istore_n 3, 1) := by decide +kernel
theorem dX12_not_95 : decode cX12_not 95 = .ok (.iload_n 2, 1) := by decide +kernel
theorem dX12_not_96 : decode cX12_not 96 = .ok (.ifCond .eq 11, 3) := by decide +kernel
theorem dX12_not_99 : decode cX12_not 99 = .ok (.iload_n 1, 1) := by decide +kernel
theorem dX12_not_100 : decode cX12_not 100 = .ok (.iload_n 3, 1) := by decide +kernel
theorem dX12_not_101 : decode cX12_not 101 = .ok (.if_icmp .ge 15, 3) := by decide +kernel
theorem dX12_not_104 : decode cX12_not 104 = .ok (.goto 8, 3) := by decide +kernel
theorem dX12_not_107 : decode cX12_not 107 = .ok (.iload_n 1, 1) := by decide +kernel
theorem dX12_not_108 : decode cX12_not 108 = .ok (.iload_n 3, 1) := by decide +kernel
theorem dX12_not_109 : decode cX12_not 109 = .ok (.if_icmp .ne 7, 3) := by decide +kernel
theorem dX12_not_112 : decode cX12_not 112 = .ok (.iconst 1, 1) := by decide +kernel
theorem dX12_not_113 : decode cX12_not 113 = .ok (.goto 4, 3) := by decide +kernel
theorem dX12_not_116 : decode cX12_not 116 = .ok (.iconst 0, 1) := by decide +kernel
theorem dX12_not_117 : decode cX12_not 117 = .ok (.ireturn, 1) := by decide +kernel
theorem dX12_both_0 : decode cX12_both 0 = .ok (.aload_n 0, 1) := by decide +kernel
theorem dX12_both_1 : decode cX12_both 1 = .ok (.invokevirtual 274, 3) := by decide +kernel
theorem dX12_both_4 : decode cX12_both 4 = .ok (.istore_n 1, 1) := by decide +kernel
theorem dX12_both_5 : decode cX12_both 5 = .ok (.aload_n 0, 1) := by decide +kernel
theorem dX12_both_6 : decode cX12_both 6 = .ok (.ldc2_w 282, 3) := by decide +kernel
theorem dX12_both_9 : decode cX12_both 9 = .ok (.invokevirtual 224, 3) := by decide +kernel
theorem dX12_both_12 : decode cX12_both 12 = .ok (.ifCond .eq 29, 3) := by decide +kernel
theorem dX12_both_15 : decode cX12_both 15 = .ok (.aload_n 0, 1) := by decide +kernel
theorem dX12_both_16 : decode cX12_both 16 = .ok (.invokevirtual 219, 3) := by decide +kernel
theorem dX12_both_19 : decode cX12_both 19 = .ok (.aload_n 0, 1) := by decide +kernel
theorem dX12_both_20 : decode cX12_both 20 = .ok (.invokevirtual 274, 3) := by decide +kernel
theorem dX12_both_23 : decode cX12_both 23 = .ok (.istore_n 2, 1) := by decide +kernel
theorem dX12_both_24 : decode cX12_both 24 = .ok (.iload_n 1, 1) := by decide +kernel
theorem dX12_both_25 : decode cX12_both 25 = .ok (.ifCond .eq 11, 3) := by decide +kernel
theorem dX12_both_28 : decode cX12_both 28 = .ok (.iload_n 2, 1) := by decide +kernel
theorem dX12_both_29 : decode cX12_both 29 = .ok (.ifCond .eq 7, 3) := by decide +kernel
theorem dX12_both_32 : decode cX12_both 32 = .ok (.iconst 1, 1) := by decide +kernel
theorem dX12_both_33 : decode cX12_both 33 = .ok (.goto 4, 3) := by decide +kernel
theorem dX12_both_36 : decode cX12_both 36 = .ok (.iconst 0, 1) := by decide +kernel
theorem dX12_both_37 : decode cX12_both 37 = .ok (.istore_n 1, 1) := by decide +kernel
theorem dX12_both_38 : decode cX12_both 38 = .ok (.goto (-33), 3) := by decide +kernel
theorem dX12_both_41 : decode cX12_both 41 = .ok (.iload_n 1, 1) := by decide +kernel
theorem dX12_both_42 : decode cX12_both 42 = .ok (.ireturn, 1) := by decide +kernel
theorem dX12_either_0 : decode cX12_either 0 = .ok (.aload_n 0, 1) := by decide +kernel
theorem dX12_either_1 : decode cX12_either 1 = .ok (.invokevirtual 284, 3) := by decide +kernel
theorem dX12_either_4 : decode cX12_either 4 = .ok (.istore_n 1, 1) := by decide +kernel
theorem dX12_either_5 : decode cX12_either 5 = .ok (.aload_n 0, 1) := by decide +kernel
theorem dX12_either_6 : decode cX12_either 6 = .ok (.ldc2_w 287, 3) := by decide +kernel
theorem dX12_either_9 : decode cX12_either 9 = .ok (.invokevirtual 224, 3) := by decide +kernel
theorem dX12_either_12 : decode cX12_either 12 = .ok (.ifCond .eq 29, 3) := by decide +kernel
theorem dX12_either_15 : decode cX12_either 15 = .ok (.aload_n 0, 1) := by decide +kernel
theorem dX12_either_16 : decode cX12_either 16 = .ok (.invokevirtual 219, 3) := by decide +kernel
theorem dX12_either_19 : decode cX12_either 19 = .ok (.aload_n 0, 1) := by decide +kernel
theorem dX12_either_20 : decode cX12_either 20 = .ok (.invokevirtual 284, 3) := by decide +kernel
theorem dX12_either_23 : decode cX12_either 23 = .ok (.istore_n 2, 1) := by decide +kernel
theorem dX12_either_24 : decode cX12_either 24 = .ok (.iload_n 1, 1) := by decide +kernel
theorem dX12_either_25 : decode cX12_either 25 = .ok (.ifCond .ne 7, 3) := by decide +kernel
theorem dX12_either_28 : decode cX12_either 28 = .ok (.iload_n 2, 1) := by decide +kernel
theorem dX12_either_29 : decode cX12_either 29 = .ok (.ifCond .eq 7, 3) := by decide +kernel
theorem dX12_either_32 : decode cX12_either 32 = .ok (.iconst 1, 1) := by decide +kernel
theorem dX12_either_33 : decode cX12_either 33 = .ok (.goto 4, 3) := by decide +kernel
theorem dX12_either_36 : decode cX12_either 36 = .ok (.iconst 0, 1) := by decide +kernel
theorem dX12_either_37 : decode cX12_either 37 = .ok (.istore_n 1, 1) := by decide +kernel
theorem dX12_either_38 : decode cX12_either 38 = .ok (.goto (-33), 3) := by decide +kernel
theorem dX12_either_41 : decode cX12_either 41 = .ok (.iload_n 1, 1) := by decide +kernel
theorem dX12_either_42 : decode cX12_either 42 = .ok (.ireturn, 1) := by decide +kernel
theorem dX12_section_0 : decode cX12_section 0 = .ok (.aload_n 0, 1) := by decide +kernel
theorem dX12_section_1 : decode cX12_section 1 = .ok (.lload_n 1, 1) := by decide +kernel
theorem dX12_section_2 : decode cX12_section 2 = .ok (.invokevirtual 224, 3) := by decide +kernel
theorem dX12_section_5 : decode cX12_section 5 = .ok (.ifCond .ne 7, 3) := by decide +kernel
theorem dX12_section_8 : decode cX12_section 8 = .ok (.aload_n 0, 1) := by decide +kernel
theorem dX12_section_9 : decode cX12_section 9 = .ok (.invokevirtual 216, 3) := by decide +kernel
theorem dX12_section_12 : decode cX12_section 12 = .ok (.aload_n 0, 1) := by decide +kernel
theorem dX12_section_13 : decode cX12_section 13 = .ok (.getfield 206, 3) := by decide +kernel
theorem dX12_section_16 : decode cX12_section 16 = .ok (.ifCond .ne 7, 3) := by decide +kernel
theorem dX12_section_19 : decode cX12_section 19 = .ok (.aload_n 0, 1) := by decide +kernel
theorem dX12_section_20 : decode cX12_section 20 = .ok (.invokevirtual 219, 3) := by decide +kernel
theorem dX12_section_23 : decode cX12_section 23 = .ok (.aload_n 0, 1) := by decide +kernel
theorem dX12_section_24 : decode cX12_section 24 = .ok (.getfield 206, 3) := by decide +kernel
theorem dX12_section_27 : decode cX12_section 27 = .ok (.ifCond .eq 7, 3) := by decide +kernel
theorem dX12_section_30 : decode cX12_section 30 = .ok (.iconst 0, 1) := by decide +kernel
theorem dX12_section_31 : decode cX12_section 31 = .ok (.goto 7, 3) := by decide +kernel
theorem dX12_section_34 : decode cX12_section 34 = .ok (.aload_n 0, 1) := by decide +kernel
theorem dX12_section_35 : decode cX12_section 35 = .ok (.invokevirtual 261, 3) := by decide +kernel
theorem dX12_section_38 : decode cX12_section 38 = .ok (.istore_n 3, 1) := by decide +kernel
theorem dX12_section_39 : decode cX12_section 39 = .ok (.aload_n 0, 1) := by decide +kernel
theorem dX12_section_40 : decode cX12_section 40 = .ok (.bipush 59, 2) := by decide +kernel
theorem dX12_section_42 : decode cX12_section 42 = .ok (.invokevirtual 250, 3) := by decide +kernel
theorem dX12_section_45 : decode cX12_section 45 = .ok (.ifCond .ne 7, 3) := by decide +kernel
theorem dX12_section_48 : decode cX12_section 48 = .ok (.aload_n 0, 1) := by decide +kernel
theorem dX12_section_49 : decode cX12_section 49 = .ok (.invokevirtual 216, 3) := by decide +kernel
theorem dX12_section_52 : decode cX12_section 52 = .ok (.aload_n 0, 1) := by decide +kernel
theorem dX12_section_53 : decode cX12_section 53 = .ok (.getfield 206, 3) := by decide +kernel
theorem dX12_section_56 : decode cX12_section 56 = .ok (.ifCond .ne 7, 3) := by decide +kernel
theorem dX12_section_59 : decode cX12_section 59 = .ok (.aload_n 0, 1) := by decide +kernel
theorem dX12_section_60 : decode cX12_section 60 = .ok (.invokevirtual 219, 3) := by decide +kernel
theorem dX12_section_63 : decode cX12_section 63 = .ok (.iload_n 3, 1) := by decide +kernel
theorem dX12_section_64 : decode cX12_section 64 = .ok (.ireturn, 1) := by decide +kernel
theorem dX12_read_0 : decode cX12_read 0 = .ok (.aload_n 0, 1) := by decide +kernel
theorem dX12_read_1 : decode cX12_read 1 = .ok (.iload_n 2, 1) := by decide +kernel
theorem dX12_read_2 : decode cX12_read 2 = .ok (.putfield 233, 3) := by decide +kernel
theorem dX12_read_5 : decode cX12_read 5 = .ok (.aload_n 0, 1) := by decide +kernel
theorem dX12_read_6 : decode cX12_read 6 = .ok (.iload_n 3, 1) := by decide +kernel
theorem dX12_read_7 : decode cX12_read 7 = .ok (.putfield 228, 3) := by decide +kernel
theorem dX12_read_10 : decode cX12_read 10 = .ok (.aload_n 0, 1) := by decide +kernel
theorem dX12_read_11 : decode cX12_read 11 = .ok (.iload 4, 2) := by decide +kernel
theorem dX12_read_13 : decode cX12_read 13 = .ok (.putfield 242, 3) := by decide +kernel
theorem dX12_read_16 : decode cX12_read 16 = .ok (.aload_n 0, 1) := by decide +kernel
theorem dX12_read_17 : decode cX12_read 17 = .ok (.sipush 160, 3) := by decide +kernel
theorem dX12_read_20 : decode cX12_read 20 = .ok (.iload_n 1, 1) := by decide +kernel
theorem dX12_read_21 : decode cX12_read 21 = .ok (.imul, 1) := by decide +kernel
theorem dX12_read_22 : decode cX12_read 22 = .ok (.putfield 170, 3) := by decide +kernel
theorem dX12_read_25 : decode cX12_read 25 = .ok (.aload_n 0, 1) := by decide +kernel
theorem dX12_read_26 : decode cX12_read 26 = .ok (.aload_n 0, 1) := by decide +kernel
theorem dX12_read_27 : decode cX12_read 27 = .ok (.getfield 17, 3) := by decide +kernel
theorem dX12_read_30 : decode cX12_read 30 = .ok (.iload_n 1, 1) := by decide +kernel
theorem dX12_read_31 : decode cX12_read 31 = .ok (.iaload, 1) := by decide +kernel
theorem dX12_read_32 : decode cX12_read 32 = .ok (.putfield 167, 3) := by decide +kernel
theorem dX12_read_35 : decode cX12_read 35 = .ok (.aload_n 0, 1) := by decide +kernel
theorem dX12_read_36 : decode cX12_read 36 = .ok (.iconst 0, 1) := by decide +kernel
theorem dX12_read_37 : decode cX12_read 37 = .ok (.putfield 173, 3) := by decide +kernel
theorem dX12_read_40 : decode cX12_read 40 = .ok (.aload_n 0, 1) := by decide +kernel
theorem dX12_read_41 : decode cX12_read 41 = .ok (.iconst 0, 1) := by decide +kernel
theorem dX12_read_42 : decode cX12_read 42 = .ok (.putfield 213, 3) := by decide +kernel
theorem dX12_read_45 : decode cX12_read 45 = .ok (.aload_n 0, 1) := by decide +kernel
theorem dX12_read_46 : decode cX12_read 46 = .ok (.iconst 0, 1) := by decide +kernel
theorem dX12_read_47 : decode cX12_read 47 = .ok (.putfield 206, 3) := by decide +kernel
theorem dX12_read_50 : decode cX12_read 50 = .ok (.aload_n 0, 1) := by decide +kernel
theorem dX12_read_51 : decode cX12_read 51 = .ok (.invokevirtual 219, 3) := by decide +kernel
theorem dX12_read_54 : decode cX12_read 54 = .ok (.aload_n 0, 1) := by decide +kernel
theorem dX12_read_55 : decode cX12_read 55 = .ok (.ldc2_w 289, 3) := by decide +kernel
theorem dX12_read_58 : decode cX12_read 58 = .ok (.invokevirtual 291, 3) := by decide +kernel
theorem dX12_read_61 : decode cX12_read 61 = .ok (.istore 6, 2) := by decide +kernel
theorem dX12_read_63 : decode cX12_read 63 = .ok (.aload_n 0, 1) := by decide +kernel
theorem dX12_read_64 : decode cX12_read 64 = .ok (.getfield 206, 3) := by decide +kernel
theorem dX12_read_67 : decode cX12_read 67 = .ok (.ifCond .eq 7, 3) := by decide +kernel
theorem dX12_read_70 : decode cX12_read 70 = .ok (.iconst 0, 1) := by decide +kernel
theorem dX12_read_71 : decode cX12_read 71 = .ok (.goto 10, 3) := by decide +kernel
theorem dX12_read_74 : decode cX12_read 74 = .ok (.aload_n 0, 1) := by decide +kernel
theorem dX12_read_75 : decode cX12_read 75 = .ok (.ldc2_w 295, 3) := by decide +kernel
theorem dX12_read_78 : decode cX12_read 78 = .ok (.invokevirtual 291, 3) := by decide +kernel
theorem dX12_read_81 : decode cX12_read 81 = .ok (.istore 7, 2) := by decide +kernel
theorem dX12_read_83 : decode cX12_read 83 = .ok (.aload_n 0, 1) := by decide +kernel
theorem dX12_read_84 : decode cX12_read 84 = .ok (.getfield 206, 3) := by decide +kernel
theorem dX12_read_87 : decode cX12_read 87 = .ok (.ifCond .eq 7, 3) := by decide +kernel
theorem dX12_read_90 : decode cX12_read 90 = .ok (.iconst 0, 1) := by decide +kernel
theorem dX12_read_91 : decode cX12_read 91 = .ok (.goto 10, 3) := by decide +kernel
theorem dX12_read_94 : decode cX12_read 94 = .ok (.aload_n 0, 1) := by decide +kernel
theorem dX12_read_95 : decode cX12_read 95 = .ok (.ldc2_w 297, 3) := by decide +kernel
theorem dX12_read_98 : decode cX12_read 98 = .ok (.invokevirtual 291, 3) := by decide +kernel
theorem dX12_read_101 : decode cX12_read 101 = .ok (.istore 8, 2) := by decide +kernel
theorem dX12_read_103 : decode cX12_read 103 = .ok (.aload_n 0, 1) := by decide +kernel
theorem dX12_read_104 : decode cX12_read 104 = .ok (.getfield 206, 3) := by decide +kernel
theorem dX12_read_107 : decode cX12_read 107 = .ok (.ifCond .ne 14, 3) := by decide +kernel
theorem dX12_read_110 : decode cX12_read 110 = .ok (.aload_n 0, 1) := by decide +kernel
theorem dX12_read_111 : decode cX12_read 111 = .ok (.getfield 183, 3) := by decide +kernel
theorem dX12_read_114 : decode cX12_read 114 = .ok (.ifCond .eq 7, 3) := by decide +kernel
theorem dX12_read_117 : decode cX12_read 117 = .ok (.aload_n 0, 1) := by decide +kernel
theorem dX12_read_118 : decode cX12_read 118 = .ok (.invokevirtual 216, 3) := by decide +kernel
theorem dX12_read_121 : decode cX12_read 121 = .ok (.iload 5, 2) := by decide +kernel
theorem dX12_read_123 : decode cX12_read 123 = .ok (.ifCond .ne 8, 3) := by decide +kernel
theorem dX12_read_126 : decode cX12_read 126 = .ok (.iload 6, 2) := by decide +kernel
theorem dX12_read_128 : decode cX12_read 128 = .ok (.goto 16, 3) := by decide +kernel
theorem dX12_read_131 : decode cX12_read 131 = .ok (.iload 5, 2) := by decide +kernel
theorem dX12_read_133 : decode cX12_read 133 = .ok (.iconst 1, 1) := by decide +kernel
theorem dX12_read_134 : decode cX12_read 134 = .ok (.if_icmp .ne 8, 3) := by decide +kernel
theorem dX12_read_137 : decode cX12_read 137 = .ok (.iload 7, 2) := by decide +kernel
theorem dX12_read_139 : decode cX12_read 139 = .ok (.goto 5, 3) := by decide +kernel
theorem dX12_read_142 : decode cX12_read 142 = .ok (.iload 8, 2) := by decide +kernel
theorem dX12_read_144 : decode cX12_read 144 = .ok (.ireturn, 1) := by decide +kernel
theorem dX12_text_0 : decode cX12_text 0 = .ok (.aload_n 0, 1) := by decide +kernel
theorem dX12_text_1 : decode cX12_text 1 = .ok (.getfield 130, 3) := by decide +kernel
theorem dX12_text_4 : decode cX12_text 4 = .ok (.bipush 6, 2) := by decide +kernel
theorem dX12_text_6 : decode cX12_text 6 = .ok (.if_icmp .ne 6, 3) := by decide +kernel
theorem dX12_text_9 : decode cX12_text 9 = .ok (.bipush (-4), 2) := by decide +kernel
theorem dX12_text_11 : decode cX12_text 11 = .ok (.ireturn, 1) := by decide +kernel
theorem dX12_text_12 : decode cX12_text 12 = .ok (.iconst 0, 1) := by decide +kernel
theorem dX12_text_13 : decode cX12_text 13 = .ok (.istore_n 1, 1) := by decide +kernel
theorem dX12_text_14 : decode cX12_text 14 = .ok (.iload_n 1, 1) := by decide +kernel
theorem dX12_text_15 : decode cX12_text 15 = .ok (.aload_n 0, 1) := by decide +kernel
theorem dX12_text_16 : decode cX12_text 16 = .ok (.getfield 164, 3) := by decide +kernel
theorem dX12_text_19 : decode cX12_text 19 = .ok (.if_icmp .ge 30, 3) := by decide +kernel
theorem dX12_text_22 : decode cX12_text 22 = .ok (.aload_n 0, 1) := by decide +kernel
theorem dX12_text_23 : decode cX12_text 23 = .ok (.getfield 13, 3) := by decide +kernel
theorem dX12_text_26 : decode cX12_text 26 = .ok (.sipush 160, 3) := by decide +kernel
theorem dX12_text_29 : decode cX12_text 29 = .ok (.aload_n 0, 1) := by decide +kernel
theorem dX12_text_30 : decode cX12_text 30 = .ok (.getfield 130, 3) := by decide +kernel
theorem dX12_text_33 : decode cX12_text 33 = .ok (.imul, 1) := by decide +kernel
theorem dX12_text_34 : decode cX12_text 34 = .ok (.iload_n 1, 1) := by decide +kernel
theorem dX12_text_35 : decode cX12_text 35 = .ok (.iadd, 1) := by decide +kernel
theorem dX12_text_36 : decode cX12_text 36 = .ok (.aload_n 0, 1) := by decide +kernel
theorem dX12_text_37 : decode cX12_text 37 = .ok (.getfield 20, 3) := by decide +kernel
theorem dX12_text_40 : decode cX12_text 40 = .ok (.iload_n 1, 1) := by decide +kernel
theorem dX12_text_41 : decode cX12_text 41 = .ok (.iaload, 1) := by decide +kernel
theorem dX12_text_42 : decode cX12_text 42 = .ok (.iastore, 1) := by decide +kernel
theorem dX12_text_43 : decode cX12_text 43 = .ok (.iinc 1 1, 3) := by decide +kernel
theorem dX12_text_46 : decode cX12_text 46 = .ok (.goto (-32), 3) := by decide +kernel
theorem dX12_text_49 : decode cX12_text 49 = .ok (.aload_n 0, 1) := by decide +kernel
theorem dX12_text_50 : decode cX12_text 50 = .ok (.getfield 17, 3) := by decide +kernel
theorem dX12_text_53 : decode cX12_text 53 = .ok (.aload_n 0, 1) := by decide +kernel
theorem dX12_text_54 : decode cX12_text 54 = .ok (.getfield 130, 3) := by decide +kernel
theorem dX12_text_57 : decode cX12_text 57 = .ok (.aload_n 0, 1) := by decide +kernel
theorem dX12_text_58 : decode cX12_text 58 = .ok (.getfield 164, 3) := by decide +kernel
theorem dX12_text_61 : decode cX12_text 61 = .ok (.iastore, 1) := by decide +kernel
theorem dX12_text_62 : decode cX12_text 62 = .ok (.aload_n 0, 1) := by decide +kernel
theorem dX12_text_63 : decode cX12_text 63 = .ok (.iconst 0, 1) := by decide +kernel
theorem dX12_text_64 : decode cX12_text 64 = .ok (.putfield 164, 3) := by decide +kernel
theorem dX12_text_67 : decode cX12_text 67 = .ok (.aload_n 0, 1) := by decide +kernel
theorem dX12_text_68 : decode cX12_text 68 = .ok (.aload_n 0, 1) := by decide +kernel
theorem dX12_text_69 : decode cX12_text 69 = .ok (.getfield 130, 3) := by decide +kernel
theorem dX12_text_72 : decode cX12_text 72 = .ok (.iconst 0, 1) := by decide +kernel
theorem dX12_text_73 : decode cX12_text 73 = .ok (.iconst 0, 1) := by decide +kernel
theorem dX12_text_74 : decode cX12_text 74 = .ok (.iconst 0, 1) := by decide +kernel
theorem dX12_text_75 : decode cX12_text 75 = .ok (.iconst 0, 1) := by decide +kernel
theorem dX12_text_76 : decode cX12_text 76 = .ok (.invokevirtual 299, 3) := by decide +kernel
theorem dX12_text_79 : decode cX12_text 79 = .ok (.istore_n 1, 1) := by decide +kernel
theorem dX12_text_80 : decode cX12_text 80 = .ok (.aload_n 0, 1) := by decide +kernel
theorem dX12_text_81 : decode cX12_text 81 = .ok (.getfield 206, 3) := by decide +kernel
theorem dX12_text_84 : decode cX12_text 84 = .ok (.ifCond .eq 11, 3) := by decide +kernel
theorem dX12_text_87 : decode cX12_text 87 = .ok (.bipush (-100), 2) := by decide +kernel
theorem dX12_text_89 : decode cX12_text 89 = .ok (.aload_n 0, 1) := by decide +kernel
theorem dX12_text_90 : decode cX12_text 90 = .ok (.getfield 210, 3) := by decide +kernel
theorem dX12_text_93 : decode cX12_text 93 = .ok (.isub, 1) := by decide +kernel
theorem dX12_text_94 : decode cX12_text 94 = .ok (.ireturn, 1) := by decide +kernel
theorem dX12_text_95 : decode cX12_text 95 = .ok (.aload_n 0, 1) := by decide +kernel
theorem dX12_text_96 : decode cX12_text 96 = .ok (.dup, 1) := by decide +kernel
theorem dX12_text_97 : decode cX12_text 97 = .ok (.getfield 130, 3) := by decide +kernel
theorem dX12_text_100 : decode cX12_text 100 = .ok (.iconst 1, 1) := by decide +kernel
theorem dX12_text_101 : decode cX12_text 101 = .ok (.iadd, 1) := by decide +kernel
theorem dX12_text_102 : decode cX12_text 102 = .ok (.putfield 130, 3) := by decide +kernel
theorem dX12_text_105 : decode cX12_text 105 = .ok (.aload_n 0, 1) := by decide +kernel
theorem dX12_text_106 : decode cX12_text 106 = .ok (.getfield 130, 3) := by decide +kernel
theorem dX12_text_109 : decode cX12_text 109 = .ok (.iconst 1, 1) := by decide +kernel
theorem dX12_text_110 : decode cX12_text 110 = .ok (.isub, 1) := by decide +kernel
theorem dX12_text_111 : decode cX12_text 111 = .ok (.ireturn, 1) := by decide +kernel
theorem dX12_force_0 : decode cX12_force 0 = .ok (.iload_n 1, 1) := by decide +kernel
theorem dX12_force_1 : decode cX12_force 1 = .ok (.i2l, 1) := by decide +kernel
theorem dX12_force_2 : decode cX12_force 2 = .ok (.lconst 0, 1) := by decide +kernel
theorem dX12_force_3 : decode cX12_force 3 = .ok (.aload_n 0, 1) := by decide +kernel
theorem dX12_force_4 : decode cX12_force 4 = .ok (.getfield 130, 3) := by decide +kernel
theorem dX12_force_7 : decode cX12_force 7 = .ok (.iconst 1, 1) := by decide +kernel
theorem dX12_force_8 : decode cX12_force 8 = .ok (.isub, 1) := by decide +kernel
theorem dX12_force_9 : decode cX12_force 9 = .ok (.i2l, 1) := by decide +kernel
theorem dX12_force_10 : decode cX12_force 10 = .ok (.invokestatic 138, 3) := by decide +kernel
theorem dX12_force_13 : decode cX12_force 13 = .ok (.ifCond .ne 6, 3) := by decide +kernel
theorem dX12_force_16 : decode cX12_force 16 = .ok (.bipush (-2), 2) := by decide +kernel
theorem dX12_force_18 : decode cX12_force 18 = .ok (.ireturn, 1) := by decide +kernel
theorem dX12_force_19 : decode cX12_force 19 = .ok (.aload_n 0, 1) := by decide +kernel
theorem dX12_force_20 : decode cX12_force 20 = .ok (.getfield 303, 3) := by decide +kernel
theorem dX12_force_23 : decode cX12_force 23 = .ok (.istore_n 2, 1) := by decide +kernel
theorem dX12_force_24 : decode cX12_force 24 = .ok (.aload_n 0, 1) := by decide +kernel
theorem dX12_force_25 : decode cX12_force 25 = .ok (.iload_n 1, 1) := by decide +kernel
theorem dX12_force_26 : decode cX12_force 26 = .ok (.putfield 303, 3) := by decide +kernel
theorem dX12_force_29 : decode cX12_force 29 = .ok (.iload_n 2, 1) := by decide +kernel
theorem dX12_force_30 : decode cX12_force 30 = .ok (.ireturn, 1) := by decide +kernel
theorem dX12_says_0 : decode cX12_says 0 = .ok (.aload_n 0, 1) := by decide +kernel
theorem dX12_says_1 : decode cX12_says 1 = .ok (.iload_n 1, 1) := by decide +kernel
theorem dX12_says_2 : decode cX12_says 2 = .ok (.invokevirtual 154, 3) := by decide +kernel
theorem dX12_says_5 : decode cX12_says 5 = .ok (.ifCond .eq 52, 3) := by decide +kernel
theorem dX12_says_8 : decode cX12_says 8 = .ok (.iload_n 2, 1) := by decide +kernel
theorem dX12_says_9 : decode cX12_says 9 = .ok (.i2l, 1) := by decide +kernel
theorem dX12_says_10 : decode cX12_says 10 = .ok (.lconst 0, 1) := by decide +kernel
theorem dX12_says_11 : decode cX12_says 11 = .ok (.ldc2_w 146, 3) := by decide +kernel
theorem dX12_says_14 : decode cX12_says 14 = .ok (.invokestatic 138, 3) := by decide +kernel
theorem dX12_says_17 : decode cX12_says 17 = .ok (.ifCond .eq 40, 3) := by decide +kernel
theorem dX12_says_20 : decode cX12_says 20 = .ok (.iload_n 3, 1) := by decide +kernel
theorem dX12_says_21 : decode cX12_says 21 = .ok (.invokestatic 306, 3) := by decide +kernel
theorem dX12_says_24 : decode cX12_says 24 = .ok (.ifCond .eq 33, 3) := by decide +kernel
theorem dX12_says_27 : decode cX12_says 27 = .ok (.iload 4, 2) := by decide +kernel
theorem dX12_says_29 : decode cX12_says 29 = .ok (.i2l, 1) := by decide +kernel
theorem dX12_says_30 : decode cX12_says 30 = .ok (.lconst 0, 1) := by decide +kernel
theorem dX12_says_31 : decode cX12_says 31 = .ok (.ldc2_w 309, 3) := by decide +kernel
theorem dX12_says_34 : decode cX12_says 34 = .ok (.invokestatic 138, 3) := by decide +kernel
theorem dX12_says_37 : decode cX12_says 37 = .ok (.ifCond .eq 20, 3) := by decide +kernel
theorem dX12_says_40 : decode cX12_says 40 = .ok (.aload_n 0, 1) := by decide +kernel
theorem dX12_says_41 : decode cX12_says 41 = .ok (.aload_n 0, 1) := by decide +kernel
theorem dX12_says_42 : decode cX12_says 42 = .ok (.getfield 303, 3) := by decide +kernel
theorem dX12_says_45 : decode cX12_says 45 = .ok (.iload_n 1, 1) := by decide +kernel
theorem dX12_says_46 : decode cX12_says 46 = .ok (.iload_n 2, 1) := by decide +kernel
theorem dX12_says_47 : decode cX12_says 47 = .ok (.iload_n 3, 1) := by decide +kernel
theorem dX12_says_48 : decode cX12_says 48 = .ok (.iload 4, 2) := by decide +kernel
theorem dX12_says_50 : decode cX12_says 50 = .ok (.invokevirtual 299, 3) := by decide +kernel
theorem dX12_says_53 : decode cX12_says 53 = .ok (.i2l, 1) := by decide +kernel
theorem dX12_says_54 : decode cX12_says 54 = .ok (.goto 6, 3) := by decide +kernel
theorem dX12_says_57 : decode cX12_says 57 = .ok (.ldc2_w 311, 3) := by decide +kernel
theorem dX12_says_60 : decode cX12_says 60 = .ok (.lreturn, 1) := by decide +kernel
theorem dX12_width_0 : decode cX12_width 0 = .ok (.iload_n 1, 1) := by decide +kernel
theorem dX12_width_1 : decode cX12_width 1 = .ok (.invokestatic 313, 3) := by decide +kernel
theorem dX12_width_4 : decode cX12_width 4 = .ok (.ifCond .ne 6, 3) := by decide +kernel
theorem dX12_width_7 : decode cX12_width 7 = .ok (.bipush (-2), 2) := by decide +kernel
theorem dX12_width_9 : decode cX12_width 9 = .ok (.ireturn, 1) := by decide +kernel
theorem dX12_width_10 : decode cX12_width 10 = .ok (.aload_n 0, 1) := by decide +kernel
theorem dX12_width_11 : decode cX12_width 11 = .ok (.getfield 247, 3) := by decide +kernel
theorem dX12_width_14 : decode cX12_width 14 = .ok (.istore_n 2, 1) := by decide +kernel
theorem dX12_width_15 : decode cX12_width 15 = .ok (.aload_n 0, 1) := by decide +kernel
theorem dX12_width_16 : decode cX12_width 16 = .ok (.iload_n 1, 1) := by decide +kernel
theorem dX12_width_17 : decode cX12_width 17 = .ok (.putfield 247, 3) := by decide +kernel
theorem dX12_width_20 : decode cX12_width 20 = .ok (.iload_n 2, 1) := by decide +kernel
theorem dX12_width_21 : decode cX12_width 21 = .ok (.ireturn, 1) := by decide +kernel
theorem dX12_whereOf_0 : decode cX12_whereOf 0 = .ok (.aload_n 0, 1) := by decide +kernel
theorem dX12_whereOf_1 : decode cX12_whereOf 1 = .ok (.getfield 26, 3) := by decide +kernel
theorem dX12_whereOf_4 : decode cX12_whereOf 4 = .ok (.iload_n 1, 1) := by decide +kernel
theorem dX12_whereOf_5 : decode cX12_whereOf 5 = .ok (.iaload, 1) := by decide +kernel
theorem dX12_whereOf_6 : decode cX12_whereOf 6 = .ok (.aload_n 0, 1) := by decide +kernel
theorem dX12_whereOf_7 : decode cX12_whereOf 7 = .ok (.getfield 316, 3) := by decide +kernel
theorem dX12_whereOf_10 : decode cX12_whereOf 10 = .ok (.ifCond .eq 23, 3) := by decide +kernel
theorem dX12_whereOf_13 : decode cX12_whereOf 13 = .ok (.aload_n 0, 1) := by decide +kernel
theorem dX12_whereOf_14 : decode cX12_whereOf 14 = .ok (.getfield 23, 3) := by decide +kernel
theorem dX12_whereOf_17 : decode cX12_whereOf 17 = .ok (.iload_n 1, 1) := by decide +kernel
theorem dX12_whereOf_18 : decode cX12_whereOf 18 = .ok (.iaload, 1) := by decide +kernel
theorem dX12_whereOf_19 : decode cX12_whereOf 19 = .ok (.aload_n 0, 1) := by decide +kernel
theorem dX12_whereOf_20 : decode cX12_whereOf 20 = .ok (.getfield 319, 3) := by decide +kernel
theorem dX12_whereOf_23 : decode cX12_whereOf 23 = .ok (.if_icmp .ne 10, 3) := by decide +kernel
theorem dX12_whereOf_26 : decode cX12_whereOf 26 = .ok (.aload_n 0, 1) := by decide +kernel
theorem dX12_whereOf_27 : decode cX12_whereOf 27 = .ok (.getfield 316, 3) := by decide +kernel
theorem dX12_whereOf_30 : decode cX12_whereOf 30 = .ok (.goto 4, 3) := by decide +kernel
theorem dX12_whereOf_33 : decode cX12_whereOf 33 = .ok (.iconst 0, 1) := by decide +kernel
theorem dX12_whereOf_34 : decode cX12_whereOf 34 = .ok (.isub, 1) := by decide +kernel
theorem dX12_whereOf_35 : decode cX12_whereOf 35 = .ok (.iload_n 2, 1) := by decide +kernel
theorem dX12_whereOf_36 : decode cX12_whereOf 36 = .ok (.aload_n 0, 1) := by decide +kernel
theorem dX12_whereOf_37 : decode cX12_whereOf 37 = .ok (.getfield 29, 3) := by decide +kernel
theorem dX12_whereOf_40 : decode cX12_whereOf 40 = .ok (.iload_n 1, 1) := by decide +kernel
theorem dX12_whereOf_41 : decode cX12_whereOf 41 = .ok (.iaload, 1) := by decide +kernel
theorem dX12_whereOf_42 : decode cX12_whereOf 42 = .ok (.imul, 1) := by decide +kernel
theorem dX12_whereOf_43 : decode cX12_whereOf 43 = .ok (.iadd, 1) := by decide +kernel
theorem dX12_whereOf_44 : decode cX12_whereOf 44 = .ok (.ireturn, 1) := by decide +kernel
theorem dX12_foremost_0 : decode cX12_foremost 0 = .ok (.iconst 3, 1) := by decide +kernel
theorem dX12_foremost_1 : decode cX12_foremost 1 = .ok (.istore_n 3, 1) := by decide +kernel
theorem dX12_foremost_2 : decode cX12_foremost 2 = .ok (.aload_n 0, 1) := by decide +kernel
theorem dX12_foremost_3 : decode cX12_foremost 3 = .ok (.iconst 0, 1) := by decide +kernel
theorem dX12_foremost_4 : decode cX12_foremost 4 = .ok (.putfield 322, 3) := by decide +kernel
theorem dX12_foremost_7 : decode cX12_foremost 7 = .ok (.iconst 0, 1) := by decide +kernel
theorem dX12_foremost_8 : decode cX12_foremost 8 = .ok (.istore 4, 2) := by decide +kernel
theorem dX12_foremost_10 : decode cX12_foremost 10 = .ok (.iload 4, 2) := by decide +kernel
theorem dX12_foremost_12 : decode cX12_foremost 12 = .ok (.iconst 4, 1) := by decide +kernel
theorem dX12_foremost_13 : decode cX12_foremost 13 = .ok (.if_icmp .ge 67, 3) := by decide +kernel
theorem dX12_foremost_16 : decode cX12_foremost 16 = .ok (.aload_n 0, 1) := by decide +kernel
theorem dX12_foremost_17 : decode cX12_foremost 17 = .ok (.aload_n 0, 1) := by decide +kernel
theorem dX12_foremost_18 : decode cX12_foremost 18 = .ok (.getfield 303, 3) := by decide +kernel
theorem dX12_foremost_21 : decode cX12_foremost 21 = .ok (.iload_n 1, 1) := by decide +kernel
theorem dX12_foremost_22 : decode cX12_foremost 22 = .ok (.iload 4, 2) := by decide +kernel
theorem dX12_foremost_24 : decode cX12_foremost 24 = .ok (.iload_n 2, 1) := by decide +kernel
theorem dX12_foremost_25 : decode cX12_foremost 25 = .ok (.iconst 0, 1) := by decide +kernel
theorem dX12_foremost_26 : decode cX12_foremost 26 = .ok (.invokevirtual 299, 3) := by decide +kernel
theorem dX12_foremost_29 : decode cX12_foremost 29 = .ok (.ifCond .ne 6, 3) := by decide +kernel
theorem dX12_foremost_32 : decode cX12_foremost 32 = .ok (.goto 42, 3) := by decide +kernel
theorem dX12_foremost_35 : decode cX12_foremost 35 = .ok (.aload_n 0, 1) := by decide +kernel
theorem dX12_foremost_36 : decode cX12_foremost 36 = .ok (.getfield 322, 3) := by decide +kernel
theorem dX12_foremost_39 : decode cX12_foremost 39 = .ok (.ifCond .eq 27, 3) := by decide +kernel
theorem dX12_foremost_42 : decode cX12_foremost 42 = .ok (.aload_n 0, 1) := by decide +kernel
theorem dX12_foremost_43 : decode cX12_foremost 43 = .ok (.getfield 32, 3) := by decide +kernel
theorem dX12_foremost_46 : decode cX12_foremost 46 = .ok (.iconst 4, 1) := by decide +kernel
theorem dX12_foremost_47 : decode cX12_foremost 47 = .ok (.iload_n 1, 1) := by decide +kernel
theorem dX12_foremost_48 : decode cX12_foremost 48 = .ok (.imul, 1) := by decide +kernel
theorem dX12_foremost_49 : decode cX12_foremost 49 = .ok (.iload 4, 2) := by decide +kernel
theorem dX12_foremost_51 : decode cX12_foremost 51 = .ok (.iadd, 1) := by decide +kernel
theorem dX12_foremost_52 : decode cX12_foremost 52 = .ok (.iaload, 1) := by decide +kernel
theorem dX12_foremost_53 : decode cX12_foremost 53 = .ok (.aload_n 0, 1) := by decide +kernel
theorem dX12_foremost_54 : decode cX12_foremost 54 = .ok (.getfield 32, 3) := by decide +kernel
theorem dX12_foremost_57 : decode cX12_foremost 57 = .ok (.iconst 4, 1) := by decide +kernel
theorem dX12_foremost_58 : decode cX12_foremost 58 = .ok (.iload_n 1, 1) := by decide +kernel
theorem dX12_foremost_59 : decode cX12_foremost 59 = .ok (.imul, 1) := by decide +kernel
theorem dX12_foremost_60 : decode cX12_foremost 60 = .ok (.iload_n 3, 1) := by decide +kernel
theorem dX12_foremost_61 : decode cX12_foremost 61 = .ok (.iadd, 1) := by decide +kernel
theorem dX12_foremost_62 : decode cX12_foremost 62 = .ok (.iaload, 1) := by decide +kernel
theorem dX12_foremost_63 : decode cX12_foremost 63 = .ok (.if_icmp .le 6, 3) := by decide +kernel
theorem dX12_foremost_66 : decode cX12_foremost 66 = .ok (.iload 4, 2) := by decide +kernel
theorem dX12_foremost_68 : decode cX12_foremost 68 = .ok (.istore_n 3, 1) := by decide +kernel
theorem dX12_foremost_69 : decode cX12_foremost 69 = .ok (.aload_n 0, 1) := by decide +kernel
theorem dX12_foremost_70 : decode cX12_foremost 70 = .ok (.iconst 1, 1) := by decide +kernel
theorem dX12_foremost_71 : decode cX12_foremost 71 = .ok (.putfield 322, 3) := by decide +kernel
theorem dX12_foremost_74 : decode cX12_foremost 74 = .ok (.iinc 4 1, 3) := by decide +kernel
theorem dX12_foremost_77 : decode cX12_foremost 77 = .ok (.goto (-67), 3) := by decide +kernel
theorem dX12_foremost_80 : decode cX12_foremost 80 = .ok (.iload_n 3, 1) := by decide +kernel
theorem dX12_foremost_81 : decode cX12_foremost 81 = .ok (.ireturn, 1) := by decide +kernel
theorem dX12_frontOf_0 : decode cX12_frontOf 0 = .ok (.aload_n 0, 1) := by decide +kernel
theorem dX12_frontOf_1 : decode cX12_frontOf 1 = .ok (.iload_n 1, 1) := by decide +kernel
theorem dX12_frontOf_2 : decode cX12_frontOf 2 = .ok (.iload_n 2, 1) := by decide +kernel
theorem dX12_frontOf_3 : decode cX12_frontOf 3 = .ok (.invokevirtual 325, 3) := by decide +kernel
theorem dX12_frontOf_6 : decode cX12_frontOf 6 = .ok (.istore_n 3, 1) := by decide +kernel
theorem dX12_frontOf_7 : decode cX12_frontOf 7 = .ok (.aload_n 0, 1) := by decide +kernel
theorem dX12_frontOf_8 : decode cX12_frontOf 8 = .ok (.iload_n 1, 1) := by decide +kernel
theorem dX12_frontOf_9 : decode cX12_frontOf 9 = .ok (.iload_n 2, 1) := by decide +kernel
theorem dX12_frontOf_10 : decode cX12_frontOf 10 = .ok (.invokevirtual 329, 3) := by decide +kernel
theorem dX12_frontOf_13 : decode cX12_frontOf 13 = .ok (.aload_n 0, 1) := by decide +kernel
theorem dX12_frontOf_14 : decode cX12_frontOf 14 = .ok (.getfield 322, 3) := by decide +kernel
theorem dX12_frontOf_17 : decode cX12_frontOf 17 = .ok (.ifCond .eq 16, 3) := by decide +kernel
theorem dX12_frontOf_20 : decode cX12_frontOf 20 = .ok (.aload_n 0, 1) := by decide +kernel
theorem dX12_frontOf_21 : decode cX12_frontOf 21 = .ok (.getfield 32, 3) := by decide +kernel
theorem dX12_frontOf_24 : decode cX12_frontOf 24 = .ok (.iconst 4, 1) := by decide +kernel
theorem dX12_frontOf_25 : decode cX12_frontOf 25 = .ok (.iload_n 1, 1) := by decide +kernel
theorem dX12_frontOf_26 : decode cX12_frontOf 26 = .ok (.imul, 1) := by decide +kernel
theorem dX12_frontOf_27 : decode cX12_frontOf 27 = .ok (.iload_n 3, 1) := by decide +kernel
theorem dX12_frontOf_28 : decode cX12_frontOf 28 = .ok (.iadd, 1) := by decide +kernel
theorem dX12_frontOf_29 : decode cX12_frontOf 29 = .ok (.iaload, 1) := by decide +kernel
theorem dX12_frontOf_30 : decode cX12_frontOf 30 = .ok (.goto 4, 3) := by decide +kernel
theorem dX12_frontOf_33 : decode cX12_frontOf 33 = .ok (.iconst 0, 1) := by decide +kernel
theorem dX12_frontOf_34 : decode cX12_frontOf 34 = .ok (.iadd, 1) := by decide +kernel
theorem dX12_frontOf_35 : decode cX12_frontOf 35 = .ok (.ireturn, 1) := by decide +kernel
theorem dX12_front_0 : decode cX12_front 0 = .ok (.aload_n 0, 1) := by decide +kernel
theorem dX12_front_1 : decode cX12_front 1 = .ok (.iload_n 1, 1) := by decide +kernel
theorem dX12_front_2 : decode cX12_front 2 = .ok (.invokevirtual 154, 3) := by decide +kernel
theorem dX12_front_5 : decode cX12_front 5 = .ok (.ifCond .eq 22, 3) := by decide +kernel
theorem dX12_front_8 : decode cX12_front 8 = .ok (.iload_n 2, 1) := by decide +kernel
theorem dX12_front_9 : decode cX12_front 9 = .ok (.invokestatic 306, 3) := by decide +kernel
theorem dX12_front_12 : decode cX12_front 12 = .ok (.ifCond .eq 15, 3) := by decide +kernel
theorem dX12_front_15 : decode cX12_front 15 = .ok (.iload_n 3, 1) := by decide +kernel
theorem dX12_front_16 : decode cX12_front 16 = .ok (.i2l, 1) := by decide +kernel
theorem dX12_front_17 : decode cX12_front 17 = .ok (.lconst 0, 1) := by decide +kernel
theorem dX12_front_18 : decode cX12_front 18 = .ok (.ldc2_w 309, 3) := by decide +kernel
theorem dX12_front_21 : decode cX12_front 21 = .ok (.invokestatic 138, 3) := by decide +kernel
theorem dX12_front_24 : decode cX12_front 24 = .ok (.ifCond .ne 7, 3) := by decide +kernel
theorem dX12_front_27 : decode cX12_front 27 = .ok (.ldc2_w 311, 3) := by decide +kernel
theorem dX12_front_30 : decode cX12_front 30 = .ok (.lreturn, 1) := by decide +kernel
theorem dX12_front_31 : decode cX12_front 31 = .ok (.iload_n 3, 1) := by decide +kernel
theorem dX12_front_32 : decode cX12_front 32 = .ok (.ifCond .ne 13, 3) := by decide +kernel
theorem dX12_front_35 : decode cX12_front 35 = .ok (.aload_n 0, 1) := by decide +kernel
theorem dX12_front_36 : decode cX12_front 36 = .ok (.iload_n 1, 1) := by decide +kernel
theorem dX12_front_37 : decode cX12_front 37 = .ok (.iload_n 2, 1) := by decide +kernel
theorem dX12_front_38 : decode cX12_front 38 = .ok (.invokevirtual 332, 3) := by decide +kernel
theorem dX12_front_41 : decode cX12_front 41 = .ok (.i2l, 1) := by decide +kernel
theorem dX12_front_42 : decode cX12_front 42 = .ok (.goto 25, 3) := by decide +kernel
theorem dX12_front_45 : decode cX12_front 45 = .ok (.iload_n 3, 1) := by decide +kernel
theorem dX12_front_46 : decode cX12_front 46 = .ok (.iconst 1, 1) := by decide +kernel
theorem dX12_front_47 : decode cX12_front 47 = .ok (.if_icmp .ne 13, 3) := by decide +kernel
theorem dX12_front_50 : decode cX12_front 50 = .ok (.aload_n 0, 1) := by decide +kernel
theorem dX12_front_51 : decode cX12_front 51 = .ok (.iload_n 1, 1) := by decide +kernel
theorem dX12_front_52 : decode cX12_front 52 = .ok (.iload_n 2, 1) := by decide +kernel
theorem dX12_front_53 : decode cX12_front 53 = .ok (.invokevirtual 325, 3) := by decide +kernel
theorem dX12_front_56 : decode cX12_front 56 = .ok (.i2l, 1) := by decide +kernel
theorem dX12_front_57 : decode cX12_front 57 = .ok (.goto 10, 3) := by decide +kernel
theorem dX12_front_60 : decode cX12_front 60 = .ok (.aload_n 0, 1) := by decide +kernel
theorem dX12_front_61 : decode cX12_front 61 = .ok (.iload_n 1, 1) := by decide +kernel
theorem dX12_front_62 : decode cX12_front 62 = .ok (.iload_n 2, 1) := by decide +kernel
theorem dX12_front_63 : decode cX12_front 63 = .ok (.invokevirtual 329, 3) := by decide +kernel
theorem dX12_front_66 : decode cX12_front 66 = .ok (.i2l, 1) := by decide +kernel
theorem dX12_front_67 : decode cX12_front 67 = .ok (.lreturn, 1) := by decide +kernel
theorem dX12_camera_0 : decode cX12_camera 0 = .ok (.iload_n 1, 1) := by decide +kernel
theorem dX12_camera_1 : decode cX12_camera 1 = .ok (.i2l, 1) := by decide +kernel
theorem dX12_camera_2 : decode cX12_camera 2 = .ok (.lconst 1, 1) := by decide +kernel
theorem dX12_camera_3 : decode cX12_camera 3 = .ok (.ldc2_w 335, 3) := by decide +kernel
theorem dX12_camera_6 : decode cX12_camera 6 = .ok (.invokestatic 138, 3) := by decide +kernel
theorem dX12_camera_9 : decode cX12_camera 9 = .ok (.ifCond .eq 29, 3) := by decide +kernel
theorem dX12_camera_12 : decode cX12_camera 12 = .ok (.iload_n 2, 1) := by decide +kernel
theorem dX12_camera_13 : decode cX12_camera 13 = .ok (.i2l, 1) := by decide +kernel
theorem dX12_camera_14 : decode cX12_camera 14 = .ok (.lconst 0, 1) := by decide +kernel
theorem dX12_camera_15 : decode cX12_camera 15 = .ok (.ldc2_w 337, 3) := by decide +kernel
theorem dX12_camera_18 : decode cX12_camera 18 = .ok (.invokestatic 138, 3) := by decide +kernel
theorem dX12_camera_21 : decode cX12_camera 21 = .ok (.ifCond .eq 17, 3) := by decide +kernel
theorem dX12_camera_24 : decode cX12_camera 24 = .ok (.iload_n 3, 1) := by decide +kernel
theorem dX12_camera_25 : decode cX12_camera 25 = .ok (.i2l, 1) := by decide +kernel
theorem dX12_camera_26 : decode cX12_camera 26 = .ok (.ldc2_w 339, 3) := by decide +kernel
theorem dX12_camera_29 : decode cX12_camera 29 = .ok (.ldc2_w 341, 3) := by decide +kernel
theorem dX12_camera_32 : decode cX12_camera 32 = .ok (.invokestatic 138, 3) := by decide +kernel
theorem dX12_camera_35 : decode cX12_camera 35 = .ok (.ifCond .ne 6, 3) := by decide +kernel
theorem dX12_camera_38 : decode cX12_camera 38 = .ok (.bipush (-2), 2) := by decide +kernel
theorem dX12_camera_40 : decode cX12_camera 40 = .ok (.ireturn, 1) := by decide +kernel
theorem dX12_camera_41 : decode cX12_camera 41 = .ok (.aload_n 0, 1) := by decide +kernel
theorem dX12_camera_42 : decode cX12_camera 42 = .ok (.getfield 343, 3) := by decide +kernel
theorem dX12_camera_45 : decode cX12_camera 45 = .ok (.iconst 4, 1) := by decide +kernel
theorem dX12_camera_46 : decode cX12_camera 46 = .ok (.if_icmp .ne 6, 3) := by decide +kernel
theorem dX12_camera_49 : decode cX12_camera 49 = .ok (.bipush (-4), 2) := by decide +kernel
theorem dX12_camera_51 : decode cX12_camera 51 = .ok (.ireturn, 1) := by decide +kernel
theorem dX12_camera_52 : decode cX12_camera 52 = .ok (.aload_n 0, 1) := by decide +kernel
theorem dX12_camera_53 : decode cX12_camera 53 = .ok (.getfield 35, 3) := by decide +kernel
theorem dX12_camera_56 : decode cX12_camera 56 = .ok (.aload_n 0, 1) := by decide +kernel
theorem dX12_camera_57 : decode cX12_camera 57 = .ok (.getfield 343, 3) := by decide +kernel
theorem dX12_camera_60 : decode cX12_camera 60 = .ok (.iload_n 1, 1) := by decide +kernel
theorem dX12_camera_61 : decode cX12_camera 61 = .ok (.iastore, 1) := by decide +kernel
theorem dX12_camera_62 : decode cX12_camera 62 = .ok (.aload_n 0, 1) := by decide +kernel
theorem dX12_camera_63 : decode cX12_camera 63 = .ok (.getfield 38, 3) := by decide +kernel
theorem dX12_camera_66 : decode cX12_camera 66 = .ok (.aload_n 0, 1) := by decide +kernel
theorem dX12_camera_67 : decode cX12_camera 67 = .ok (.getfield 343, 3) := by decide +kernel
theorem dX12_camera_70 : decode cX12_camera 70 = .ok (.iload_n 2, 1) := by decide +kernel
theorem dX12_camera_71 : decode cX12_camera 71 = .ok (.iastore, 1) := by decide +kernel
theorem dX12_camera_72 : decode cX12_camera 72 = .ok (.aload_n 0, 1) := by decide +kernel
theorem dX12_camera_73 : decode cX12_camera 73 = .ok (.getfield 41, 3) := by decide +kernel
theorem dX12_camera_76 : decode cX12_camera 76 = .ok (.aload_n 0, 1) := by decide +kernel
theorem dX12_camera_77 : decode cX12_camera 77 = .ok (.getfield 343, 3) := by decide +kernel
theorem dX12_camera_80 : decode cX12_camera 80 = .ok (.iload_n 3, 1) := by decide +kernel
theorem dX12_camera_81 : decode cX12_camera 81 = .ok (.iastore, 1) := by decide +kernel
theorem dX12_camera_82 : decode cX12_camera 82 = .ok (.aload_n 0, 1) := by decide +kernel
theorem dX12_camera_83 : decode cX12_camera 83 = .ok (.dup, 1) := by decide +kernel
theorem dX12_camera_84 : decode cX12_camera 84 = .ok (.getfield 343, 3) := by decide +kernel
theorem dX12_camera_87 : decode cX12_camera 87 = .ok (.iconst 1, 1) := by decide +kernel
theorem dX12_camera_88 : decode cX12_camera 88 = .ok (.iadd, 1) := by decide +kernel
theorem dX12_camera_89 : decode cX12_camera 89 = .ok (.putfield 343, 3) := by decide +kernel
theorem dX12_camera_92 : decode cX12_camera 92 = .ok (.aload_n 0, 1) := by decide +kernel
theorem dX12_camera_93 : decode cX12_camera 93 = .ok (.getfield 343, 3) := by decide +kernel
theorem dX12_camera_96 : decode cX12_camera 96 = .ok (.iconst 1, 1) := by decide +kernel
theorem dX12_camera_97 : decode cX12_camera 97 = .ok (.isub, 1) := by decide +kernel
theorem dX12_camera_98 : decode cX12_camera 98 = .ok (.ireturn, 1) := by decide +kernel
theorem dX12_frameOf_0 : decode cX12_frameOf 0 = .ok (.iload_n 2, 1) := by decide +kernel
theorem dX12_frameOf_1 : decode cX12_frameOf 1 = .ok (.aload_n 0, 1) := by decide +kernel
theorem dX12_frameOf_2 : decode cX12_frameOf 2 = .ok (.getfield 38, 3) := by decide +kernel
theorem dX12_frameOf_5 : decode cX12_frameOf 5 = .ok (.iload_n 1, 1) := by decide +kernel
theorem dX12_frameOf_6 : decode cX12_frameOf 6 = .ok (.iaload, 1) := by decide +kernel
theorem dX12_frameOf_7 : decode cX12_frameOf 7 = .ok (.if_icmp .ge 12, 3) := by decide +kernel
theorem dX12_frameOf_10 : decode cX12_frameOf 10 = .ok (.aload_n 0, 1) := by decide +kernel
theorem dX12_frameOf_11 : decode cX12_frameOf 11 = .ok (.getfield 38, 3) := by decide +kernel
theorem dX12_frameOf_14 : decode cX12_frameOf 14 = .ok (.iload_n 1, 1) := by decide +kernel
theorem dX12_frameOf_15 : decode cX12_frameOf 15 = .ok (.iaload, 1) := by decide +kernel
theorem dX12_frameOf_16 : decode cX12_frameOf 16 = .ok (.goto 20, 3) := by decide +kernel
theorem dX12_frameOf_19 : decode cX12_frameOf 19 = .ok (.iload_n 2, 1) := by decide +kernel
theorem dX12_frameOf_20 : decode cX12_frameOf 20 = .ok (.iload_n 2, 1) := by decide +kernel
theorem dX12_frameOf_21 : decode cX12_frameOf 21 = .ok (.aload_n 0, 1) := by decide +kernel
theorem dX12_frameOf_22 : decode cX12_frameOf 22 = .ok (.getfield 38, 3) := by decide +kernel
theorem dX12_frameOf_25 : decode cX12_frameOf 25 = .ok (.iload_n 1, 1) := by decide +kernel
theorem dX12_frameOf_26 : decode cX12_frameOf 26 = .ok (.iaload, 1) := by decide +kernel
theorem dX12_frameOf_27 : decode cX12_frameOf 27 = .ok (.isub, 1) := by decide +kernel
theorem dX12_frameOf_28 : decode cX12_frameOf 28 = .ok (.aload_n 0, 1) := by decide +kernel
theorem dX12_frameOf_29 : decode cX12_frameOf 29 = .ok (.getfield 35, 3) := by decide +kernel
theorem dX12_frameOf_32 : decode cX12_frameOf 32 = .ok (.iload_n 1, 1) := by decide +kernel
theorem dX12_frameOf_33 : decode cX12_frameOf 33 = .ok (.iaload, 1) := by decide +kernel
theorem dX12_frameOf_34 : decode cX12_frameOf 34 = .ok (.irem, 1) := by decide +kernel
theorem dX12_frameOf_35 : decode cX12_frameOf 35 = .ok (.isub, 1) := by decide +kernel
theorem dX12_frameOf_36 : decode cX12_frameOf 36 = .ok (.ireturn, 1) := by decide +kernel
theorem dX12_frame_0 : decode cX12_frame 0 = .ok (.iload_n 1, 1) := by decide +kernel
theorem dX12_frame_1 : decode cX12_frame 1 = .ok (.i2l, 1) := by decide +kernel
theorem dX12_frame_2 : decode cX12_frame 2 = .ok (.lconst 0, 1) := by decide +kernel
theorem dX12_frame_3 : decode cX12_frame 3 = .ok (.aload_n 0, 1) := by decide +kernel
theorem dX12_frame_4 : decode cX12_frame 4 = .ok (.getfield 343, 3) := by decide +kernel
theorem dX12_frame_7 : decode cX12_frame 7 = .ok (.iconst 1, 1) := by decide +kernel
theorem dX12_frame_8 : decode cX12_frame 8 = .ok (.isub, 1) := by decide +kernel
theorem dX12_frame_9 : decode cX12_frame 9 = .ok (.i2l, 1) := by decide +kernel
theorem dX12_frame_10 : decode cX12_frame 10 = .ok (.invokestatic 138, 3) := by decide +kernel
theorem dX12_frame_13 : decode cX12_frame 13 = .ok (.ifCond .eq 19, 3) := by decide +kernel
theorem dX12_frame_16 : decode cX12_frame 16 = .ok (.iload_n 2, 1) := by decide +kernel
theorem dX12_frame_17 : decode cX12_frame 17 = .ok (.invokestatic 306, 3) := by decide +kernel
theorem dX12_frame_20 : decode cX12_frame 20 = .ok (.ifCond .eq 12, 3) := by decide +kernel
theorem dX12_frame_23 : decode cX12_frame 23 = .ok (.aload_n 0, 1) := by decide +kernel
theorem dX12_frame_24 : decode cX12_frame 24 = .ok (.iload_n 1, 1) := by decide +kernel
theorem dX12_frame_25 : decode cX12_frame 25 = .ok (.iload_n 2, 1) := by decide +kernel
theorem dX12_frame_26 : decode cX12_frame 26 = .ok (.invokevirtual 346, 3) := by decide +kernel
theorem dX12_frame_29 : decode cX12_frame 29 = .ok (.goto 5, 3) := by decide +kernel
theorem dX12_frame_32 : decode cX12_frame 32 = .ok (.bipush (-2), 2) := by decide +kernel
theorem dX12_frame_34 : decode cX12_frame 34 = .ok (.ireturn, 1) := by decide +kernel
theorem dX12_seen_0 : decode cX12_seen 0 = .ok (.iload_n 2, 1) := by decide +kernel
theorem dX12_seen_1 : decode cX12_seen 1 = .ok (.aload_n 0, 1) := by decide +kernel
theorem dX12_seen_2 : decode cX12_seen 2 = .ok (.getfield 41, 3) := by decide +kernel
theorem dX12_seen_5 : decode cX12_seen 5 = .ok (.iload_n 1, 1) := by decide +kernel
theorem dX12_seen_6 : decode cX12_seen 6 = .ok (.iaload, 1) := by decide +kernel
theorem dX12_seen_7 : decode cX12_seen 7 = .ok (.iload_n 2, 1) := by decide +kernel
theorem dX12_seen_8 : decode cX12_seen 8 = .ok (.imul, 1) := by decide +kernel
theorem dX12_seen_9 : decode cX12_seen 9 = .ok (.sipush 1000, 3) := by decide +kernel
theorem dX12_seen_12 : decode cX12_seen 12 = .ok (.idiv, 1) := by decide +kernel
theorem dX12_seen_13 : decode cX12_seen 13 = .ok (.iadd, 1) := by decide +kernel
theorem dX12_seen_14 : decode cX12_seen 14 = .ok (.ireturn, 1) := by decide +kernel
theorem dX12_sees_0 : decode cX12_sees 0 = .ok (.iload_n 1, 1) := by decide +kernel
theorem dX12_sees_1 : decode cX12_sees 1 = .ok (.i2l, 1) := by decide +kernel
theorem dX12_sees_2 : decode cX12_sees 2 = .ok (.lconst 0, 1) := by decide +kernel
theorem dX12_sees_3 : decode cX12_sees 3 = .ok (.aload_n 0, 1) := by decide +kernel
theorem dX12_sees_4 : decode cX12_sees 4 = .ok (.getfield 343, 3) := by decide +kernel
theorem dX12_sees_7 : decode cX12_sees 7 = .ok (.iconst 1, 1) := by decide +kernel
theorem dX12_sees_8 : decode cX12_sees 8 = .ok (.isub, 1) := by decide +kernel
theorem dX12_sees_9 : decode cX12_sees 9 = .ok (.i2l, 1) := by decide +kernel
theorem dX12_sees_10 : decode cX12_sees 10 = .ok (.invokestatic 138, 3) := by decide +kernel
theorem dX12_sees_13 : decode cX12_sees 13 = .ok (.ifCond .eq 27, 3) := by decide +kernel
theorem dX12_sees_16 : decode cX12_sees 16 = .ok (.iload_n 2, 1) := by decide +kernel
theorem dX12_sees_17 : decode cX12_sees 17 = .ok (.i2l, 1) := by decide +kernel
theorem dX12_sees_18 : decode cX12_sees 18 = .ok (.ldc2_w 349, 3) := by decide +kernel
theorem dX12_sees_21 : decode cX12_sees 21 = .ok (.ldc2_w 351, 3) := by decide +kernel
theorem dX12_sees_24 : decode cX12_sees 24 = .ok (.invokestatic 138, 3) := by decide +kernel
theorem dX12_sees_27 : decode cX12_sees 27 = .ok (.ifCond .eq 13, 3) := by decide +kernel
theorem dX12_sees_30 : decode cX12_sees 30 = .ok (.aload_n 0, 1) := by decide +kernel
theorem dX12_sees_31 : decode cX12_sees 31 = .ok (.iload_n 1, 1) := by decide +kernel
theorem dX12_sees_32 : decode cX12_sees 32 = .ok (.iload_n 2, 1) := by decide +kernel
theorem dX12_sees_33 : decode cX12_sees 33 = .ok (.invokevirtual 353, 3) := by decide +kernel
theorem dX12_sees_36 : decode cX12_sees 36 = .ok (.i2l, 1) := by decide +kernel
theorem dX12_sees_37 : decode cX12_sees 37 = .ok (.goto 6, 3) := by decide +kernel
theorem dX12_sees_40 : decode cX12_sees 40 = .ok (.ldc2_w 311, 3) := by decide +kernel
theorem dX12_sees_43 : decode cX12_sees 43 = .ok (.lreturn, 1) := by decide +kernel
theorem dX12_crosser_0 : decode cX12_crosser 0 = .ok (.iload_n 1, 1) := by decide +kernel
theorem dX12_crosser_1 : decode cX12_crosser 1 = .ok (.i2l, 1) := by decide +kernel
theorem dX12_crosser_2 : decode cX12_crosser 2 = .ok (.ldc2_w 356, 3) := by decide +kernel
theorem dX12_crosser_5 : decode cX12_crosser 5 = .ok (.ldc2_w 335, 3) := by decide +kernel
theorem dX12_crosser_8 : decode cX12_crosser 8 = .ok (.invokestatic 138, 3) := by decide +kernel
theorem dX12_crosser_11 : decode cX12_crosser 11 = .ok (.ifCond .eq 15, 3) := by decide +kernel
theorem dX12_crosser_14 : decode cX12_crosser 14 = .ok (.iload_n 2, 1) := by decide +kernel
theorem dX12_crosser_15 : decode cX12_crosser 15 = .ok (.i2l, 1) := by decide +kernel
theorem dX12_crosser_16 : decode cX12_crosser 16 = .ok (.lconst 0, 1) := by decide +kernel
theorem dX12_crosser_17 : decode cX12_crosser 17 = .ok (.ldc2_w 341, 3) := by decide +kernel
theorem dX12_crosser_20 : decode cX12_crosser 20 = .ok (.invokestatic 138, 3) := by decide +kernel
theorem dX12_crosser_23 : decode cX12_crosser 23 = .ok (.ifCond .ne 6, 3) := by decide +kernel
theorem dX12_crosser_26 : decode cX12_crosser 26 = .ok (.bipush (-2), 2) := by decide +kernel
theorem dX12_crosser_28 : decode cX12_crosser 28 = .ok (.ireturn, 1) := by decide +kernel
theorem dX12_crosser_29 : decode cX12_crosser 29 = .ok (.aload_n 0, 1) := by decide +kernel
theorem dX12_crosser_30 : decode cX12_crosser 30 = .ok (.getfield 358, 3) := by decide +kernel
theorem dX12_crosser_33 : decode cX12_crosser 33 = .ok (.bipush 6, 2) := by decide +kernel
theorem dX12_crosser_35 : decode cX12_crosser 35 = .ok (.if_icmp .ne 6, 3) := by decide +kernel
theorem dX12_crosser_38 : decode cX12_crosser 38 = .ok (.bipush (-4), 2) := by decide +kernel
theorem dX12_crosser_40 : decode cX12_crosser 40 = .ok (.ireturn, 1) := by decide +kernel
theorem dX12_crosser_41 : decode cX12_crosser 41 = .ok (.aload_n 0, 1) := by decide +kernel
theorem dX12_crosser_42 : decode cX12_crosser 42 = .ok (.getfield 44, 3) := by decide +kernel
theorem dX12_crosser_45 : decode cX12_crosser 45 = .ok (.aload_n 0, 1) := by decide +kernel
theorem dX12_crosser_46 : decode cX12_crosser 46 = .ok (.getfield 358, 3) := by decide +kernel
theorem dX12_crosser_49 : decode cX12_crosser 49 = .ok (.iload_n 1, 1) := by decide +kernel
theorem dX12_crosser_50 : decode cX12_crosser 50 = .ok (.iastore, 1) := by decide +kernel
theorem dX12_crosser_51 : decode cX12_crosser 51 = .ok (.aload_n 0, 1) := by decide +kernel
theorem dX12_crosser_52 : decode cX12_crosser 52 = .ok (.getfield 47, 3) := by decide +kernel
theorem dX12_crosser_55 : decode cX12_crosser 55 = .ok (.aload_n 0, 1) := by decide +kernel
theorem dX12_crosser_56 : decode cX12_crosser 56 = .ok (.getfield 358, 3) := by decide +kernel
theorem dX12_crosser_59 : decode cX12_crosser 59 = .ok (.iload_n 2, 1) := by decide +kernel
theorem dX12_crosser_60 : decode cX12_crosser 60 = .ok (.iastore, 1) := by decide +kernel
theorem dX12_crosser_61 : decode cX12_crosser 61 = .ok (.aload_n 0, 1) := by decide +kernel
theorem dX12_crosser_62 : decode cX12_crosser 62 = .ok (.dup, 1) := by decide +kernel
theorem dX12_crosser_63 : decode cX12_crosser 63 = .ok (.getfield 358, 3) := by decide +kernel
theorem dX12_crosser_66 : decode cX12_crosser 66 = .ok (.iconst 1, 1) := by decide +kernel
theorem dX12_crosser_67 : decode cX12_crosser 67 = .ok (.iadd, 1) := by decide +kernel
theorem dX12_crosser_68 : decode cX12_crosser 68 = .ok (.putfield 358, 3) := by decide +kernel
theorem dX12_crosser_71 : decode cX12_crosser 71 = .ok (.aload_n 0, 1) := by decide +kernel
theorem dX12_crosser_72 : decode cX12_crosser 72 = .ok (.getfield 358, 3) := by decide +kernel
theorem dX12_crosser_75 : decode cX12_crosser 75 = .ok (.iconst 1, 1) := by decide +kernel
theorem dX12_crosser_76 : decode cX12_crosser 76 = .ok (.isub, 1) := by decide +kernel
theorem dX12_crosser_77 : decode cX12_crosser 77 = .ok (.ireturn, 1) := by decide +kernel
theorem dX12_call_0 : decode cX12_call 0 = .ok (.iload_n 1, 1) := by decide +kernel
theorem dX12_call_1 : decode cX12_call 1 = .ok (.i2l, 1) := by decide +kernel
theorem dX12_call_2 : decode cX12_call 2 = .ok (.lconst 0, 1) := by decide +kernel
theorem dX12_call_3 : decode cX12_call 3 = .ok (.ldc2_w 361, 3) := by decide +kernel
theorem dX12_call_6 : decode cX12_call 6 = .ok (.invokestatic 138, 3) := by decide +kernel
theorem dX12_call_9 : decode cX12_call 9 = .ok (.ifCond .eq 77, 3) := by decide +kernel
theorem dX12_call_12 : decode cX12_call 12 = .ok (.aload_n 0, 1) := by decide +kernel
theorem dX12_call_13 : decode cX12_call 13 = .ok (.iload_n 2, 1) := by decide +kernel
theorem dX12_call_14 : decode cX12_call 14 = .ok (.invokevirtual 154, 3) := by decide +kernel
theorem dX12_call_17 : decode cX12_call 17 = .ok (.ifCond .eq 69, 3) := by decide +kernel
theorem dX12_call_20 : decode cX12_call 20 = .ok (.aload_n 0, 1) := by decide +kernel
theorem dX12_call_21 : decode cX12_call 21 = .ok (.iload_n 3, 1) := by decide +kernel
theorem dX12_call_22 : decode cX12_call 22 = .ok (.invokevirtual 154, 3) := by decide +kernel
theorem dX12_call_25 : decode cX12_call 25 = .ok (.ifCond .eq 61, 3) := by decide +kernel
theorem dX12_call_28 : decode cX12_call 28 = .ok (.iload_n 2, 1) := by decide +kernel
theorem dX12_call_29 : decode cX12_call 29 = .ok (.iload_n 3, 1) := by decide +kernel
theorem dX12_call_30 : decode cX12_call 30 = .ok (.if_icmp .eq 56, 3) := by decide +kernel
theorem dX12_call_33 : decode cX12_call 33 = .ok (.iload 4, 2) := by decide +kernel
theorem dX12_call_35 : decode cX12_call 35 = .ok (.invokestatic 306, 3) := by decide +kernel
theorem dX12_call_38 : decode cX12_call 38 = .ok (.ifCond .eq 48, 3) := by decide +kernel
theorem dX12_call_41 : decode cX12_call 41 = .ok (.iload 5, 2) := by decide +kernel
theorem dX12_call_43 : decode cX12_call 43 = .ok (.ifCond .lt 43, 3) := by decide +kernel
theorem dX12_call_46 : decode cX12_call 46 = .ok (.iload 5, 2) := by decide +kernel
theorem dX12_call_48 : decode cX12_call 48 = .ok (.bipush 10, 2) := by decide +kernel
theorem dX12_call_50 : decode cX12_call 50 = .ok (.idiv, 1) := by decide +kernel
theorem dX12_call_51 : decode cX12_call 51 = .ok (.i2l, 1) := by decide +kernel
theorem dX12_call_52 : decode cX12_call 52 = .ok (.lconst 0, 1) := by decide +kernel
theorem dX12_call_53 : decode cX12_call 53 = .ok (.aload_n 0, 1) := by decide +kernel
theorem dX12_call_54 : decode cX12_call 54 = .ok (.getfield 343, 3) := by decide +kernel
theorem dX12_call_57 : decode cX12_call 57 = .ok (.iconst 1, 1) := by decide +kernel
theorem dX12_call_58 : decode cX12_call 58 = .ok (.isub, 1) := by decide +kernel
theorem dX12_call_59 : decode cX12_call 59 = .ok (.i2l, 1) := by decide +kernel
theorem dX12_call_60 : decode cX12_call 60 = .ok (.invokestatic 138, 3) := by decide +kernel
theorem dX12_call_63 : decode cX12_call 63 = .ok (.ifCond .eq 23, 3) := by decide +kernel
theorem dX12_call_66 : decode cX12_call 66 = .ok (.iload 5, 2) := by decide +kernel
theorem dX12_call_68 : decode cX12_call 68 = .ok (.bipush 10, 2) := by decide +kernel
theorem dX12_call_70 : decode cX12_call 70 = .ok (.irem, 1) := by decide +kernel
theorem dX12_call_71 : decode cX12_call 71 = .ok (.i2l, 1) := by decide +kernel
theorem dX12_call_72 : decode cX12_call 72 = .ok (.lconst 0, 1) := by decide +kernel
theorem dX12_call_73 : decode cX12_call 73 = .ok (.aload_n 0, 1) := by decide +kernel
theorem dX12_call_74 : decode cX12_call 74 = .ok (.getfield 358, 3) := by decide +kernel
theorem dX12_call_77 : decode cX12_call 77 = .ok (.iconst 1, 1) := by decide +kernel
theorem dX12_call_78 : decode cX12_call 78 = .ok (.isub, 1) := by decide +kernel
theorem dX12_call_79 : decode cX12_call 79 = .ok (.i2l, 1) := by decide +kernel
theorem dX12_call_80 : decode cX12_call 80 = .ok (.invokestatic 138, 3) := by decide +kernel
theorem dX12_call_83 : decode cX12_call 83 = .ok (.ifCond .ne 6, 3) := by decide +kernel
theorem dX12_call_86 : decode cX12_call 86 = .ok (.bipush (-2), 2) := by decide +kernel
theorem dX12_call_88 : decode cX12_call 88 = .ok (.ireturn, 1) := by decide +kernel
theorem dX12_call_89 : decode cX12_call 89 = .ok (.aload_n 0, 1) := by decide +kernel
theorem dX12_call_90 : decode cX12_call 90 = .ok (.getfield 363, 3) := by decide +kernel
theorem dX12_call_93 : decode cX12_call 93 = .ok (.bipush 24, 2) := by decide +kernel
theorem dX12_call_95 : decode cX12_call 95 = .ok (.if_icmp .ne 6, 3) := by decide +kernel
theorem dX12_call_98 : decode cX12_call 98 = .ok (.bipush (-4), 2) := by decide +kernel
theorem dX12_call_100 : decode cX12_call 100 = .ok (.ireturn, 1) := by decide +kernel
theorem dX12_call_101 : decode cX12_call 101 = .ok (.aload_n 0, 1) := by decide +kernel
theorem dX12_call_102 : decode cX12_call 102 = .ok (.getfield 50, 3) := by decide +kernel
theorem dX12_call_105 : decode cX12_call 105 = .ok (.aload_n 0, 1) := by decide +kernel
theorem dX12_call_106 : decode cX12_call 106 = .ok (.getfield 363, 3) := by decide +kernel
theorem dX12_call_109 : decode cX12_call 109 = .ok (.iload_n 1, 1) := by decide +kernel
theorem dX12_call_110 : decode cX12_call 110 = .ok (.iastore, 1) := by decide +kernel
theorem dX12_call_111 : decode cX12_call 111 = .ok (.aload_n 0, 1) := by decide +kernel
theorem dX12_call_112 : decode cX12_call 112 = .ok (.getfield 53, 3) := by decide +kernel
theorem dX12_call_115 : decode cX12_call 115 = .ok (.aload_n 0, 1) := by decide +kernel
theorem dX12_call_116 : decode cX12_call 116 = .ok (.getfield 363, 3) := by decide +kernel
theorem dX12_call_119 : decode cX12_call 119 = .ok (.iload_n 2, 1) := by decide +kernel
theorem dX12_call_120 : decode cX12_call 120 = .ok (.iastore, 1) := by decide +kernel
theorem dX12_call_121 : decode cX12_call 121 = .ok (.aload_n 0, 1) := by decide +kernel
theorem dX12_call_122 : decode cX12_call 122 = .ok (.getfield 56, 3) := by decide +kernel
theorem dX12_call_125 : decode cX12_call 125 = .ok (.aload_n 0, 1) := by decide +kernel
theorem dX12_call_126 : decode cX12_call 126 = .ok (.getfield 363, 3) := by decide +kernel
theorem dX12_call_129 : decode cX12_call 129 = .ok (.iload_n 3, 1) := by decide +kernel
theorem dX12_call_130 : decode cX12_call 130 = .ok (.iastore, 1) := by decide +kernel
theorem dX12_call_131 : decode cX12_call 131 = .ok (.aload_n 0, 1) := by decide +kernel
theorem dX12_call_132 : decode cX12_call 132 = .ok (.getfield 59, 3) := by decide +kernel
theorem dX12_call_135 : decode cX12_call 135 = .ok (.aload_n 0, 1) := by decide +kernel
theorem dX12_call_136 : decode cX12_call 136 = .ok (.getfield 363, 3) := by decide +kernel
theorem dX12_call_139 : decode cX12_call 139 = .ok (.iload 4, 2) := by decide +kernel
theorem dX12_call_141 : decode cX12_call 141 = .ok (.iastore, 1) := by decide +kernel
theorem dX12_call_142 : decode cX12_call 142 = .ok (.aload_n 0, 1) := by decide +kernel
theorem dX12_call_143 : decode cX12_call 143 = .ok (.getfield 62, 3) := by decide +kernel
theorem dX12_call_146 : decode cX12_call 146 = .ok (.aload_n 0, 1) := by decide +kernel
theorem dX12_call_147 : decode cX12_call 147 = .ok (.getfield 363, 3) := by decide +kernel
theorem dX12_call_150 : decode cX12_call 150 = .ok (.iload 5, 2) := by decide +kernel
theorem dX12_call_152 : decode cX12_call 152 = .ok (.bipush 10, 2) := by decide +kernel
theorem dX12_call_154 : decode cX12_call 154 = .ok (.idiv, 1) := by decide +kernel
theorem dX12_call_155 : decode cX12_call 155 = .ok (.iastore, 1) := by decide +kernel
theorem dX12_call_156 : decode cX12_call 156 = .ok (.aload_n 0, 1) := by decide +kernel
theorem dX12_call_157 : decode cX12_call 157 = .ok (.getfield 65, 3) := by decide +kernel
theorem dX12_call_160 : decode cX12_call 160 = .ok (.aload_n 0, 1) := by decide +kernel
theorem dX12_call_161 : decode cX12_call 161 = .ok (.getfield 363, 3) := by decide +kernel
theorem dX12_call_164 : decode cX12_call 164 = .ok (.iload 5, 2) := by decide +kernel
theorem dX12_call_166 : decode cX12_call 166 = .ok (.bipush 10, 2) := by decide +kernel
theorem dX12_call_168 : decode cX12_call 168 = .ok (.irem, 1) := by decide +kernel
theorem dX12_call_169 : decode cX12_call 169 = .ok (.iastore, 1) := by decide +kernel
theorem dX12_call_170 : decode cX12_call 170 = .ok (.aload_n 0, 1) := by decide +kernel
theorem dX12_call_171 : decode cX12_call 171 = .ok (.dup, 1) := by decide +kernel
theorem dX12_call_172 : decode cX12_call 172 = .ok (.getfield 363, 3) := by decide +kernel
theorem dX12_call_175 : decode cX12_call 175 = .ok (.iconst 1, 1) := by decide +kernel
theorem dX12_call_176 : decode cX12_call 176 = .ok (.iadd, 1) := by decide +kernel
theorem dX12_call_177 : decode cX12_call 177 = .ok (.putfield 363, 3) := by decide +kernel
theorem dX12_call_180 : decode cX12_call 180 = .ok (.aload_n 0, 1) := by decide +kernel
theorem dX12_call_181 : decode cX12_call 181 = .ok (.getfield 363, 3) := by decide +kernel
theorem dX12_call_184 : decode cX12_call 184 = .ok (.iconst 1, 1) := by decide +kernel
theorem dX12_call_185 : decode cX12_call 185 = .ok (.isub, 1) := by decide +kernel
theorem dX12_call_186 : decode cX12_call 186 = .ok (.ireturn, 1) := by decide +kernel
theorem dX12_isCall_0 : decode cX12_isCall 0 = .ok (.iload_n 1, 1) := by decide +kernel
theorem dX12_isCall_1 : decode cX12_isCall 1 = .ok (.i2l, 1) := by decide +kernel
theorem dX12_isCall_2 : decode cX12_isCall 2 = .ok (.lconst 0, 1) := by decide +kernel
theorem dX12_isCall_3 : decode cX12_isCall 3 = .ok (.aload_n 0, 1) := by decide +kernel
theorem dX12_isCall_4 : decode cX12_isCall 4 = .ok (.getfield 363, 3) := by decide +kernel
theorem dX12_isCall_7 : decode cX12_isCall 7 = .ok (.iconst 1, 1) := by decide +kernel
theorem dX12_isCall_8 : decode cX12_isCall 8 = .ok (.isub, 1) := by decide +kernel
theorem dX12_isCall_9 : decode cX12_isCall 9 = .ok (.i2l, 1) := by decide +kernel
theorem dX12_isCall_10 : decode cX12_isCall 10 = .ok (.invokestatic 138, 3) := by decide +kernel
theorem dX12_isCall_13 : decode cX12_isCall 13 = .ok (.ireturn, 1) := by decide +kernel
theorem dX12_trueMargin_0 : decode cX12_trueMargin 0 = .ok (.aload_n 0, 1) := by decide +kernel
theorem dX12_trueMargin_1 : decode cX12_trueMargin 1 = .ok (.aload_n 0, 1) := by decide +kernel
theorem dX12_trueMargin_2 : decode cX12_trueMargin 2 = .ok (.getfield 53, 3) := by decide +kernel
theorem dX12_trueMargin_5 : decode cX12_trueMargin 5 = .ok (.iload_n 1, 1) := by decide +kernel
theorem dX12_trueMargin_6 : decode cX12_trueMargin 6 = .ok (.iaload, 1) := by decide +kernel
theorem dX12_trueMargin_7 : decode cX12_trueMargin 7 = .ok (.iload_n 2, 1) := by decide +kernel
theorem dX12_trueMargin_8 : decode cX12_trueMargin 8 = .ok (.invokevirtual 332, 3) := by decide +kernel
theorem dX12_trueMargin_11 : decode cX12_trueMargin 11 = .ok (.aload_n 0, 1) := by decide +kernel
theorem dX12_trueMargin_12 : decode cX12_trueMargin 12 = .ok (.aload_n 0, 1) := by decide +kernel
theorem dX12_trueMargin_13 : decode cX12_trueMargin 13 = .ok (.getfield 56, 3) := by decide +kernel
theorem dX12_trueMargin_16 : decode cX12_trueMargin 16 = .ok (.iload_n 1, 1) := by decide +kernel
theorem dX12_trueMargin_17 : decode cX12_trueMargin 17 = .ok (.iaload, 1) := by decide +kernel
theorem dX12_trueMargin_18 : decode cX12_trueMargin 18 = .ok (.iload_n 2, 1) := by decide +kernel
theorem dX12_trueMargin_19 : decode cX12_trueMargin 19 = .ok (.invokevirtual 332, 3) := by decide +kernel
theorem dX12_trueMargin_22 : decode cX12_trueMargin 22 = .ok (.isub, 1) := by decide +kernel
theorem dX12_trueMargin_23 : decode cX12_trueMargin 23 = .ok (.ireturn, 1) := by decide +kernel
theorem dX12_crossed_0 : decode cX12_crossed 0 = .ok (.aload_n 0, 1) := by decide +kernel
theorem dX12_crossed_1 : decode cX12_crossed 1 = .ok (.aload_n 0, 1) := by decide +kernel
theorem dX12_crossed_2 : decode cX12_crossed 2 = .ok (.getfield 62, 3) := by decide +kernel
theorem dX12_crossed_5 : decode cX12_crossed 5 = .ok (.iload_n 1, 1) := by decide +kernel
theorem dX12_crossed_6 : decode cX12_crossed 6 = .ok (.iaload, 1) := by decide +kernel
theorem dX12_crossed_7 : decode cX12_crossed 7 = .ok (.aload_n 0, 1) := by decide +kernel
theorem dX12_crossed_8 : decode cX12_crossed 8 = .ok (.iload_n 2, 1) := by decide +kernel
theorem dX12_crossed_9 : decode cX12_crossed 9 = .ok (.iload_n 3, 1) := by decide +kernel
theorem dX12_crossed_10 : decode cX12_crossed 10 = .ok (.invokevirtual 332, 3) := by decide +kernel
theorem dX12_crossed_13 : decode cX12_crossed 13 = .ok (.invokevirtual 353, 3) := by decide +kernel
theorem dX12_crossed_16 : decode cX12_crossed 16 = .ok (.istore 5, 2) := by decide +kernel
theorem dX12_crossed_18 : decode cX12_crossed 18 = .ok (.iload 4, 2) := by decide +kernel
theorem dX12_crossed_20 : decode cX12_crossed 20 = .ok (.ifCond .eq 17, 3) := by decide +kernel
theorem dX12_crossed_23 : decode cX12_crossed 23 = .ok (.aload_n 0, 1) := by decide +kernel
theorem dX12_crossed_24 : decode cX12_crossed 24 = .ok (.getfield 44, 3) := by decide +kernel
theorem dX12_crossed_27 : decode cX12_crossed 27 = .ok (.aload_n 0, 1) := by decide +kernel
theorem dX12_crossed_28 : decode cX12_crossed 28 = .ok (.getfield 65, 3) := by decide +kernel
theorem dX12_crossed_31 : decode cX12_crossed 31 = .ok (.iload_n 1, 1) := by decide +kernel
theorem dX12_crossed_32 : decode cX12_crossed 32 = .ok (.iaload, 1) := by decide +kernel
theorem dX12_crossed_33 : decode cX12_crossed 33 = .ok (.iaload, 1) := by decide +kernel
theorem dX12_crossed_34 : decode cX12_crossed 34 = .ok (.goto 4, 3) := by decide +kernel
theorem dX12_crossed_37 : decode cX12_crossed 37 = .ok (.iconst 0, 1) := by decide +kernel
theorem dX12_crossed_38 : decode cX12_crossed 38 = .ok (.istore 6, 2) := by decide +kernel
theorem dX12_crossed_40 : decode cX12_crossed 40 = .ok (.aload_n 0, 1) := by decide +kernel
theorem dX12_crossed_41 : decode cX12_crossed 41 = .ok (.getfield 29, 3) := by decide +kernel
theorem dX12_crossed_44 : decode cX12_crossed 44 = .ok (.iload_n 2, 1) := by decide +kernel
theorem dX12_crossed_45 : decode cX12_crossed 45 = .ok (.iaload, 1) := by decide +kernel
theorem dX12_crossed_46 : decode cX12_crossed 46 = .ok (.ifCond .le 11, 3) := by decide +kernel
theorem dX12_crossed_49 : decode cX12_crossed 49 = .ok (.iload 5, 2) := by decide +kernel
theorem dX12_crossed_51 : decode cX12_crossed 51 = .ok (.iload 6, 2) := by decide +kernel
theorem dX12_crossed_53 : decode cX12_crossed 53 = .ok (.iadd, 1) := by decide +kernel
theorem dX12_crossed_54 : decode cX12_crossed 54 = .ok (.goto 8, 3) := by decide +kernel
theorem dX12_crossed_57 : decode cX12_crossed 57 = .ok (.iload 5, 2) := by decide +kernel
theorem dX12_crossed_59 : decode cX12_crossed 59 = .ok (.iload 6, 2) := by decide +kernel
theorem dX12_crossed_61 : decode cX12_crossed 61 = .ok (.isub, 1) := by decide +kernel
theorem dX12_crossed_62 : decode cX12_crossed 62 = .ok (.ireturn, 1) := by decide +kernel
theorem dX12_marginBy_0 : decode cX12_marginBy 0 = .ok (.aload_n 0, 1) := by decide +kernel
theorem dX12_marginBy_1 : decode cX12_marginBy 1 = .ok (.aload_n 0, 1) := by decide +kernel
theorem dX12_marginBy_2 : decode cX12_marginBy 2 = .ok (.getfield 62, 3) := by decide +kernel
theorem dX12_marginBy_5 : decode cX12_marginBy 5 = .ok (.iload_n 1, 1) := by decide +kernel
theorem dX12_marginBy_6 : decode cX12_marginBy 6 = .ok (.iaload, 1) := by decide +kernel
theorem dX12_marginBy_7 : decode cX12_marginBy 7 = .ok (.aload_n 0, 1) := by decide +kernel
theorem dX12_marginBy_8 : decode cX12_marginBy 8 = .ok (.getfield 59, 3) := by decide +kernel
theorem dX12_marginBy_11 : decode cX12_marginBy 11 = .ok (.iload_n 1, 1) := by decide +kernel
theorem dX12_marginBy_12 : decode cX12_marginBy 12 = .ok (.iaload, 1) := by decide +kernel
theorem dX12_marginBy_13 : decode cX12_marginBy 13 = .ok (.invokevirtual 346, 3) := by decide +kernel
theorem dX12_marginBy_16 : decode cX12_marginBy 16 = .ok (.istore_n 3, 1) := by decide +kernel
theorem dX12_marginBy_17 : decode cX12_marginBy 17 = .ok (.iconst 2, 1) := by decide +kernel
theorem dX12_marginBy_18 : decode cX12_marginBy 18 = .ok (.aload_n 0, 1) := by decide +kernel
theorem dX12_marginBy_19 : decode cX12_marginBy 19 = .ok (.getfield 29, 3) := by decide +kernel
theorem dX12_marginBy_22 : decode cX12_marginBy 22 = .ok (.aload_n 0, 1) := by decide +kernel
theorem dX12_marginBy_23 : decode cX12_marginBy 23 = .ok (.getfield 53, 3) := by decide +kernel
theorem dX12_marginBy_26 : decode cX12_marginBy 26 = .ok (.iload_n 1, 1) := by decide +kernel
theorem dX12_marginBy_27 : decode cX12_marginBy 27 = .ok (.iaload, 1) := by decide +kernel
theorem dX12_marginBy_28 : decode cX12_marginBy 28 = .ok (.iaload, 1) := by decide +kernel
theorem dX12_marginBy_29 : decode cX12_marginBy 29 = .ok (.aload_n 0, 1) := by decide +kernel
theorem dX12_marginBy_30 : decode cX12_marginBy 30 = .ok (.getfield 29, 3) := by decide +kernel
theorem dX12_marginBy_33 : decode cX12_marginBy 33 = .ok (.aload_n 0, 1) := by decide +kernel
theorem dX12_marginBy_34 : decode cX12_marginBy 34 = .ok (.getfield 56, 3) := by decide +kernel
theorem dX12_marginBy_37 : decode cX12_marginBy 37 = .ok (.iload_n 1, 1) := by decide +kernel
theorem dX12_marginBy_38 : decode cX12_marginBy 38 = .ok (.iaload, 1) := by decide +kernel
theorem dX12_marginBy_39 : decode cX12_marginBy 39 = .ok (.iaload, 1) := by decide +kernel
theorem dX12_marginBy_40 : decode cX12_marginBy 40 = .ok (.isub, 1) := by decide +kernel
theorem dX12_marginBy_41 : decode cX12_marginBy 41 = .ok (.imul, 1) := by decide +kernel
theorem dX12_marginBy_42 : decode cX12_marginBy 42 = .ok (.istore 4, 2) := by decide +kernel
theorem dX12_marginBy_44 : decode cX12_marginBy 44 = .ok (.iload_n 2, 1) := by decide +kernel
theorem dX12_marginBy_45 : decode cX12_marginBy 45 = .ok (.tableswitch 126 1 5 #[35, 68, 68, 50, 96], 35) := by decide +kernel
theorem dX12_marginBy_80 : decode cX12_marginBy 80 = .ok (.aload_n 0, 1) := by decide +kernel
theorem dX12_marginBy_81 : decode cX12_marginBy 81 = .ok (.iload_n 1, 1) := by decide +kernel
theorem dX12_marginBy_82 : decode cX12_marginBy 82 = .ok (.aload_n 0, 1) := by decide +kernel
theorem dX12_marginBy_83 : decode cX12_marginBy 83 = .ok (.getfield 59, 3) := by decide +kernel
theorem dX12_marginBy_86 : decode cX12_marginBy 86 = .ok (.iload_n 1, 1) := by decide +kernel
theorem dX12_marginBy_87 : decode cX12_marginBy 87 = .ok (.iaload, 1) := by decide +kernel
theorem dX12_marginBy_88 : decode cX12_marginBy 88 = .ok (.invokevirtual 366, 3) := by decide +kernel
theorem dX12_marginBy_91 : decode cX12_marginBy 91 = .ok (.iload 4, 2) := by decide +kernel
theorem dX12_marginBy_93 : decode cX12_marginBy 93 = .ok (.iadd, 1) := by decide +kernel
theorem dX12_marginBy_94 : decode cX12_marginBy 94 = .ok (.ireturn, 1) := by decide +kernel
theorem dX12_marginBy_95 : decode cX12_marginBy 95 = .ok (.aload_n 0, 1) := by decide +kernel
theorem dX12_marginBy_96 : decode cX12_marginBy 96 = .ok (.iload_n 1, 1) := by decide +kernel
theorem dX12_marginBy_97 : decode cX12_marginBy 97 = .ok (.aload_n 0, 1) := by decide +kernel
theorem dX12_marginBy_98 : decode cX12_marginBy 98 = .ok (.getfield 59, 3) := by decide +kernel
theorem dX12_marginBy_101 : decode cX12_marginBy 101 = .ok (.iload_n 1, 1) := by decide +kernel
theorem dX12_marginBy_102 : decode cX12_marginBy 102 = .ok (.iaload, 1) := by decide +kernel
theorem dX12_marginBy_103 : decode cX12_marginBy 103 = .ok (.invokevirtual 366, 3) := by decide +kernel
theorem dX12_marginBy_106 : decode cX12_marginBy 106 = .ok (.iload 4, 2) := by decide +kernel
theorem dX12_marginBy_108 : decode cX12_marginBy 108 = .ok (.iadd, 1) := by decide +kernel
theorem dX12_marginBy_109 : decode cX12_marginBy 109 = .ok (.bipush 10, 2) := by decide +kernel
theorem dX12_marginBy_111 : decode cX12_marginBy 111 = .ok (.isub, 1) := by decide +kernel
theorem dX12_marginBy_112 : decode cX12_marginBy 112 = .ok (.ireturn, 1) := by decide +kernel
theorem dX12_marginBy_113 : decode cX12_marginBy 113 = .ok (.aload_n 0, 1) := by decide +kernel
theorem dX12_marginBy_114 : decode cX12_marginBy 114 = .ok (.iload_n 1, 1) := by decide +kernel
theorem dX12_marginBy_115 : decode cX12_marginBy 115 = .ok (.aload_n 0, 1) := by decide +kernel
theorem dX12_marginBy_116 : decode cX12_marginBy 116 = .ok (.getfield 53, 3) := by decide +kernel
theorem dX12_marginBy_119 : decode cX12_marginBy 119 = .ok (.iload_n 1, 1) := by decide +kernel
theorem dX12_marginBy_120 : decode cX12_marginBy 120 = .ok (.iaload, 1) := by decide +kernel
theorem dX12_marginBy_121 : decode cX12_marginBy 121 = .ok (.iload_n 3, 1) := by decide +kernel
theorem dX12_marginBy_122 : decode cX12_marginBy 122 = .ok (.iconst 1, 1) := by decide +kernel
theorem dX12_marginBy_123 : decode cX12_marginBy 123 = .ok (.invokevirtual 369, 3) := by decide +kernel
theorem dX12_marginBy_126 : decode cX12_marginBy 126 = .ok (.aload_n 0, 1) := by decide +kernel
theorem dX12_marginBy_127 : decode cX12_marginBy 127 = .ok (.iload_n 1, 1) := by decide +kernel
theorem dX12_marginBy_128 : decode cX12_marginBy 128 = .ok (.aload_n 0, 1) := by decide +kernel
theorem dX12_marginBy_129 : decode cX12_marginBy 129 = .ok (.getfield 56, 3) := by decide +kernel
theorem dX12_marginBy_132 : decode cX12_marginBy 132 = .ok (.iload_n 1, 1) := by decide +kernel
theorem dX12_marginBy_133 : decode cX12_marginBy 133 = .ok (.iaload, 1) := by decide +kernel
theorem dX12_marginBy_134 : decode cX12_marginBy 134 = .ok (.iload_n 3, 1) := by decide +kernel
theorem dX12_marginBy_135 : decode cX12_marginBy 135 = .ok (.iconst 1, 1) := by decide +kernel
theorem dX12_marginBy_136 : decode cX12_marginBy 136 = .ok (.invokevirtual 369, 3) := by decide +kernel
theorem dX12_marginBy_139 : decode cX12_marginBy 139 = .ok (.isub, 1) := by decide +kernel
theorem dX12_marginBy_140 : decode cX12_marginBy 140 = .ok (.ireturn, 1) := by decide +kernel
theorem dX12_marginBy_141 : decode cX12_marginBy 141 = .ok (.aload_n 0, 1) := by decide +kernel
theorem dX12_marginBy_142 : decode cX12_marginBy 142 = .ok (.iload_n 1, 1) := by decide +kernel
theorem dX12_marginBy_143 : decode cX12_marginBy 143 = .ok (.aload_n 0, 1) := by decide +kernel
theorem dX12_marginBy_144 : decode cX12_marginBy 144 = .ok (.getfield 53, 3) := by decide +kernel
theorem dX12_marginBy_147 : decode cX12_marginBy 147 = .ok (.iload_n 1, 1) := by decide +kernel
theorem dX12_marginBy_148 : decode cX12_marginBy 148 = .ok (.iaload, 1) := by decide +kernel
theorem dX12_marginBy_149 : decode cX12_marginBy 149 = .ok (.iload_n 3, 1) := by decide +kernel
theorem dX12_marginBy_150 : decode cX12_marginBy 150 = .ok (.iconst 0, 1) := by decide +kernel
theorem dX12_marginBy_151 : decode cX12_marginBy 151 = .ok (.invokevirtual 369, 3) := by decide +kernel
theorem dX12_marginBy_154 : decode cX12_marginBy 154 = .ok (.aload_n 0, 1) := by decide +kernel
theorem dX12_marginBy_155 : decode cX12_marginBy 155 = .ok (.iload_n 1, 1) := by decide +kernel
theorem dX12_marginBy_156 : decode cX12_marginBy 156 = .ok (.aload_n 0, 1) := by decide +kernel
theorem dX12_marginBy_157 : decode cX12_marginBy 157 = .ok (.getfield 56, 3) := by decide +kernel
theorem dX12_marginBy_160 : decode cX12_marginBy 160 = .ok (.iload_n 1, 1) := by decide +kernel
theorem dX12_marginBy_161 : decode cX12_marginBy 161 = .ok (.iaload, 1) := by decide +kernel
theorem dX12_marginBy_162 : decode cX12_marginBy 162 = .ok (.iload_n 3, 1) := by decide +kernel
theorem dX12_marginBy_163 : decode cX12_marginBy 163 = .ok (.iconst 0, 1) := by decide +kernel
theorem dX12_marginBy_164 : decode cX12_marginBy 164 = .ok (.invokevirtual 369, 3) := by decide +kernel
theorem dX12_marginBy_167 : decode cX12_marginBy 167 = .ok (.isub, 1) := by decide +kernel
theorem dX12_marginBy_168 : decode cX12_marginBy 168 = .ok (.iconst 2, 1) := by decide +kernel
theorem dX12_marginBy_169 : decode cX12_marginBy 169 = .ok (.isub, 1) := by decide +kernel
theorem dX12_marginBy_170 : decode cX12_marginBy 170 = .ok (.ireturn, 1) := by decide +kernel
theorem dX12_marginBy_171 : decode cX12_marginBy 171 = .ok (.aload_n 0, 1) := by decide +kernel
theorem dX12_marginBy_172 : decode cX12_marginBy 172 = .ok (.iload_n 1, 1) := by decide +kernel
theorem dX12_marginBy_173 : decode cX12_marginBy 173 = .ok (.aload_n 0, 1) := by decide +kernel
theorem dX12_marginBy_174 : decode cX12_marginBy 174 = .ok (.getfield 59, 3) := by decide +kernel
theorem dX12_marginBy_177 : decode cX12_marginBy 177 = .ok (.iload_n 1, 1) := by decide +kernel
theorem dX12_marginBy_178 : decode cX12_marginBy 178 = .ok (.iaload, 1) := by decide +kernel
theorem dX12_marginBy_179 : decode cX12_marginBy 179 = .ok (.invokevirtual 366, 3) := by decide +kernel
theorem dX12_marginBy_182 : decode cX12_marginBy 182 = .ok (.ireturn, 1) := by decide +kernel
theorem dX12_nearOf_0 : decode cX12_nearOf 0 = .ok (.aload_n 0, 1) := by decide +kernel
theorem dX12_nearOf_1 : decode cX12_nearOf 1 = .ok (.aload_n 0, 1) := by decide +kernel
theorem dX12_nearOf_2 : decode cX12_nearOf 2 = .ok (.getfield 303, 3) := by decide +kernel
theorem dX12_nearOf_5 : decode cX12_nearOf 5 = .ok (.aload_n 0, 1) := by decide +kernel
theorem dX12_nearOf_6 : decode cX12_nearOf 6 = .ok (.getfield 53, 3) := by decide +kernel
theorem dX12_nearOf_9 : decode cX12_nearOf 9 = .ok (.iload_n 1, 1) := by decide +kernel
theorem dX12_nearOf_10 : decode cX12_nearOf 10 = .ok (.iaload, 1) := by decide +kernel
theorem dX12_nearOf_11 : decode cX12_nearOf 11 = .ok (.aload_n 0, 1) := by decide +kernel
theorem dX12_nearOf_12 : decode cX12_nearOf 12 = .ok (.aload_n 0, 1) := by decide +kernel
theorem dX12_nearOf_13 : decode cX12_nearOf 13 = .ok (.getfield 53, 3) := by decide +kernel
theorem dX12_nearOf_16 : decode cX12_nearOf 16 = .ok (.iload_n 1, 1) := by decide +kernel
theorem dX12_nearOf_17 : decode cX12_nearOf 17 = .ok (.iaload, 1) := by decide +kernel
theorem dX12_nearOf_18 : decode cX12_nearOf 18 = .ok (.aload_n 0, 1) := by decide +kernel
theorem dX12_nearOf_19 : decode cX12_nearOf 19 = .ok (.getfield 59, 3) := by decide +kernel
theorem dX12_nearOf_22 : decode cX12_nearOf 22 = .ok (.iload_n 1, 1) := by decide +kernel
theorem dX12_nearOf_23 : decode cX12_nearOf 23 = .ok (.iaload, 1) := by decide +kernel
theorem dX12_nearOf_24 : decode cX12_nearOf 24 = .ok (.invokevirtual 325, 3) := by decide +kernel
theorem dX12_nearOf_27 : decode cX12_nearOf 27 = .ok (.aload_n 0, 1) := by decide +kernel
theorem dX12_nearOf_28 : decode cX12_nearOf 28 = .ok (.getfield 59, 3) := by decide +kernel
theorem dX12_nearOf_31 : decode cX12_nearOf 31 = .ok (.iload_n 1, 1) := by decide +kernel
theorem dX12_nearOf_32 : decode cX12_nearOf 32 = .ok (.iaload, 1) := by decide +kernel
theorem dX12_nearOf_33 : decode cX12_nearOf 33 = .ok (.iconst 1, 1) := by decide +kernel
theorem dX12_nearOf_34 : decode cX12_nearOf 34 = .ok (.invokevirtual 299, 3) := by decide +kernel
theorem dX12_nearOf_37 : decode cX12_nearOf 37 = .ok (.istore_n 2, 1) := by decide +kernel
theorem dX12_nearOf_38 : decode cX12_nearOf 38 = .ok (.iload_n 2, 1) := by decide +kernel
theorem dX12_nearOf_39 : decode cX12_nearOf 39 = .ok (.ifCond .ge 7, 3) := by decide +kernel
theorem dX12_nearOf_42 : decode cX12_nearOf 42 = .ok (.iconst 0, 1) := by decide +kernel
theorem dX12_nearOf_43 : decode cX12_nearOf 43 = .ok (.goto 17, 3) := by decide +kernel
theorem dX12_nearOf_46 : decode cX12_nearOf 46 = .ok (.iload_n 2, 1) := by decide +kernel
theorem dX12_nearOf_47 : decode cX12_nearOf 47 = .ok (.sipush 999, 3) := by decide +kernel
theorem dX12_nearOf_50 : decode cX12_nearOf 50 = .ok (.if_icmp .le 9, 3) := by decide +kernel
theorem dX12_nearOf_53 : decode cX12_nearOf 53 = .ok (.sipush 999, 3) := by decide +kernel
theorem dX12_nearOf_56 : decode cX12_nearOf 56 = .ok (.goto 4, 3) := by decide +kernel
theorem dX12_nearOf_59 : decode cX12_nearOf 59 = .ok (.iload_n 2, 1) := by decide +kernel
theorem dX12_nearOf_60 : decode cX12_nearOf 60 = .ok (.ireturn, 1) := by decide +kernel
theorem dX12_bandBy_0 : decode cX12_bandBy 0 = .ok (.iload_n 2, 1) := by decide +kernel
theorem dX12_bandBy_1 : decode cX12_bandBy 1 = .ok (.tableswitch 43 2 5 #[31, 33, 41, 31], 31) := by decide +kernel
theorem dX12_bandBy_32 : decode cX12_bandBy 32 = .ok (.iconst 1, 1) := by decide +kernel
theorem dX12_bandBy_33 : decode cX12_bandBy 33 = .ok (.ireturn, 1) := by decide +kernel
theorem dX12_bandBy_34 : decode cX12_bandBy 34 = .ok (.iconst 1, 1) := by decide +kernel
theorem dX12_bandBy_35 : decode cX12_bandBy 35 = .ok (.aload_n 0, 1) := by decide +kernel
theorem dX12_bandBy_36 : decode cX12_bandBy 36 = .ok (.iload_n 1, 1) := by decide +kernel
theorem dX12_bandBy_37 : decode cX12_bandBy 37 = .ok (.invokevirtual 373, 3) := by decide +kernel
theorem dX12_bandBy_40 : decode cX12_bandBy 40 = .ok (.iadd, 1) := by decide +kernel
theorem dX12_bandBy_41 : decode cX12_bandBy 41 = .ok (.ireturn, 1) := by decide +kernel
theorem dX12_bandBy_42 : decode cX12_bandBy 42 = .ok (.iconst 3, 1) := by decide +kernel
theorem dX12_bandBy_43 : decode cX12_bandBy 43 = .ok (.ireturn, 1) := by decide +kernel
theorem dX12_bandBy_44 : decode cX12_bandBy 44 = .ok (.iconst 0, 1) := by decide +kernel
theorem dX12_bandBy_45 : decode cX12_bandBy 45 = .ok (.ireturn, 1) := by decide +kernel
theorem dX12_isAhead_0 : decode cX12_isAhead 0 = .ok (.aload_n 0, 1) := by decide +kernel
theorem dX12_isAhead_1 : decode cX12_isAhead 1 = .ok (.iload_n 1, 1) := by decide +kernel
theorem dX12_isAhead_2 : decode cX12_isAhead 2 = .ok (.iload_n 2, 1) := by decide +kernel
theorem dX12_isAhead_3 : decode cX12_isAhead 3 = .ok (.invokevirtual 376, 3) := by decide +kernel
theorem dX12_isAhead_6 : decode cX12_isAhead 6 = .ok (.aload_n 0, 1) := by decide +kernel
theorem dX12_isAhead_7 : decode cX12_isAhead 7 = .ok (.iload_n 1, 1) := by decide +kernel
theorem dX12_isAhead_8 : decode cX12_isAhead 8 = .ok (.iload_n 2, 1) := by decide +kernel
theorem dX12_isAhead_9 : decode cX12_isAhead 9 = .ok (.invokevirtual 379, 3) := by decide +kernel
theorem dX12_isAhead_12 : decode cX12_isAhead 12 = .ok (.if_icmp .le 7, 3) := by decide +kernel
theorem dX12_isAhead_15 : decode cX12_isAhead 15 = .ok (.iconst 1, 1) := by decide +kernel
theorem dX12_isAhead_16 : decode cX12_isAhead 16 = .ok (.goto 4, 3) := by decide +kernel
theorem dX12_isAhead_19 : decode cX12_isAhead 19 = .ok (.iconst 0, 1) := by decide +kernel
theorem dX12_isAhead_20 : decode cX12_isAhead 20 = .ok (.ireturn, 1) := by decide +kernel
theorem dX12_isOffside_0 : decode cX12_isOffside 0 = .ok (.aload_n 0, 1) := by decide +kernel
theorem dX12_isOffside_1 : decode cX12_isOffside 1 = .ok (.iload_n 1, 1) := by decide +kernel
theorem dX12_isOffside_2 : decode cX12_isOffside 2 = .ok (.iload_n 2, 1) := by decide +kernel
theorem dX12_isOffside_3 : decode cX12_isOffside 3 = .ok (.invokevirtual 382, 3) := by decide +kernel
theorem dX12_isOffside_6 : decode cX12_isOffside 6 = .ok (.ifCond .eq 47, 3) := by decide +kernel
theorem dX12_isOffside_9 : decode cX12_isOffside 9 = .ok (.aload_n 0, 1) := by decide +kernel
theorem dX12_isOffside_10 : decode cX12_isOffside 10 = .ok (.aload_n 0, 1) := by decide +kernel
theorem dX12_isOffside_11 : decode cX12_isOffside 11 = .ok (.getfield 303, 3) := by decide +kernel
theorem dX12_isOffside_14 : decode cX12_isOffside 14 = .ok (.aload_n 0, 1) := by decide +kernel
theorem dX12_isOffside_15 : decode cX12_isOffside 15 = .ok (.getfield 53, 3) := by decide +kernel
theorem dX12_isOffside_18 : decode cX12_isOffside 18 = .ok (.iload_n 1, 1) := by decide +kernel
theorem dX12_isOffside_19 : decode cX12_isOffside 19 = .ok (.iaload, 1) := by decide +kernel
theorem dX12_isOffside_20 : decode cX12_isOffside 20 = .ok (.aload_n 0, 1) := by decide +kernel
theorem dX12_isOffside_21 : decode cX12_isOffside 21 = .ok (.aload_n 0, 1) := by decide +kernel
theorem dX12_isOffside_22 : decode cX12_isOffside 22 = .ok (.getfield 53, 3) := by decide +kernel
theorem dX12_isOffside_25 : decode cX12_isOffside 25 = .ok (.iload_n 1, 1) := by decide +kernel
theorem dX12_isOffside_26 : decode cX12_isOffside 26 = .ok (.iaload, 1) := by decide +kernel
theorem dX12_isOffside_27 : decode cX12_isOffside 27 = .ok (.aload_n 0, 1) := by decide +kernel
theorem dX12_isOffside_28 : decode cX12_isOffside 28 = .ok (.getfield 59, 3) := by decide +kernel
theorem dX12_isOffside_31 : decode cX12_isOffside 31 = .ok (.iload_n 1, 1) := by decide +kernel
theorem dX12_isOffside_32 : decode cX12_isOffside 32 = .ok (.iaload, 1) := by decide +kernel
theorem dX12_isOffside_33 : decode cX12_isOffside 33 = .ok (.invokevirtual 325, 3) := by decide +kernel
theorem dX12_isOffside_36 : decode cX12_isOffside 36 = .ok (.aload_n 0, 1) := by decide +kernel
theorem dX12_isOffside_37 : decode cX12_isOffside 37 = .ok (.getfield 59, 3) := by decide +kernel
theorem dX12_isOffside_40 : decode cX12_isOffside 40 = .ok (.iload_n 1, 1) := by decide +kernel
theorem dX12_isOffside_41 : decode cX12_isOffside 41 = .ok (.iaload, 1) := by decide +kernel
theorem dX12_isOffside_42 : decode cX12_isOffside 42 = .ok (.iconst 2, 1) := by decide +kernel
theorem dX12_isOffside_43 : decode cX12_isOffside 43 = .ok (.invokevirtual 299, 3) := by decide +kernel
theorem dX12_isOffside_46 : decode cX12_isOffside 46 = .ok (.ifCond .eq 7, 3) := by decide +kernel
theorem dX12_isOffside_49 : decode cX12_isOffside 49 = .ok (.iconst 1, 1) := by decide +kernel
theorem dX12_isOffside_50 : decode cX12_isOffside 50 = .ok (.goto 4, 3) := by decide +kernel
theorem dX12_isOffside_53 : decode cX12_isOffside 53 = .ok (.iconst 0, 1) := by decide +kernel
theorem dX12_isOffside_54 : decode cX12_isOffside 54 = .ok (.ireturn, 1) := by decide +kernel
theorem dX12_spreadOf_0 : decode cX12_spreadOf 0 = .ok (.aload_n 0, 1) := by decide +kernel
theorem dX12_spreadOf_1 : decode cX12_spreadOf 1 = .ok (.getfield 50, 3) := by decide +kernel
theorem dX12_spreadOf_4 : decode cX12_spreadOf 4 = .ok (.iload_n 1, 1) := by decide +kernel
theorem dX12_spreadOf_5 : decode cX12_spreadOf 5 = .ok (.iaload, 1) := by decide +kernel
theorem dX12_spreadOf_6 : decode cX12_spreadOf 6 = .ok (.iconst 2, 1) := by decide +kernel
theorem dX12_spreadOf_7 : decode cX12_spreadOf 7 = .ok (.if_icmp .eq 13, 3) := by decide +kernel
theorem dX12_spreadOf_10 : decode cX12_spreadOf 10 = .ok (.aload_n 0, 1) := by decide +kernel
theorem dX12_spreadOf_11 : decode cX12_spreadOf 11 = .ok (.getfield 50, 3) := by decide +kernel
theorem dX12_spreadOf_14 : decode cX12_spreadOf 14 = .ok (.iload_n 1, 1) := by decide +kernel
theorem dX12_spreadOf_15 : decode cX12_spreadOf 15 = .ok (.iaload, 1) := by decide +kernel
theorem dX12_spreadOf_16 : decode cX12_spreadOf 16 = .ok (.iconst 3, 1) := by decide +kernel
theorem dX12_spreadOf_17 : decode cX12_spreadOf 17 = .ok (.if_icmp .ne 17, 3) := by decide +kernel
theorem dX12_spreadOf_20 : decode cX12_spreadOf 20 = .ok (.aload_n 0, 1) := by decide +kernel
theorem dX12_spreadOf_21 : decode cX12_spreadOf 21 = .ok (.getfield 47, 3) := by decide +kernel
theorem dX12_spreadOf_24 : decode cX12_spreadOf 24 = .ok (.aload_n 0, 1) := by decide +kernel
theorem dX12_spreadOf_25 : decode cX12_spreadOf 25 = .ok (.getfield 65, 3) := by decide +kernel
theorem dX12_spreadOf_28 : decode cX12_spreadOf 28 = .ok (.iload_n 1, 1) := by decide +kernel
theorem dX12_spreadOf_29 : decode cX12_spreadOf 29 = .ok (.iaload, 1) := by decide +kernel
theorem dX12_spreadOf_30 : decode cX12_spreadOf 30 = .ok (.iaload, 1) := by decide +kernel
theorem dX12_spreadOf_31 : decode cX12_spreadOf 31 = .ok (.goto 4, 3) := by decide +kernel
theorem dX12_spreadOf_34 : decode cX12_spreadOf 34 = .ok (.iconst 0, 1) := by decide +kernel
theorem dX12_spreadOf_35 : decode cX12_spreadOf 35 = .ok (.ireturn, 1) := by decide +kernel
theorem dX12_waysOf_0 : decode cX12_waysOf 0 = .ok (.aload_n 0, 1) := by decide +kernel
theorem dX12_waysOf_1 : decode cX12_waysOf 1 = .ok (.iload_n 1, 1) := by decide +kernel
theorem dX12_waysOf_2 : decode cX12_waysOf 2 = .ok (.aload_n 0, 1) := by decide +kernel
theorem dX12_waysOf_3 : decode cX12_waysOf 3 = .ok (.getfield 50, 3) := by decide +kernel
theorem dX12_waysOf_6 : decode cX12_waysOf 6 = .ok (.iload_n 1, 1) := by decide +kernel
theorem dX12_waysOf_7 : decode cX12_waysOf 7 = .ok (.iaload, 1) := by decide +kernel
theorem dX12_waysOf_8 : decode cX12_waysOf 8 = .ok (.invokevirtual 376, 3) := by decide +kernel
theorem dX12_waysOf_11 : decode cX12_waysOf 11 = .ok (.istore_n 2, 1) := by decide +kernel
theorem dX12_waysOf_12 : decode cX12_waysOf 12 = .ok (.aload_n 0, 1) := by decide +kernel
theorem dX12_waysOf_13 : decode cX12_waysOf 13 = .ok (.iload_n 1, 1) := by decide +kernel
theorem dX12_waysOf_14 : decode cX12_waysOf 14 = .ok (.aload_n 0, 1) := by decide +kernel
theorem dX12_waysOf_15 : decode cX12_waysOf 15 = .ok (.getfield 50, 3) := by decide +kernel
theorem dX12_waysOf_18 : decode cX12_waysOf 18 = .ok (.iload_n 1, 1) := by decide +kernel
theorem dX12_waysOf_19 : decode cX12_waysOf 19 = .ok (.iaload, 1) := by decide +kernel
theorem dX12_waysOf_20 : decode cX12_waysOf 20 = .ok (.invokevirtual 379, 3) := by decide +kernel
theorem dX12_waysOf_23 : decode cX12_waysOf 23 = .ok (.istore_n 3, 1) := by decide +kernel
theorem dX12_waysOf_24 : decode cX12_waysOf 24 = .ok (.aload_n 0, 1) := by decide +kernel
theorem dX12_waysOf_25 : decode cX12_waysOf 25 = .ok (.iload_n 1, 1) := by decide +kernel
theorem dX12_waysOf_26 : decode cX12_waysOf 26 = .ok (.invokevirtual 386, 3) := by decide +kernel
theorem dX12_waysOf_29 : decode cX12_waysOf 29 = .ok (.istore 4, 2) := by decide +kernel
theorem dX12_waysOf_31 : decode cX12_waysOf 31 = .ok (.iconst 0, 1) := by decide +kernel
theorem dX12_waysOf_32 : decode cX12_waysOf 32 = .ok (.istore 5, 2) := by decide +kernel
theorem dX12_waysOf_34 : decode cX12_waysOf 34 = .ok (.iload 4, 2) := by decide +kernel
theorem dX12_waysOf_36 : decode cX12_waysOf 36 = .ok (.ineg, 1) := by decide +kernel
theorem dX12_waysOf_37 : decode cX12_waysOf 37 = .ok (.istore 6, 2) := by decide +kernel
theorem dX12_waysOf_39 : decode cX12_waysOf 39 = .ok (.iload 6, 2) := by decide +kernel
theorem dX12_waysOf_41 : decode cX12_waysOf 41 = .ok (.iload 4, 2) := by decide +kernel
theorem dX12_waysOf_43 : decode cX12_waysOf 43 = .ok (.if_icmp .gt 48, 3) := by decide +kernel
theorem dX12_waysOf_46 : decode cX12_waysOf 46 = .ok (.iload 4, 2) := by decide +kernel
theorem dX12_waysOf_48 : decode cX12_waysOf 48 = .ok (.ineg, 1) := by decide +kernel
theorem dX12_waysOf_49 : decode cX12_waysOf 49 = .ok (.istore 7, 2) := by decide +kernel
theorem dX12_waysOf_51 : decode cX12_waysOf 51 = .ok (.iload 7, 2) := by decide +kernel
theorem dX12_waysOf_53 : decode cX12_waysOf 53 = .ok (.iload 4, 2) := by decide +kernel
theorem dX12_waysOf_55 : decode cX12_waysOf 55 = .ok (.if_icmp .gt 30, 3) := by decide +kernel
theorem dX12_waysOf_58 : decode cX12_waysOf 58 = .ok (.iload 5, 2) := by decide +kernel
theorem dX12_waysOf_60 : decode cX12_waysOf 60 = .ok (.iload_n 2, 1) := by decide +kernel
theorem dX12_waysOf_61 : decode cX12_waysOf 61 = .ok (.iload 6, 2) := by decide +kernel
theorem dX12_waysOf_63 : decode cX12_waysOf 63 = .ok (.iadd, 1) := by decide +kernel
theorem dX12_waysOf_64 : decode cX12_waysOf 64 = .ok (.iload 7, 2) := by decide +kernel
theorem dX12_waysOf_66 : decode cX12_waysOf 66 = .ok (.isub, 1) := by decide +kernel
theorem dX12_waysOf_67 : decode cX12_waysOf 67 = .ok (.iload_n 3, 1) := by decide +kernel
theorem dX12_waysOf_68 : decode cX12_waysOf 68 = .ok (.if_icmp .le 7, 3) := by decide +kernel
theorem dX12_waysOf_71 : decode cX12_waysOf 71 = .ok (.iconst 1, 1) := by decide +kernel
theorem dX12_waysOf_72 : decode cX12_waysOf 72 = .ok (.goto 4, 3) := by decide +kernel
theorem dX12_waysOf_75 : decode cX12_waysOf 75 = .ok (.iconst 0, 1) := by decide +kernel
theorem dX12_waysOf_76 : decode cX12_waysOf 76 = .ok (.iadd, 1) := by decide +kernel
theorem dX12_waysOf_77 : decode cX12_waysOf 77 = .ok (.istore 5, 2) := by decide +kernel
theorem dX12_waysOf_79 : decode cX12_waysOf 79 = .ok (.iinc 7 1, 3) := by decide +kernel
theorem dX12_waysOf_82 : decode cX12_waysOf 82 = .ok (.goto (-31), 3) := by decide +kernel
theorem dX12_waysOf_85 : decode cX12_waysOf 85 = .ok (.iinc 6 1, 3) := by decide +kernel
theorem dX12_waysOf_88 : decode cX12_waysOf 88 = .ok (.goto (-49), 3) := by decide +kernel
theorem dX12_waysOf_91 : decode cX12_waysOf 91 = .ok (.iload 5, 2) := by decide +kernel
theorem dX12_waysOf_93 : decode cX12_waysOf 93 = .ok (.ireturn, 1) := by decide +kernel
theorem dX12_turnsOf_0 : decode cX12_turnsOf 0 = .ok (.aload_n 0, 1) := by decide +kernel
theorem dX12_turnsOf_1 : decode cX12_turnsOf 1 = .ok (.getfield 247, 3) := by decide +kernel
theorem dX12_turnsOf_4 : decode cX12_turnsOf 4 = .ok (.istore_n 2, 1) := by decide +kernel
theorem dX12_turnsOf_5 : decode cX12_turnsOf 5 = .ok (.iconst (-1), 1) := by decide +kernel
theorem dX12_turnsOf_6 : decode cX12_turnsOf 6 = .ok (.istore_n 3, 1) := by decide +kernel
theorem dX12_turnsOf_7 : decode cX12_turnsOf 7 = .ok (.iconst 0, 1) := by decide +kernel
theorem dX12_turnsOf_8 : decode cX12_turnsOf 8 = .ok (.istore 4, 2) := by decide +kernel
theorem dX12_turnsOf_10 : decode cX12_turnsOf 10 = .ok (.iload 4, 2) := by decide +kernel
theorem dX12_turnsOf_12 : decode cX12_turnsOf 12 = .ok (.sipush 999, 3) := by decide +kernel
theorem dX12_turnsOf_15 : decode cX12_turnsOf 15 = .ok (.if_icmp .gt 37, 3) := by decide +kernel
theorem dX12_turnsOf_18 : decode cX12_turnsOf 18 = .ok (.iload_n 3, 1) := by decide +kernel
theorem dX12_turnsOf_19 : decode cX12_turnsOf 19 = .ok (.iconst (-1), 1) := by decide +kernel
theorem dX12_turnsOf_20 : decode cX12_turnsOf 20 = .ok (.if_icmp .ne 32, 3) := by decide +kernel
theorem dX12_turnsOf_23 : decode cX12_turnsOf 23 = .ok (.aload_n 0, 1) := by decide +kernel
theorem dX12_turnsOf_24 : decode cX12_turnsOf 24 = .ok (.iload 4, 2) := by decide +kernel
theorem dX12_turnsOf_26 : decode cX12_turnsOf 26 = .ok (.putfield 247, 3) := by decide +kernel
theorem dX12_turnsOf_29 : decode cX12_turnsOf 29 = .ok (.aload_n 0, 1) := by decide +kernel
theorem dX12_turnsOf_30 : decode cX12_turnsOf 30 = .ok (.iload_n 1, 1) := by decide +kernel
theorem dX12_turnsOf_31 : decode cX12_turnsOf 31 = .ok (.aload_n 0, 1) := by decide +kernel
theorem dX12_turnsOf_32 : decode cX12_turnsOf 32 = .ok (.getfield 50, 3) := by decide +kernel
theorem dX12_turnsOf_35 : decode cX12_turnsOf 35 = .ok (.iload_n 1, 1) := by decide +kernel
theorem dX12_turnsOf_36 : decode cX12_turnsOf 36 = .ok (.iaload, 1) := by decide +kernel
theorem dX12_turnsOf_37 : decode cX12_turnsOf 37 = .ok (.invokevirtual 382, 3) := by decide +kernel
theorem dX12_turnsOf_40 : decode cX12_turnsOf 40 = .ok (.ifCond .ne 6, 3) := by decide +kernel
theorem dX12_turnsOf_43 : decode cX12_turnsOf 43 = .ok (.iload 4, 2) := by decide +kernel
theorem dX12_turnsOf_45 : decode cX12_turnsOf 45 = .ok (.istore_n 3, 1) := by decide +kernel
theorem dX12_turnsOf_46 : decode cX12_turnsOf 46 = .ok (.iinc 4 1, 3) := by decide +kernel
theorem dX12_turnsOf_49 : decode cX12_turnsOf 49 = .ok (.goto (-39), 3) := by decide +kernel
theorem dX12_turnsOf_52 : decode cX12_turnsOf 52 = .ok (.aload_n 0, 1) := by decide +kernel
theorem dX12_turnsOf_53 : decode cX12_turnsOf 53 = .ok (.iload_n 2, 1) := by decide +kernel
theorem dX12_turnsOf_54 : decode cX12_turnsOf 54 = .ok (.putfield 247, 3) := by decide +kernel
theorem dX12_turnsOf_57 : decode cX12_turnsOf 57 = .ok (.iload_n 3, 1) := by decide +kernel
theorem dX12_turnsOf_58 : decode cX12_turnsOf 58 = .ok (.ireturn, 1) := by decide +kernel
theorem dX12_told_0 : decode cX12_told 0 = .ok (.aload_n 0, 1) := by decide +kernel
theorem dX12_told_1 : decode cX12_told 1 = .ok (.iload_n 1, 1) := by decide +kernel
theorem dX12_told_2 : decode cX12_told 2 = .ok (.invokevirtual 389, 3) := by decide +kernel
theorem dX12_told_5 : decode cX12_told 5 = .ok (.ifCond .ne 7, 3) := by decide +kernel
theorem dX12_told_8 : decode cX12_told 8 = .ok (.ldc2_w 311, 3) := by decide +kernel
theorem dX12_told_11 : decode cX12_told 11 = .ok (.lreturn, 1) := by decide +kernel
theorem dX12_told_12 : decode cX12_told 12 = .ok (.aload_n 0, 1) := by decide +kernel
theorem dX12_told_13 : decode cX12_told 13 = .ok (.getfield 50, 3) := by decide +kernel
theorem dX12_told_16 : decode cX12_told 16 = .ok (.iload_n 1, 1) := by decide +kernel
theorem dX12_told_17 : decode cX12_told 17 = .ok (.iaload, 1) := by decide +kernel
theorem dX12_told_18 : decode cX12_told 18 = .ok (.istore_n 3, 1) := by decide +kernel
theorem dX12_told_19 : decode cX12_told 19 = .ok (.iconst 2, 1) := by decide +kernel
theorem dX12_told_20 : decode cX12_told 20 = .ok (.aload_n 0, 1) := by decide +kernel
theorem dX12_told_21 : decode cX12_told 21 = .ok (.iload_n 1, 1) := by decide +kernel
theorem dX12_told_22 : decode cX12_told 22 = .ok (.invokevirtual 386, 3) := by decide +kernel
theorem dX12_told_25 : decode cX12_told 25 = .ok (.imul, 1) := by decide +kernel
theorem dX12_told_26 : decode cX12_told 26 = .ok (.iconst 1, 1) := by decide +kernel
theorem dX12_told_27 : decode cX12_told 27 = .ok (.iadd, 1) := by decide +kernel
theorem dX12_told_28 : decode cX12_told 28 = .ok (.istore 4, 2) := by decide +kernel
theorem dX12_told_30 : decode cX12_told 30 = .ok (.iload_n 2, 1) := by decide +kernel
theorem dX12_told_31 : decode cX12_told 31 = .ok (.tableswitch 179 0 9 #[53, 56, 64, 72, 87, 102, 123, 130, 137, 172], 53) := by decide +kernel
theorem dX12_told_84 : decode cX12_told 84 = .ok (.iload_n 3, 1) := by decide +kernel
theorem dX12_told_85 : decode cX12_told 85 = .ok (.i2l, 1) := by decide +kernel
theorem dX12_told_86 : decode cX12_told 86 = .ok (.lreturn, 1) := by decide +kernel
theorem dX12_told_87 : decode cX12_told 87 = .ok (.aload_n 0, 1) := by decide +kernel
theorem dX12_told_88 : decode cX12_told 88 = .ok (.iload_n 1, 1) := by decide +kernel
theorem dX12_told_89 : decode cX12_told 89 = .ok (.iload_n 3, 1) := by decide +kernel
theorem dX12_told_90 : decode cX12_told 90 = .ok (.invokevirtual 376, 3) := by decide +kernel
theorem dX12_told_93 : decode cX12_told 93 = .ok (.i2l, 1) := by decide +kernel
theorem dX12_told_94 : decode cX12_told 94 = .ok (.lreturn, 1) := by decide +kernel
theorem dX12_told_95 : decode cX12_told 95 = .ok (.aload_n 0, 1) := by decide +kernel
theorem dX12_told_96 : decode cX12_told 96 = .ok (.iload_n 1, 1) := by decide +kernel
theorem dX12_told_97 : decode cX12_told 97 = .ok (.iload_n 3, 1) := by decide +kernel
theorem dX12_told_98 : decode cX12_told 98 = .ok (.invokevirtual 379, 3) := by decide +kernel
theorem dX12_told_101 : decode cX12_told 101 = .ok (.i2l, 1) := by decide +kernel
theorem dX12_told_102 : decode cX12_told 102 = .ok (.lreturn, 1) := by decide +kernel
theorem dX12_told_103 : decode cX12_told 103 = .ok (.aload_n 0, 1) := by decide +kernel
theorem dX12_told_104 : decode cX12_told 104 = .ok (.iload_n 1, 1) := by decide +kernel
theorem dX12_told_105 : decode cX12_told 105 = .ok (.iload_n 3, 1) := by decide +kernel
theorem dX12_told_106 : decode cX12_told 106 = .ok (.invokevirtual 382, 3) := by decide +kernel
theorem dX12_told_109 : decode cX12_told 109 = .ok (.ifCond .eq 7, 3) := by decide +kernel
theorem dX12_told_112 : decode cX12_told 112 = .ok (.lconst 1, 1) := by decide +kernel
theorem dX12_told_113 : decode cX12_told 113 = .ok (.goto 4, 3) := by decide +kernel
theorem dX12_told_116 : decode cX12_told 116 = .ok (.lconst 0, 1) := by decide +kernel
theorem dX12_told_117 : decode cX12_told 117 = .ok (.lreturn, 1) := by decide +kernel
theorem dX12_told_118 : decode cX12_told 118 = .ok (.aload_n 0, 1) := by decide +kernel
theorem dX12_told_119 : decode cX12_told 119 = .ok (.iload_n 1, 1) := by decide +kernel
theorem dX12_told_120 : decode cX12_told 120 = .ok (.iload_n 3, 1) := by decide +kernel
theorem dX12_told_121 : decode cX12_told 121 = .ok (.invokevirtual 392, 3) := by decide +kernel
theorem dX12_told_124 : decode cX12_told 124 = .ok (.ifCond .eq 7, 3) := by decide +kernel
theorem dX12_told_127 : decode cX12_told 127 = .ok (.lconst 1, 1) := by decide +kernel
theorem dX12_told_128 : decode cX12_told 128 = .ok (.goto 4, 3) := by decide +kernel
theorem dX12_told_131 : decode cX12_told 131 = .ok (.lconst 0, 1) := by decide +kernel
theorem dX12_told_132 : decode cX12_told 132 = .ok (.lreturn, 1) := by decide +kernel
theorem dX12_told_133 : decode cX12_told 133 = .ok (.aload_n 0, 1) := by decide +kernel
theorem dX12_told_134 : decode cX12_told 134 = .ok (.iload_n 1, 1) := by decide +kernel
theorem dX12_told_135 : decode cX12_told 135 = .ok (.iload_n 3, 1) := by decide +kernel
theorem dX12_told_136 : decode cX12_told 136 = .ok (.invokevirtual 392, 3) := by decide +kernel
theorem dX12_told_139 : decode cX12_told 139 = .ok (.aload_n 0, 1) := by decide +kernel
theorem dX12_told_140 : decode cX12_told 140 = .ok (.iload_n 1, 1) := by decide +kernel
theorem dX12_told_141 : decode cX12_told 141 = .ok (.iconst 0, 1) := by decide +kernel
theorem dX12_told_142 : decode cX12_told 142 = .ok (.invokevirtual 392, 3) := by decide +kernel
theorem dX12_told_145 : decode cX12_told 145 = .ok (.if_icmp .eq 7, 3) := by decide +kernel
theorem dX12_told_148 : decode cX12_told 148 = .ok (.lconst 1, 1) := by decide +kernel
theorem dX12_told_149 : decode cX12_told 149 = .ok (.goto 4, 3) := by decide +kernel
theorem dX12_told_152 : decode cX12_told 152 = .ok (.lconst 0, 1) := by decide +kernel
theorem dX12_told_153 : decode cX12_told 153 = .ok (.lreturn, 1) := by decide +kernel
theorem dX12_told_154 : decode cX12_told 154 = .ok (.aload_n 0, 1) := by decide +kernel
theorem dX12_told_155 : decode cX12_told 155 = .ok (.iload_n 1, 1) := by decide +kernel
theorem dX12_told_156 : decode cX12_told 156 = .ok (.invokevirtual 395, 3) := by decide +kernel
theorem dX12_told_159 : decode cX12_told 159 = .ok (.i2l, 1) := by decide +kernel
theorem dX12_told_160 : decode cX12_told 160 = .ok (.lreturn, 1) := by decide +kernel
theorem dX12_told_161 : decode cX12_told 161 = .ok (.iload 4, 2) := by decide +kernel
theorem dX12_told_163 : decode cX12_told 163 = .ok (.iload 4, 2) := by decide +kernel
theorem dX12_told_165 : decode cX12_told 165 = .ok (.imul, 1) := by decide +kernel
theorem dX12_told_166 : decode cX12_told 166 = .ok (.i2l, 1) := by decide +kernel
theorem dX12_told_167 : decode cX12_told 167 = .ok (.lreturn, 1) := by decide +kernel
theorem dX12_told_168 : decode cX12_told 168 = .ok (.aload_n 0, 1) := by decide +kernel
theorem dX12_told_169 : decode cX12_told 169 = .ok (.iload_n 1, 1) := by decide +kernel
theorem dX12_told_170 : decode cX12_told 170 = .ok (.aload_n 0, 1) := by decide +kernel
theorem dX12_told_171 : decode cX12_told 171 = .ok (.aload_n 0, 1) := by decide +kernel
theorem dX12_told_172 : decode cX12_told 172 = .ok (.getfield 62, 3) := by decide +kernel
theorem dX12_told_175 : decode cX12_told 175 = .ok (.iload_n 1, 1) := by decide +kernel
theorem dX12_told_176 : decode cX12_told 176 = .ok (.iaload, 1) := by decide +kernel
theorem dX12_told_177 : decode cX12_told 177 = .ok (.aload_n 0, 1) := by decide +kernel
theorem dX12_told_178 : decode cX12_told 178 = .ok (.getfield 59, 3) := by decide +kernel
theorem dX12_told_181 : decode cX12_told 181 = .ok (.iload_n 1, 1) := by decide +kernel
theorem dX12_told_182 : decode cX12_told 182 = .ok (.iaload, 1) := by decide +kernel
theorem dX12_told_183 : decode cX12_told 183 = .ok (.invokevirtual 346, 3) := by decide +kernel
theorem dX12_told_186 : decode cX12_told 186 = .ok (.invokevirtual 366, 3) := by decide +kernel
theorem dX12_told_189 : decode cX12_told 189 = .ok (.aload_n 0, 1) := by decide +kernel
theorem dX12_told_190 : decode cX12_told 190 = .ok (.iload_n 1, 1) := by decide +kernel
theorem dX12_told_191 : decode cX12_told 191 = .ok (.aload_n 0, 1) := by decide +kernel
theorem dX12_told_192 : decode cX12_told 192 = .ok (.getfield 59, 3) := by decide +kernel
theorem dX12_told_195 : decode cX12_told 195 = .ok (.iload_n 1, 1) := by decide +kernel
theorem dX12_told_196 : decode cX12_told 196 = .ok (.iaload, 1) := by decide +kernel
theorem dX12_told_197 : decode cX12_told 197 = .ok (.invokevirtual 366, 3) := by decide +kernel
theorem dX12_told_200 : decode cX12_told 200 = .ok (.isub, 1) := by decide +kernel
theorem dX12_told_201 : decode cX12_told 201 = .ok (.i2l, 1) := by decide +kernel
theorem dX12_told_202 : decode cX12_told 202 = .ok (.lreturn, 1) := by decide +kernel
theorem dX12_told_203 : decode cX12_told 203 = .ok (.aload_n 0, 1) := by decide +kernel
theorem dX12_told_204 : decode cX12_told 204 = .ok (.iload_n 1, 1) := by decide +kernel
theorem dX12_told_205 : decode cX12_told 205 = .ok (.invokevirtual 398, 3) := by decide +kernel
theorem dX12_told_208 : decode cX12_told 208 = .ok (.i2l, 1) := by decide +kernel
theorem dX12_told_209 : decode cX12_told 209 = .ok (.lreturn, 1) := by decide +kernel
theorem dX12_told_210 : decode cX12_told 210 = .ok (.ldc2_w 311, 3) := by decide +kernel
theorem dX12_told_213 : decode cX12_told 213 = .ok (.lreturn, 1) := by decide +kernel
theorem dX12_offsides_0 : decode cX12_offsides 0 = .ok (.iconst 0, 1) := by decide +kernel
theorem dX12_offsides_1 : decode cX12_offsides 1 = .ok (.istore_n 2, 1) := by decide +kernel
theorem dX12_offsides_2 : decode cX12_offsides 2 = .ok (.iconst 0, 1) := by decide +kernel
theorem dX12_offsides_3 : decode cX12_offsides 3 = .ok (.istore_n 3, 1) := by decide +kernel
theorem dX12_offsides_4 : decode cX12_offsides 4 = .ok (.iload_n 3, 1) := by decide +kernel
theorem dX12_offsides_5 : decode cX12_offsides 5 = .ok (.aload_n 0, 1) := by decide +kernel
theorem dX12_offsides_6 : decode cX12_offsides 6 = .ok (.getfield 363, 3) := by decide +kernel
theorem dX12_offsides_9 : decode cX12_offsides 9 = .ok (.if_icmp .ge 42, 3) := by decide +kernel
theorem dX12_offsides_12 : decode cX12_offsides 12 = .ok (.iload_n 2, 1) := by decide +kernel
theorem dX12_offsides_13 : decode cX12_offsides 13 = .ok (.iload_n 1, 1) := by decide +kernel
theorem dX12_offsides_14 : decode cX12_offsides 14 = .ok (.iload_n 3, 1) := by decide +kernel
theorem dX12_offsides_15 : decode cX12_offsides 15 = .ok (.ishr, 1) := by decide +kernel
theorem dX12_offsides_16 : decode cX12_offsides 16 = .ok (.iconst 1, 1) := by decide +kernel
theorem dX12_offsides_17 : decode cX12_offsides 17 = .ok (.iand, 1) := by decide +kernel
theorem dX12_offsides_18 : decode cX12_offsides 18 = .ok (.iconst 1, 1) := by decide +kernel
theorem dX12_offsides_19 : decode cX12_offsides 19 = .ok (.if_icmp .ne 23, 3) := by decide +kernel
theorem dX12_offsides_22 : decode cX12_offsides 22 = .ok (.aload_n 0, 1) := by decide +kernel
theorem dX12_offsides_23 : decode cX12_offsides 23 = .ok (.iload_n 3, 1) := by decide +kernel
theorem dX12_offsides_24 : decode cX12_offsides 24 = .ok (.aload_n 0, 1) := by decide +kernel
theorem dX12_offsides_25 : decode cX12_offsides 25 = .ok (.getfield 50, 3) := by decide +kernel
theorem dX12_offsides_28 : decode cX12_offsides 28 = .ok (.iload_n 3, 1) := by decide +kernel
theorem dX12_offsides_29 : decode cX12_offsides 29 = .ok (.iaload, 1) := by decide +kernel
theorem dX12_offsides_30 : decode cX12_offsides 30 = .ok (.invokevirtual 392, 3) := by decide +kernel
theorem dX12_offsides_33 : decode cX12_offsides 33 = .ok (.ifCond .eq 9, 3) := by decide +kernel
theorem dX12_offsides_36 : decode cX12_offsides 36 = .ok (.iconst 1, 1) := by decide +kernel
theorem dX12_offsides_37 : decode cX12_offsides 37 = .ok (.iload_n 3, 1) := by decide +kernel
theorem dX12_offsides_38 : decode cX12_offsides 38 = .ok (.ishl, 1) := by decide +kernel
theorem dX12_offsides_39 : decode cX12_offsides 39 = .ok (.goto 4, 3) := by decide +kernel
theorem dX12_offsides_42 : decode cX12_offsides 42 = .ok (.iconst 0, 1) := by decide +kernel
theorem dX12_offsides_43 : decode cX12_offsides 43 = .ok (.ior, 1) := by decide +kernel
theorem dX12_offsides_44 : decode cX12_offsides 44 = .ok (.istore_n 2, 1) := by decide +kernel
theorem dX12_offsides_45 : decode cX12_offsides 45 = .ok (.iinc 3 1, 3) := by decide +kernel
theorem dX12_offsides_48 : decode cX12_offsides 48 = .ok (.goto (-44), 3) := by decide +kernel
theorem dX12_offsides_51 : decode cX12_offsides 51 = .ok (.iload_n 2, 1) := by decide +kernel
theorem dX12_offsides_52 : decode cX12_offsides 52 = .ok (.ireturn, 1) := by decide +kernel
theorem dX12_all_0 : decode cX12_all 0 = .ok (.iconst 1, 1) := by decide +kernel
theorem dX12_all_1 : decode cX12_all 1 = .ok (.aload_n 0, 1) := by decide +kernel
theorem dX12_all_2 : decode cX12_all 2 = .ok (.getfield 363, 3) := by decide +kernel
theorem dX12_all_5 : decode cX12_all 5 = .ok (.ishl, 1) := by decide +kernel
theorem dX12_all_6 : decode cX12_all 6 = .ok (.iconst 1, 1) := by decide +kernel
theorem dX12_all_7 : decode cX12_all 7 = .ok (.isub, 1) := by decide +kernel
theorem dX12_all_8 : decode cX12_all 8 = .ok (.ireturn, 1) := by decide +kernel
theorem dX12_offside_0 : decode cX12_offside 0 = .ok (.aload_n 0, 1) := by decide +kernel
theorem dX12_offside_1 : decode cX12_offside 1 = .ok (.aload_n 0, 1) := by decide +kernel
theorem dX12_offside_2 : decode cX12_offside 2 = .ok (.invokevirtual 401, 3) := by decide +kernel
theorem dX12_offside_5 : decode cX12_offside 5 = .ok (.invokevirtual 404, 3) := by decide +kernel
theorem dX12_offside_8 : decode cX12_offside 8 = .ok (.ireturn, 1) := by decide +kernel
theorem dX12_widths_0 : decode cX12_widths 0 = .ok (.aload_n 0, 1) := by decide +kernel
theorem dX12_widths_1 : decode cX12_widths 1 = .ok (.getfield 101, 3) := by decide +kernel
theorem dX12_widths_4 : decode cX12_widths 4 = .ok (.iload_n 1, 1) := by decide +kernel
theorem dX12_widths_5 : decode cX12_widths 5 = .ok (.baload, 1) := by decide +kernel
theorem dX12_widths_6 : decode cX12_widths 6 = .ok (.ifCond .ne 6, 3) := by decide +kernel
theorem dX12_widths_9 : decode cX12_widths 9 = .ok (.bipush (-11), 2) := by decide +kernel
theorem dX12_widths_11 : decode cX12_widths 11 = .ok (.ireturn, 1) := by decide +kernel
theorem dX12_widths_12 : decode cX12_widths 12 = .ok (.aload_n 0, 1) := by decide +kernel
theorem dX12_widths_13 : decode cX12_widths 13 = .ok (.getfield 108, 3) := by decide +kernel
theorem dX12_widths_16 : decode cX12_widths 16 = .ok (.iload_n 1, 1) := by decide +kernel
theorem dX12_widths_17 : decode cX12_widths 17 = .ok (.iaload, 1) := by decide +kernel
theorem dX12_widths_18 : decode cX12_widths 18 = .ok (.i2l, 1) := by decide +kernel
theorem dX12_widths_19 : decode cX12_widths 19 = .ok (.lconst 1, 1) := by decide +kernel
theorem dX12_widths_20 : decode cX12_widths 20 = .ok (.ldc2_w 162, 3) := by decide +kernel
theorem dX12_widths_23 : decode cX12_widths 23 = .ok (.invokestatic 138, 3) := by decide +kernel
theorem dX12_widths_26 : decode cX12_widths 26 = .ok (.ifCond .ne 6, 3) := by decide +kernel
theorem dX12_widths_29 : decode cX12_widths 29 = .ok (.bipush (-2), 2) := by decide +kernel
theorem dX12_widths_31 : decode cX12_widths 31 = .ok (.ireturn, 1) := by decide +kernel
theorem dX12_widths_32 : decode cX12_widths 32 = .ok (.iconst 0, 1) := by decide +kernel
theorem dX12_widths_33 : decode cX12_widths 33 = .ok (.istore_n 2, 1) := by decide +kernel
theorem dX12_widths_34 : decode cX12_widths 34 = .ok (.iload_n 2, 1) := by decide +kernel
theorem dX12_widths_35 : decode cX12_widths 35 = .ok (.aload_n 0, 1) := by decide +kernel
theorem dX12_widths_36 : decode cX12_widths 36 = .ok (.getfield 108, 3) := by decide +kernel
theorem dX12_widths_39 : decode cX12_widths 39 = .ok (.iload_n 1, 1) := by decide +kernel
theorem dX12_widths_40 : decode cX12_widths 40 = .ok (.iaload, 1) := by decide +kernel
theorem dX12_widths_41 : decode cX12_widths 41 = .ok (.if_icmp .ge 29, 3) := by decide +kernel
theorem dX12_widths_44 : decode cX12_widths 44 = .ok (.aload_n 0, 1) := by decide +kernel
theorem dX12_widths_45 : decode cX12_widths 45 = .ok (.getfield 111, 3) := by decide +kernel
theorem dX12_widths_48 : decode cX12_widths 48 = .ok (.bipush 40, 2) := by decide +kernel
theorem dX12_widths_50 : decode cX12_widths 50 = .ok (.iload_n 1, 1) := by decide +kernel
theorem dX12_widths_51 : decode cX12_widths 51 = .ok (.imul, 1) := by decide +kernel
theorem dX12_widths_52 : decode cX12_widths 52 = .ok (.iload_n 2, 1) := by decide +kernel
theorem dX12_widths_53 : decode cX12_widths 53 = .ok (.iadd, 1) := by decide +kernel
theorem dX12_widths_54 : decode cX12_widths 54 = .ok (.iaload, 1) := by decide +kernel
theorem dX12_widths_55 : decode cX12_widths 55 = .ok (.invokestatic 313, 3) := by decide +kernel
theorem dX12_widths_58 : decode cX12_widths 58 = .ok (.ifCond .ne 6, 3) := by decide +kernel
theorem dX12_widths_61 : decode cX12_widths 61 = .ok (.bipush (-2), 2) := by decide +kernel
theorem dX12_widths_63 : decode cX12_widths 63 = .ok (.ireturn, 1) := by decide +kernel
theorem dX12_widths_64 : decode cX12_widths 64 = .ok (.iinc 2 1, 3) := by decide +kernel
theorem dX12_widths_67 : decode cX12_widths 67 = .ok (.goto (-33), 3) := by decide +kernel
theorem dX12_widths_70 : decode cX12_widths 70 = .ok (.iconst 0, 1) := by decide +kernel
theorem dX12_widths_71 : decode cX12_widths 71 = .ok (.ireturn, 1) := by decide +kernel
theorem dX12_wrongs_0 : decode cX12_wrongs 0 = .ok (.aload_n 0, 1) := by decide +kernel
theorem dX12_wrongs_1 : decode cX12_wrongs 1 = .ok (.getfield 247, 3) := by decide +kernel
theorem dX12_wrongs_4 : decode cX12_wrongs 4 = .ok (.istore 4, 2) := by decide +kernel
theorem dX12_wrongs_6 : decode cX12_wrongs 6 = .ok (.aload_n 0, 1) := by decide +kernel
theorem dX12_wrongs_7 : decode cX12_wrongs 7 = .ok (.iload_n 2, 1) := by decide +kernel
theorem dX12_wrongs_8 : decode cX12_wrongs 8 = .ok (.putfield 247, 3) := by decide +kernel
theorem dX12_wrongs_11 : decode cX12_wrongs 11 = .ok (.iconst 0, 1) := by decide +kernel
theorem dX12_wrongs_12 : decode cX12_wrongs 12 = .ok (.istore 5, 2) := by decide +kernel
theorem dX12_wrongs_14 : decode cX12_wrongs 14 = .ok (.iconst 0, 1) := by decide +kernel
theorem dX12_wrongs_15 : decode cX12_wrongs 15 = .ok (.istore 6, 2) := by decide +kernel
theorem dX12_wrongs_17 : decode cX12_wrongs 17 = .ok (.iload 6, 2) := by decide +kernel
theorem dX12_wrongs_19 : decode cX12_wrongs 19 = .ok (.aload_n 0, 1) := by decide +kernel
theorem dX12_wrongs_20 : decode cX12_wrongs 20 = .ok (.getfield 363, 3) := by decide +kernel
theorem dX12_wrongs_23 : decode cX12_wrongs 23 = .ok (.if_icmp .ge 82, 3) := by decide +kernel
theorem dX12_wrongs_26 : decode cX12_wrongs 26 = .ok (.iload_n 1, 1) := by decide +kernel
theorem dX12_wrongs_27 : decode cX12_wrongs 27 = .ok (.iload 6, 2) := by decide +kernel
theorem dX12_wrongs_29 : decode cX12_wrongs 29 = .ok (.ishr, 1) := by decide +kernel
theorem dX12_wrongs_30 : decode cX12_wrongs 30 = .ok (.iconst 1, 1) := by decide +kernel
theorem dX12_wrongs_31 : decode cX12_wrongs 31 = .ok (.iand, 1) := by decide +kernel
theorem dX12_wrongs_32 : decode cX12_wrongs 32 = .ok (.ifCond .ne 6, 3) := by decide +kernel
theorem dX12_wrongs_35 : decode cX12_wrongs 35 = .ok (.goto 64, 3) := by decide +kernel
theorem dX12_wrongs_38 : decode cX12_wrongs 38 = .ok (.aload_n 0, 1) := by decide +kernel
theorem dX12_wrongs_39 : decode cX12_wrongs 39 = .ok (.iload 6, 2) := by decide +kernel
theorem dX12_wrongs_41 : decode cX12_wrongs 41 = .ok (.iconst 0, 1) := by decide +kernel
theorem dX12_wrongs_42 : decode cX12_wrongs 42 = .ok (.invokevirtual 392, 3) := by decide +kernel
theorem dX12_wrongs_45 : decode cX12_wrongs 45 = .ok (.istore 7, 2) := by decide +kernel
theorem dX12_wrongs_47 : decode cX12_wrongs 47 = .ok (.aload_n 0, 1) := by decide +kernel
theorem dX12_wrongs_48 : decode cX12_wrongs 48 = .ok (.iload 6, 2) := by decide +kernel
theorem dX12_wrongs_50 : decode cX12_wrongs 50 = .ok (.aload_n 0, 1) := by decide +kernel
theorem dX12_wrongs_51 : decode cX12_wrongs 51 = .ok (.getfield 50, 3) := by decide +kernel
theorem dX12_wrongs_54 : decode cX12_wrongs 54 = .ok (.iload 6, 2) := by decide +kernel
theorem dX12_wrongs_56 : decode cX12_wrongs 56 = .ok (.iaload, 1) := by decide +kernel
theorem dX12_wrongs_57 : decode cX12_wrongs 57 = .ok (.invokevirtual 392, 3) := by decide +kernel
theorem dX12_wrongs_60 : decode cX12_wrongs 60 = .ok (.istore 8, 2) := by decide +kernel
theorem dX12_wrongs_62 : decode cX12_wrongs 62 = .ok (.iload 5, 2) := by decide +kernel
theorem dX12_wrongs_64 : decode cX12_wrongs 64 = .ok (.iload_n 3, 1) := by decide +kernel
theorem dX12_wrongs_65 : decode cX12_wrongs 65 = .ok (.ifCond .ne 16, 3) := by decide +kernel
theorem dX12_wrongs_68 : decode cX12_wrongs 68 = .ok (.iload 7, 2) := by decide +kernel
theorem dX12_wrongs_70 : decode cX12_wrongs 70 = .ok (.ifCond .eq 25, 3) := by decide +kernel
theorem dX12_wrongs_73 : decode cX12_wrongs 73 = .ok (.iload 8, 2) := by decide +kernel
theorem dX12_wrongs_75 : decode cX12_wrongs 75 = .ok (.ifCond .ne 20, 3) := by decide +kernel
theorem dX12_wrongs_78 : decode cX12_wrongs 78 = .ok (.goto 13, 3) := by decide +kernel
theorem dX12_wrongs_81 : decode cX12_wrongs 81 = .ok (.iload 8, 2) := by decide +kernel
theorem dX12_wrongs_83 : decode cX12_wrongs 83 = .ok (.ifCond .eq 12, 3) := by decide +kernel
theorem dX12_wrongs_86 : decode cX12_wrongs 86 = .ok (.iload 7, 2) := by decide +kernel
theorem dX12_wrongs_88 : decode cX12_wrongs 88 = .ok (.ifCond .ne 7, 3) := by decide +kernel
theorem dX12_wrongs_91 : decode cX12_wrongs 91 = .ok (.iconst 1, 1) := by decide +kernel
theorem dX12_wrongs_92 : decode cX12_wrongs 92 = .ok (.goto 4, 3) := by decide +kernel
theorem dX12_wrongs_95 : decode cX12_wrongs 95 = .ok (.iconst 0, 1) := by decide +kernel
theorem dX12_wrongs_96 : decode cX12_wrongs 96 = .ok (.iadd, 1) := by decide +kernel
theorem dX12_wrongs_97 : decode cX12_wrongs 97 = .ok (.istore 5, 2) := by decide +kernel
theorem dX12_wrongs_99 : decode cX12_wrongs 99 = .ok (.iinc 6 1, 3) := by decide +kernel
theorem dX12_wrongs_102 : decode cX12_wrongs 102 = .ok (.goto (-85), 3) := by decide +kernel
theorem dX12_wrongs_105 : decode cX12_wrongs 105 = .ok (.aload_n 0, 1) := by decide +kernel
theorem dX12_wrongs_106 : decode cX12_wrongs 106 = .ok (.iload 4, 2) := by decide +kernel
theorem dX12_wrongs_108 : decode cX12_wrongs 108 = .ok (.putfield 247, 3) := by decide +kernel
theorem dX12_wrongs_111 : decode cX12_wrongs 111 = .ok (.iload 5, 2) := by decide +kernel
theorem dX12_wrongs_113 : decode cX12_wrongs 113 = .ok (.ireturn, 1) := by decide +kernel
theorem dX12_wrong_0 : decode cX12_wrong 0 = .ok (.iload_n 1, 1) := by decide +kernel
theorem dX12_wrong_1 : decode cX12_wrong 1 = .ok (.invokestatic 407, 3) := by decide +kernel
theorem dX12_wrong_4 : decode cX12_wrong 4 = .ok (.ifCond .eq 28, 3) := by decide +kernel
theorem dX12_wrong_7 : decode cX12_wrong 7 = .ok (.iload_n 2, 1) := by decide +kernel
theorem dX12_wrong_8 : decode cX12_wrong 8 = .ok (.i2l, 1) := by decide +kernel
theorem dX12_wrong_9 : decode cX12_wrong 9 = .ok (.lconst 0, 1) := by decide +kernel
theorem dX12_wrong_10 : decode cX12_wrong 10 = .ok (.aload_n 0, 1) := by decide +kernel
theorem dX12_wrong_11 : decode cX12_wrong 11 = .ok (.invokevirtual 401, 3) := by decide +kernel
theorem dX12_wrong_14 : decode cX12_wrong 14 = .ok (.i2l, 1) := by decide +kernel
theorem dX12_wrong_15 : decode cX12_wrong 15 = .ok (.invokestatic 138, 3) := by decide +kernel
theorem dX12_wrong_18 : decode cX12_wrong 18 = .ok (.ifCond .eq 14, 3) := by decide +kernel
theorem dX12_wrong_21 : decode cX12_wrong 21 = .ok (.iload 4, 2) := by decide +kernel
theorem dX12_wrong_23 : decode cX12_wrong 23 = .ok (.i2l, 1) := by decide +kernel
theorem dX12_wrong_24 : decode cX12_wrong 24 = .ok (.lconst 0, 1) := by decide +kernel
theorem dX12_wrong_25 : decode cX12_wrong 25 = .ok (.lconst 1, 1) := by decide +kernel
theorem dX12_wrong_26 : decode cX12_wrong 26 = .ok (.invokestatic 138, 3) := by decide +kernel
theorem dX12_wrong_29 : decode cX12_wrong 29 = .ok (.ifCond .ne 6, 3) := by decide +kernel
theorem dX12_wrong_32 : decode cX12_wrong 32 = .ok (.bipush (-2), 2) := by decide +kernel
theorem dX12_wrong_34 : decode cX12_wrong 34 = .ok (.ireturn, 1) := by decide +kernel
theorem dX12_wrong_35 : decode cX12_wrong 35 = .ok (.aload_n 0, 1) := by decide +kernel
theorem dX12_wrong_36 : decode cX12_wrong 36 = .ok (.iload_n 1, 1) := by decide +kernel
theorem dX12_wrong_37 : decode cX12_wrong 37 = .ok (.invokevirtual 410, 3) := by decide +kernel
theorem dX12_wrong_40 : decode cX12_wrong 40 = .ok (.istore 5, 2) := by decide +kernel
theorem dX12_wrong_42 : decode cX12_wrong 42 = .ok (.iload 5, 2) := by decide +kernel
theorem dX12_wrong_44 : decode cX12_wrong 44 = .ok (.ifCond .eq 6, 3) := by decide +kernel
theorem dX12_wrong_47 : decode cX12_wrong 47 = .ok (.iload 5, 2) := by decide +kernel
theorem dX12_wrong_49 : decode cX12_wrong 49 = .ok (.ireturn, 1) := by decide +kernel
theorem dX12_wrong_50 : decode cX12_wrong 50 = .ok (.iload_n 3, 1) := by decide +kernel
theorem dX12_wrong_51 : decode cX12_wrong 51 = .ok (.i2l, 1) := by decide +kernel
theorem dX12_wrong_52 : decode cX12_wrong 52 = .ok (.lconst 0, 1) := by decide +kernel
theorem dX12_wrong_53 : decode cX12_wrong 53 = .ok (.aload_n 0, 1) := by decide +kernel
theorem dX12_wrong_54 : decode cX12_wrong 54 = .ok (.getfield 108, 3) := by decide +kernel
theorem dX12_wrong_57 : decode cX12_wrong 57 = .ok (.iload_n 1, 1) := by decide +kernel
theorem dX12_wrong_58 : decode cX12_wrong 58 = .ok (.iaload, 1) := by decide +kernel
theorem dX12_wrong_59 : decode cX12_wrong 59 = .ok (.iconst 1, 1) := by decide +kernel
theorem dX12_wrong_60 : decode cX12_wrong 60 = .ok (.isub, 1) := by decide +kernel
theorem dX12_wrong_61 : decode cX12_wrong 61 = .ok (.i2l, 1) := by decide +kernel
theorem dX12_wrong_62 : decode cX12_wrong 62 = .ok (.invokestatic 138, 3) := by decide +kernel
theorem dX12_wrong_65 : decode cX12_wrong 65 = .ok (.ifCond .eq 24, 3) := by decide +kernel
theorem dX12_wrong_68 : decode cX12_wrong 68 = .ok (.aload_n 0, 1) := by decide +kernel
theorem dX12_wrong_69 : decode cX12_wrong 69 = .ok (.iload_n 2, 1) := by decide +kernel
theorem dX12_wrong_70 : decode cX12_wrong 70 = .ok (.aload_n 0, 1) := by decide +kernel
theorem dX12_wrong_71 : decode cX12_wrong 71 = .ok (.getfield 111, 3) := by decide +kernel
theorem dX12_wrong_74 : decode cX12_wrong 74 = .ok (.bipush 40, 2) := by decide +kernel
theorem dX12_wrong_76 : decode cX12_wrong 76 = .ok (.iload_n 1, 1) := by decide +kernel
theorem dX12_wrong_77 : decode cX12_wrong 77 = .ok (.imul, 1) := by decide +kernel
theorem dX12_wrong_78 : decode cX12_wrong 78 = .ok (.iload_n 3, 1) := by decide +kernel
theorem dX12_wrong_79 : decode cX12_wrong 79 = .ok (.iadd, 1) := by decide +kernel
theorem dX12_wrong_80 : decode cX12_wrong 80 = .ok (.iaload, 1) := by decide +kernel
theorem dX12_wrong_81 : decode cX12_wrong 81 = .ok (.iload 4, 2) := by decide +kernel
theorem dX12_wrong_83 : decode cX12_wrong 83 = .ok (.invokevirtual 413, 3) := by decide +kernel
theorem dX12_wrong_86 : decode cX12_wrong 86 = .ok (.goto 4, 3) := by decide +kernel
theorem dX12_wrong_89 : decode cX12_wrong 89 = .ok (.iconst (-1), 1) := by decide +kernel
theorem dX12_wrong_90 : decode cX12_wrong 90 = .ok (.ireturn, 1) := by decide +kernel
theorem dX12_best_0 : decode cX12_best 0 = .ok (.iload_n 1, 1) := by decide +kernel
theorem dX12_best_1 : decode cX12_best 1 = .ok (.invokestatic 407, 3) := by decide +kernel
theorem dX12_best_4 : decode cX12_best 4 = .ok (.ifCond .eq 29, 3) := by decide +kernel
theorem dX12_best_7 : decode cX12_best 7 = .ok (.iload_n 2, 1) := by decide +kernel
theorem dX12_best_8 : decode cX12_best 8 = .ok (.i2l, 1) := by decide +kernel
theorem dX12_best_9 : decode cX12_best 9 = .ok (.lconst 0, 1) := by decide +kernel
theorem dX12_best_10 : decode cX12_best 10 = .ok (.aload_n 0, 1) := by decide +kernel
theorem dX12_best_11 : decode cX12_best 11 = .ok (.invokevirtual 401, 3) := by decide +kernel
theorem dX12_best_14 : decode cX12_best 14 = .ok (.i2l, 1) := by decide +kernel
theorem dX12_best_15 : decode cX12_best 15 = .ok (.invokestatic 138, 3) := by decide +kernel
theorem dX12_best_18 : decode cX12_best 18 = .ok (.ifCond .eq 15, 3) := by decide +kernel
theorem dX12_best_21 : decode cX12_best 21 = .ok (.iload_n 3, 1) := by decide +kernel
theorem dX12_best_22 : decode cX12_best 22 = .ok (.i2l, 1) := by decide +kernel
theorem dX12_best_23 : decode cX12_best 23 = .ok (.lconst 0, 1) := by decide +kernel
theorem dX12_best_24 : decode cX12_best 24 = .ok (.ldc2_w 148, 3) := by decide +kernel
theorem dX12_best_27 : decode cX12_best 27 = .ok (.invokestatic 138, 3) := by decide +kernel
theorem dX12_best_30 : decode cX12_best 30 = .ok (.ifCond .ne 6, 3) := by decide +kernel
theorem dX12_best_33 : decode cX12_best 33 = .ok (.bipush (-2), 2) := by decide +kernel
theorem dX12_best_35 : decode cX12_best 35 = .ok (.ireturn, 1) := by decide +kernel
theorem dX12_best_36 : decode cX12_best 36 = .ok (.aload_n 0, 1) := by decide +kernel
theorem dX12_best_37 : decode cX12_best 37 = .ok (.iload_n 1, 1) := by decide +kernel
theorem dX12_best_38 : decode cX12_best 38 = .ok (.invokevirtual 410, 3) := by decide +kernel
theorem dX12_best_41 : decode cX12_best 41 = .ok (.istore 4, 2) := by decide +kernel
theorem dX12_best_43 : decode cX12_best 43 = .ok (.iload 4, 2) := by decide +kernel
theorem dX12_best_45 : decode cX12_best 45 = .ok (.ifCond .eq 6, 3) := by decide +kernel
theorem dX12_best_48 : decode cX12_best 48 = .ok (.iload 4, 2) := by decide +kernel
theorem dX12_best_50 : decode cX12_best 50 = .ok (.ireturn, 1) := by decide +kernel
theorem dX12_best_51 : decode cX12_best 51 = .ok (.iconst 0, 1) := by decide +kernel
theorem dX12_best_52 : decode cX12_best 52 = .ok (.istore 5, 2) := by decide +kernel
theorem dX12_best_54 : decode cX12_best 54 = .ok (.iconst (-1), 1) := by decide +kernel
theorem dX12_best_55 : decode cX12_best 55 = .ok (.istore 6, 2) := by decide +kernel
theorem dX12_best_57 : decode cX12_best 57 = .ok (.iconst 0, 1) := by decide +kernel
theorem dX12_best_58 : decode cX12_best 58 = .ok (.istore 7, 2) := by decide +kernel
theorem dX12_best_60 : decode cX12_best 60 = .ok (.iload 7, 2) := by decide +kernel
theorem dX12_best_62 : decode cX12_best 62 = .ok (.aload_n 0, 1) := by decide +kernel
theorem dX12_best_63 : decode cX12_best 63 = .ok (.getfield 108, 3) := by decide +kernel
theorem dX12_best_66 : decode cX12_best 66 = .ok (.iload_n 1, 1) := by decide +kernel
theorem dX12_best_67 : decode cX12_best 67 = .ok (.iaload, 1) := by decide +kernel
theorem dX12_best_68 : decode cX12_best 68 = .ok (.if_icmp .ge 76, 3) := by decide +kernel
theorem dX12_best_71 : decode cX12_best 71 = .ok (.aload_n 0, 1) := by decide +kernel
theorem dX12_best_72 : decode cX12_best 72 = .ok (.getfield 111, 3) := by decide +kernel
theorem dX12_best_75 : decode cX12_best 75 = .ok (.bipush 40, 2) := by decide +kernel
theorem dX12_best_77 : decode cX12_best 77 = .ok (.iload_n 1, 1) := by decide +kernel
theorem dX12_best_78 : decode cX12_best 78 = .ok (.imul, 1) := by decide +kernel
theorem dX12_best_79 : decode cX12_best 79 = .ok (.iload 7, 2) := by decide +kernel
theorem dX12_best_81 : decode cX12_best 81 = .ok (.iadd, 1) := by decide +kernel
theorem dX12_best_82 : decode cX12_best 82 = .ok (.iaload, 1) := by decide +kernel
theorem dX12_best_83 : decode cX12_best 83 = .ok (.istore 8, 2) := by decide +kernel
theorem dX12_best_85 : decode cX12_best 85 = .ok (.aload_n 0, 1) := by decide +kernel
theorem dX12_best_86 : decode cX12_best 86 = .ok (.iload_n 2, 1) := by decide +kernel
theorem dX12_best_87 : decode cX12_best 87 = .ok (.iload 8, 2) := by decide +kernel
theorem dX12_best_89 : decode cX12_best 89 = .ok (.iconst 0, 1) := by decide +kernel
theorem dX12_best_90 : decode cX12_best 90 = .ok (.invokevirtual 413, 3) := by decide +kernel
theorem dX12_best_93 : decode cX12_best 93 = .ok (.iload_n 3, 1) := by decide +kernel
theorem dX12_best_94 : decode cX12_best 94 = .ok (.bipush 100, 2) := by decide +kernel
theorem dX12_best_96 : decode cX12_best 96 = .ok (.idiv, 1) := by decide +kernel
theorem dX12_best_97 : decode cX12_best 97 = .ok (.imul, 1) := by decide +kernel
theorem dX12_best_98 : decode cX12_best 98 = .ok (.aload_n 0, 1) := by decide +kernel
theorem dX12_best_99 : decode cX12_best 99 = .ok (.iload_n 2, 1) := by decide +kernel
theorem dX12_best_100 : decode cX12_best 100 = .ok (.iload 8, 2) := by decide +kernel
theorem dX12_best_102 : decode cX12_best 102 = .ok (.iconst 1, 1) := by decide +kernel
theorem dX12_best_103 : decode cX12_best 103 = .ok (.invokevirtual 413, 3) := by decide +kernel
theorem dX12_best_106 : decode cX12_best 106 = .ok (.iload_n 3, 1) := by decide +kernel
theorem dX12_best_107 : decode cX12_best 107 = .ok (.bipush 100, 2) := by decide +kernel
theorem dX12_best_109 : decode cX12_best 109 = .ok (.irem, 1) := by decide +kernel
theorem dX12_best_110 : decode cX12_best 110 = .ok (.imul, 1) := by decide +kernel
theorem dX12_best_111 : decode cX12_best 111 = .ok (.iadd, 1) := by decide +kernel
theorem dX12_best_112 : decode cX12_best 112 = .ok (.istore 9, 2) := by decide +kernel
theorem dX12_best_114 : decode cX12_best 114 = .ok (.iload 6, 2) := by decide +kernel
theorem dX12_best_116 : decode cX12_best 116 = .ok (.iconst (-1), 1) := by decide +kernel
theorem dX12_best_117 : decode cX12_best 117 = .ok (.if_icmp .eq 13, 3) := by decide +kernel
theorem dX12_best_120 : decode cX12_best 120 = .ok (.iload 9, 2) := by decide +kernel
theorem dX12_best_122 : decode cX12_best 122 = .ok (.iload 6, 2) := by decide +kernel
theorem dX12_best_124 : decode cX12_best 124 = .ok (.if_icmp .lt 6, 3) := by decide +kernel
theorem dX12_best_127 : decode cX12_best 127 = .ok (.goto 11, 3) := by decide +kernel
theorem dX12_best_130 : decode cX12_best 130 = .ok (.iload 9, 2) := by decide +kernel
theorem dX12_best_132 : decode cX12_best 132 = .ok (.istore 6, 2) := by decide +kernel
theorem dX12_best_134 : decode cX12_best 134 = .ok (.iload 8, 2) := by decide +kernel
theorem dX12_best_136 : decode cX12_best 136 = .ok (.istore 5, 2) := by decide +kernel
theorem dX12_best_138 : decode cX12_best 138 = .ok (.iinc 7 1, 3) := by decide +kernel
theorem dX12_best_141 : decode cX12_best 141 = .ok (.goto (-81), 3) := by decide +kernel
theorem dX12_best_144 : decode cX12_best 144 = .ok (.iload 5, 2) := by decide +kernel
theorem dX12_best_146 : decode cX12_best 146 = .ok (.ireturn, 1) := by decide +kernel
theorem dX12_match_0 : decode cX12_match 0 = .ok (.iload_n 1, 1) := by decide +kernel
theorem dX12_match_1 : decode cX12_match 1 = .ok (.ifCond .lt 70, 3) := by decide +kernel
theorem dX12_match_4 : decode cX12_match 4 = .ok (.iload_n 1, 1) := by decide +kernel
theorem dX12_match_5 : decode cX12_match 5 = .ok (.bipush 10, 2) := by decide +kernel
theorem dX12_match_7 : decode cX12_match 7 = .ok (.idiv, 1) := by decide +kernel
theorem dX12_match_8 : decode cX12_match 8 = .ok (.i2l, 1) := by decide +kernel
theorem dX12_match_9 : decode cX12_match 9 = .ok (.lconst 0, 1) := by decide +kernel
theorem dX12_match_10 : decode cX12_match 10 = .ok (.ldc2_w 146, 3) := by decide +kernel
theorem dX12_match_13 : decode cX12_match 13 = .ok (.invokestatic 138, 3) := by decide +kernel
theorem dX12_match_16 : decode cX12_match 16 = .ok (.ifCond .eq 55, 3) := by decide +kernel
theorem dX12_match_19 : decode cX12_match 19 = .ok (.iload_n 1, 1) := by decide +kernel
theorem dX12_match_20 : decode cX12_match 20 = .ok (.bipush 10, 2) := by decide +kernel
theorem dX12_match_22 : decode cX12_match 22 = .ok (.irem, 1) := by decide +kernel
theorem dX12_match_23 : decode cX12_match 23 = .ok (.i2l, 1) := by decide +kernel
theorem dX12_match_24 : decode cX12_match 24 = .ok (.lconst 0, 1) := by decide +kernel
theorem dX12_match_25 : decode cX12_match 25 = .ok (.ldc2_w 146, 3) := by decide +kernel
theorem dX12_match_28 : decode cX12_match 28 = .ok (.invokestatic 138, 3) := by decide +kernel
theorem dX12_match_31 : decode cX12_match 31 = .ok (.ifCond .eq 40, 3) := by decide +kernel
theorem dX12_match_34 : decode cX12_match 34 = .ok (.iload_n 1, 1) := by decide +kernel
theorem dX12_match_35 : decode cX12_match 35 = .ok (.bipush 10, 2) := by decide +kernel
theorem dX12_match_37 : decode cX12_match 37 = .ok (.idiv, 1) := by decide +kernel
theorem dX12_match_38 : decode cX12_match 38 = .ok (.iload_n 1, 1) := by decide +kernel
theorem dX12_match_39 : decode cX12_match 39 = .ok (.bipush 10, 2) := by decide +kernel
theorem dX12_match_41 : decode cX12_match 41 = .ok (.irem, 1) := by decide +kernel
theorem dX12_match_42 : decode cX12_match 42 = .ok (.if_icmp .eq 29, 3) := by decide +kernel
theorem dX12_match_45 : decode cX12_match 45 = .ok (.iload_n 2, 1) := by decide +kernel
theorem dX12_match_46 : decode cX12_match 46 = .ok (.i2l, 1) := by decide +kernel
theorem dX12_match_47 : decode cX12_match 47 = .ok (.lconst 0, 1) := by decide +kernel
theorem dX12_match_48 : decode cX12_match 48 = .ok (.ldc2_w 152, 3) := by decide +kernel
theorem dX12_match_51 : decode cX12_match 51 = .ok (.invokestatic 138, 3) := by decide +kernel
theorem dX12_match_54 : decode cX12_match 54 = .ok (.ifCond .eq 17, 3) := by decide +kernel
theorem dX12_match_57 : decode cX12_match 57 = .ok (.iload_n 3, 1) := by decide +kernel
theorem dX12_match_58 : decode cX12_match 58 = .ok (.i2l, 1) := by decide +kernel
theorem dX12_match_59 : decode cX12_match 59 = .ok (.lconst 0, 1) := by decide +kernel
theorem dX12_match_60 : decode cX12_match 60 = .ok (.aload_n 0, 1) := by decide +kernel
theorem dX12_match_61 : decode cX12_match 61 = .ok (.invokevirtual 401, 3) := by decide +kernel
theorem dX12_match_64 : decode cX12_match 64 = .ok (.i2l, 1) := by decide +kernel
theorem dX12_match_65 : decode cX12_match 65 = .ok (.invokestatic 138, 3) := by decide +kernel
theorem dX12_match_68 : decode cX12_match 68 = .ok (.ifCond .ne 6, 3) := by decide +kernel
theorem dX12_match_71 : decode cX12_match 71 = .ok (.bipush (-2), 2) := by decide +kernel
theorem dX12_match_73 : decode cX12_match 73 = .ok (.ireturn, 1) := by decide +kernel
theorem dX12_match_74 : decode cX12_match 74 = .ok (.aload_n 0, 1) := by decide +kernel
theorem dX12_match_75 : decode cX12_match 75 = .ok (.getfield 417, 3) := by decide +kernel
theorem dX12_match_78 : decode cX12_match 78 = .ok (.bipush 12, 2) := by decide +kernel
theorem dX12_match_80 : decode cX12_match 80 = .ok (.if_icmp .ne 6, 3) := by decide +kernel
theorem dX12_match_83 : decode cX12_match 83 = .ok (.bipush (-4), 2) := by decide +kernel
theorem dX12_match_85 : decode cX12_match 85 = .ok (.ireturn, 1) := by decide +kernel
theorem dX12_match_86 : decode cX12_match 86 = .ok (.aload_n 0, 1) := by decide +kernel
theorem dX12_match_87 : decode cX12_match 87 = .ok (.getfield 68, 3) := by decide +kernel
theorem dX12_match_90 : decode cX12_match 90 = .ok (.aload_n 0, 1) := by decide +kernel
theorem dX12_match_91 : decode cX12_match 91 = .ok (.getfield 417, 3) := by decide +kernel
theorem dX12_match_94 : decode cX12_match 94 = .ok (.iload_n 1, 1) := by decide +kernel
theorem dX12_match_95 : decode cX12_match 95 = .ok (.bipush 10, 2) := by decide +kernel
theorem dX12_match_97 : decode cX12_match 97 = .ok (.idiv, 1) := by decide +kernel
theorem dX12_match_98 : decode cX12_match 98 = .ok (.iastore, 1) := by decide +kernel
theorem dX12_match_99 : decode cX12_match 99 = .ok (.aload_n 0, 1) := by decide +kernel
theorem dX12_match_100 : decode cX12_match 100 = .ok (.getfield 71, 3) := by decide +kernel
theorem dX12_match_103 : decode cX12_match 103 = .ok (.aload_n 0, 1) := by decide +kernel
theorem dX12_match_104 : decode cX12_match 104 = .ok (.getfield 417, 3) := by decide +kernel
theorem dX12_match_107 : decode cX12_match 107 = .ok (.iload_n 1, 1) := by decide +kernel
theorem dX12_match_108 : decode cX12_match 108 = .ok (.bipush 10, 2) := by decide +kernel
theorem dX12_match_110 : decode cX12_match 110 = .ok (.irem, 1) := by decide +kernel
theorem dX12_match_111 : decode cX12_match 111 = .ok (.iastore, 1) := by decide +kernel
theorem dX12_match_112 : decode cX12_match 112 = .ok (.aload_n 0, 1) := by decide +kernel
theorem dX12_match_113 : decode cX12_match 113 = .ok (.getfield 74, 3) := by decide +kernel
theorem dX12_match_116 : decode cX12_match 116 = .ok (.aload_n 0, 1) := by decide +kernel
theorem dX12_match_117 : decode cX12_match 117 = .ok (.getfield 417, 3) := by decide +kernel
theorem dX12_match_120 : decode cX12_match 120 = .ok (.iload_n 2, 1) := by decide +kernel
theorem dX12_match_121 : decode cX12_match 121 = .ok (.bipush 10, 2) := by decide +kernel
theorem dX12_match_123 : decode cX12_match 123 = .ok (.idiv, 1) := by decide +kernel
theorem dX12_match_124 : decode cX12_match 124 = .ok (.iastore, 1) := by decide +kernel
theorem dX12_match_125 : decode cX12_match 125 = .ok (.aload_n 0, 1) := by decide +kernel
theorem dX12_match_126 : decode cX12_match 126 = .ok (.getfield 77, 3) := by decide +kernel
theorem dX12_match_129 : decode cX12_match 129 = .ok (.aload_n 0, 1) := by decide +kernel
theorem dX12_match_130 : decode cX12_match 130 = .ok (.getfield 417, 3) := by decide +kernel
theorem dX12_match_133 : decode cX12_match 133 = .ok (.iload_n 2, 1) := by decide +kernel
theorem dX12_match_134 : decode cX12_match 134 = .ok (.bipush 10, 2) := by decide +kernel
theorem dX12_match_136 : decode cX12_match 136 = .ok (.irem, 1) := by decide +kernel
theorem dX12_match_137 : decode cX12_match 137 = .ok (.iastore, 1) := by decide +kernel
theorem dX12_match_138 : decode cX12_match 138 = .ok (.aload_n 0, 1) := by decide +kernel
theorem dX12_match_139 : decode cX12_match 139 = .ok (.getfield 80, 3) := by decide +kernel
theorem dX12_match_142 : decode cX12_match 142 = .ok (.aload_n 0, 1) := by decide +kernel
theorem dX12_match_143 : decode cX12_match 143 = .ok (.getfield 417, 3) := by decide +kernel
theorem dX12_match_146 : decode cX12_match 146 = .ok (.iload_n 3, 1) := by decide +kernel
theorem dX12_match_147 : decode cX12_match 147 = .ok (.iastore, 1) := by decide +kernel
theorem dX12_match_148 : decode cX12_match 148 = .ok (.aload_n 0, 1) := by decide +kernel
theorem dX12_match_149 : decode cX12_match 149 = .ok (.dup, 1) := by decide +kernel
theorem dX12_match_150 : decode cX12_match 150 = .ok (.getfield 417, 3) := by decide +kernel
theorem dX12_match_153 : decode cX12_match 153 = .ok (.iconst 1, 1) := by decide +kernel
theorem dX12_match_154 : decode cX12_match 154 = .ok (.iadd, 1) := by decide +kernel
theorem dX12_match_155 : decode cX12_match 155 = .ok (.putfield 417, 3) := by decide +kernel
theorem dX12_match_158 : decode cX12_match 158 = .ok (.aload_n 0, 1) := by decide +kernel
theorem dX12_match_159 : decode cX12_match 159 = .ok (.getfield 417, 3) := by decide +kernel
theorem dX12_match_162 : decode cX12_match 162 = .ok (.iconst 1, 1) := by decide +kernel
theorem dX12_match_163 : decode cX12_match 163 = .ok (.isub, 1) := by decide +kernel
theorem dX12_match_164 : decode cX12_match 164 = .ok (.ireturn, 1) := by decide +kernel
theorem dX12_counts_0 : decode cX12_counts 0 = .ok (.aload_n 0, 1) := by decide +kernel
theorem dX12_counts_1 : decode cX12_counts 1 = .ok (.getfield 83, 3) := by decide +kernel
theorem dX12_counts_4 : decode cX12_counts 4 = .ok (.iload_n 1, 1) := by decide +kernel
theorem dX12_counts_5 : decode cX12_counts 5 = .ok (.dup2, 1) := by decide +kernel
theorem dX12_counts_6 : decode cX12_counts 6 = .ok (.iaload, 1) := by decide +kernel
theorem dX12_counts_7 : decode cX12_counts 7 = .ok (.iload_n 2, 1) := by decide +kernel
theorem dX12_counts_8 : decode cX12_counts 8 = .ok (.iload_n 3, 1) := by decide +kernel
theorem dX12_counts_9 : decode cX12_counts 9 = .ok (.if_icmp .le 7, 3) := by decide +kernel
theorem dX12_counts_12 : decode cX12_counts 12 = .ok (.iconst 3, 1) := by decide +kernel
theorem dX12_counts_13 : decode cX12_counts 13 = .ok (.goto 13, 3) := by decide +kernel
theorem dX12_counts_16 : decode cX12_counts 16 = .ok (.iload_n 2, 1) := by decide +kernel
theorem dX12_counts_17 : decode cX12_counts 17 = .ok (.iload_n 3, 1) := by decide +kernel
theorem dX12_counts_18 : decode cX12_counts 18 = .ok (.if_icmp .ne 7, 3) := by decide +kernel
theorem dX12_counts_21 : decode cX12_counts 21 = .ok (.iconst 1, 1) := by decide +kernel
theorem dX12_counts_22 : decode cX12_counts 22 = .ok (.goto 4, 3) := by decide +kernel
theorem dX12_counts_25 : decode cX12_counts 25 = .ok (.iconst 0, 1) := by decide +kernel
theorem dX12_counts_26 : decode cX12_counts 26 = .ok (.iadd, 1) := by decide +kernel
theorem dX12_counts_27 : decode cX12_counts 27 = .ok (.iastore, 1) := by decide +kernel
theorem dX12_counts_28 : decode cX12_counts 28 = .ok (.aload_n 0, 1) := by decide +kernel
theorem dX12_counts_29 : decode cX12_counts 29 = .ok (.getfield 86, 3) := by decide +kernel
theorem dX12_counts_32 : decode cX12_counts 32 = .ok (.iload_n 1, 1) := by decide +kernel
theorem dX12_counts_33 : decode cX12_counts 33 = .ok (.dup2, 1) := by decide +kernel
theorem dX12_counts_34 : decode cX12_counts 34 = .ok (.iaload, 1) := by decide +kernel
theorem dX12_counts_35 : decode cX12_counts 35 = .ok (.iload_n 2, 1) := by decide +kernel
theorem dX12_counts_36 : decode cX12_counts 36 = .ok (.iadd, 1) := by decide +kernel
theorem dX12_counts_37 : decode cX12_counts 37 = .ok (.iastore, 1) := by decide +kernel
theorem dX12_counts_38 : decode cX12_counts 38 = .ok (.aload_n 0, 1) := by decide +kernel
theorem dX12_counts_39 : decode cX12_counts 39 = .ok (.getfield 89, 3) := by decide +kernel
theorem dX12_counts_42 : decode cX12_counts 42 = .ok (.iload_n 1, 1) := by decide +kernel
theorem dX12_counts_43 : decode cX12_counts 43 = .ok (.dup2, 1) := by decide +kernel
theorem dX12_counts_44 : decode cX12_counts 44 = .ok (.iaload, 1) := by decide +kernel
theorem dX12_counts_45 : decode cX12_counts 45 = .ok (.iload_n 3, 1) := by decide +kernel
theorem dX12_counts_46 : decode cX12_counts 46 = .ok (.iadd, 1) := by decide +kernel
theorem dX12_counts_47 : decode cX12_counts 47 = .ok (.iastore, 1) := by decide +kernel
theorem dX12_counts_48 : decode cX12_counts 48 = .ok (.return_, 1) := by decide +kernel
theorem dX12_tables_0 : decode cX12_tables 0 = .ok (.aload_n 0, 1) := by decide +kernel
theorem dX12_tables_1 : decode cX12_tables 1 = .ok (.getfield 247, 3) := by decide +kernel
theorem dX12_tables_4 : decode cX12_tables 4 = .ok (.istore_n 2, 1) := by decide +kernel
theorem dX12_tables_5 : decode cX12_tables 5 = .ok (.aload_n 0, 1) := by decide +kernel
theorem dX12_tables_6 : decode cX12_tables 6 = .ok (.iload_n 1, 1) := by decide +kernel
theorem dX12_tables_7 : decode cX12_tables 7 = .ok (.putfield 247, 3) := by decide +kernel
theorem dX12_tables_10 : decode cX12_tables 10 = .ok (.aload_n 0, 1) := by decide +kernel
theorem dX12_tables_11 : decode cX12_tables 11 = .ok (.aload_n 0, 1) := by decide +kernel
theorem dX12_tables_12 : decode cX12_tables 12 = .ok (.invokevirtual 401, 3) := by decide +kernel
theorem dX12_tables_15 : decode cX12_tables 15 = .ok (.invokevirtual 404, 3) := by decide +kernel
theorem dX12_tables_18 : decode cX12_tables 18 = .ok (.istore_n 3, 1) := by decide +kernel
theorem dX12_tables_19 : decode cX12_tables 19 = .ok (.iconst 0, 1) := by decide +kernel
theorem dX12_tables_20 : decode cX12_tables 20 = .ok (.istore 4, 2) := by decide +kernel
theorem dX12_tables_22 : decode cX12_tables 22 = .ok (.iload 4, 2) := by decide +kernel
theorem dX12_tables_24 : decode cX12_tables 24 = .ok (.iconst 4, 1) := by decide +kernel
theorem dX12_tables_25 : decode cX12_tables 25 = .ok (.if_icmp .ge 33, 3) := by decide +kernel
theorem dX12_tables_28 : decode cX12_tables 28 = .ok (.aload_n 0, 1) := by decide +kernel
theorem dX12_tables_29 : decode cX12_tables 29 = .ok (.getfield 83, 3) := by decide +kernel
theorem dX12_tables_32 : decode cX12_tables 32 = .ok (.iload 4, 2) := by decide +kernel
theorem dX12_tables_34 : decode cX12_tables 34 = .ok (.iconst 0, 1) := by decide +kernel
theorem dX12_tables_35 : decode cX12_tables 35 = .ok (.iastore, 1) := by decide +kernel
theorem dX12_tables_36 : decode cX12_tables 36 = .ok (.aload_n 0, 1) := by decide +kernel
theorem dX12_tables_37 : decode cX12_tables 37 = .ok (.getfield 86, 3) := by decide +kernel
theorem dX12_tables_40 : decode cX12_tables 40 = .ok (.iload 4, 2) := by decide +kernel
theorem dX12_tables_42 : decode cX12_tables 42 = .ok (.iconst 0, 1) := by decide +kernel
theorem dX12_tables_43 : decode cX12_tables 43 = .ok (.iastore, 1) := by decide +kernel
theorem dX12_tables_44 : decode cX12_tables 44 = .ok (.aload_n 0, 1) := by decide +kernel
theorem dX12_tables_45 : decode cX12_tables 45 = .ok (.getfield 89, 3) := by decide +kernel
theorem dX12_tables_48 : decode cX12_tables 48 = .ok (.iload 4, 2) := by decide +kernel
theorem dX12_tables_50 : decode cX12_tables 50 = .ok (.iconst 0, 1) := by decide +kernel
theorem dX12_tables_51 : decode cX12_tables 51 = .ok (.iastore, 1) := by decide +kernel
theorem dX12_tables_52 : decode cX12_tables 52 = .ok (.iinc 4 1, 3) := by decide +kernel
theorem dX12_tables_55 : decode cX12_tables 55 = .ok (.goto (-33), 3) := by decide +kernel
theorem dX12_tables_58 : decode cX12_tables 58 = .ok (.iconst 0, 1) := by decide +kernel
theorem dX12_tables_59 : decode cX12_tables 59 = .ok (.istore 4, 2) := by decide +kernel
theorem dX12_tables_61 : decode cX12_tables 61 = .ok (.iload 4, 2) := by decide +kernel
theorem dX12_tables_63 : decode cX12_tables 63 = .ok (.aload_n 0, 1) := by decide +kernel
theorem dX12_tables_64 : decode cX12_tables 64 = .ok (.getfield 417, 3) := by decide +kernel
theorem dX12_tables_67 : decode cX12_tables 67 = .ok (.if_icmp .ge 161, 3) := by decide +kernel
theorem dX12_tables_70 : decode cX12_tables 70 = .ok (.aload_n 0, 1) := by decide +kernel
theorem dX12_tables_71 : decode cX12_tables 71 = .ok (.getfield 74, 3) := by decide +kernel
theorem dX12_tables_74 : decode cX12_tables 74 = .ok (.iload 4, 2) := by decide +kernel
theorem dX12_tables_76 : decode cX12_tables 76 = .ok (.iaload, 1) := by decide +kernel
theorem dX12_tables_77 : decode cX12_tables 77 = .ok (.istore 5, 2) := by decide +kernel
theorem dX12_tables_79 : decode cX12_tables 79 = .ok (.aload_n 0, 1) := by decide +kernel
theorem dX12_tables_80 : decode cX12_tables 80 = .ok (.getfield 77, 3) := by decide +kernel
theorem dX12_tables_83 : decode cX12_tables 83 = .ok (.iload 4, 2) := by decide +kernel
theorem dX12_tables_85 : decode cX12_tables 85 = .ok (.iaload, 1) := by decide +kernel
theorem dX12_tables_86 : decode cX12_tables 86 = .ok (.istore 6, 2) := by decide +kernel
theorem dX12_tables_88 : decode cX12_tables 88 = .ok (.iconst 0, 1) := by decide +kernel
theorem dX12_tables_89 : decode cX12_tables 89 = .ok (.istore 7, 2) := by decide +kernel
theorem dX12_tables_91 : decode cX12_tables 91 = .ok (.iload 7, 2) := by decide +kernel
theorem dX12_tables_93 : decode cX12_tables 93 = .ok (.aload_n 0, 1) := by decide +kernel
theorem dX12_tables_94 : decode cX12_tables 94 = .ok (.getfield 363, 3) := by decide +kernel
theorem dX12_tables_97 : decode cX12_tables 97 = .ok (.if_icmp .ge 95, 3) := by decide +kernel
theorem dX12_tables_100 : decode cX12_tables 100 = .ok (.aload_n 0, 1) := by decide +kernel
theorem dX12_tables_101 : decode cX12_tables 101 = .ok (.getfield 80, 3) := by decide +kernel
theorem dX12_tables_104 : decode cX12_tables 104 = .ok (.iload 4, 2) := by decide +kernel
theorem dX12_tables_106 : decode cX12_tables 106 = .ok (.iaload, 1) := by decide +kernel
theorem dX12_tables_107 : decode cX12_tables 107 = .ok (.iload 7, 2) := by decide +kernel
theorem dX12_tables_109 : decode cX12_tables 109 = .ok (.ishr, 1) := by decide +kernel
theorem dX12_tables_110 : decode cX12_tables 110 = .ok (.iconst 1, 1) := by decide +kernel
theorem dX12_tables_111 : decode cX12_tables 111 = .ok (.iand, 1) := by decide +kernel
theorem dX12_tables_112 : decode cX12_tables 112 = .ok (.ifCond .eq 74, 3) := by decide +kernel
theorem dX12_tables_115 : decode cX12_tables 115 = .ok (.iload_n 3, 1) := by decide +kernel
theorem dX12_tables_116 : decode cX12_tables 116 = .ok (.iload 7, 2) := by decide +kernel
theorem dX12_tables_118 : decode cX12_tables 118 = .ok (.ishr, 1) := by decide +kernel
theorem dX12_tables_119 : decode cX12_tables 119 = .ok (.iconst 1, 1) := by decide +kernel
theorem dX12_tables_120 : decode cX12_tables 120 = .ok (.iand, 1) := by decide +kernel
theorem dX12_tables_121 : decode cX12_tables 121 = .ok (.iconst 1, 1) := by decide +kernel
theorem dX12_tables_122 : decode cX12_tables 122 = .ok (.if_icmp .ne 6, 3) := by decide +kernel
theorem dX12_tables_125 : decode cX12_tables 125 = .ok (.goto 61, 3) := by decide +kernel
theorem dX12_tables_128 : decode cX12_tables 128 = .ok (.aload_n 0, 1) := by decide +kernel
theorem dX12_tables_129 : decode cX12_tables 129 = .ok (.getfield 23, 3) := by decide +kernel
theorem dX12_tables_132 : decode cX12_tables 132 = .ok (.aload_n 0, 1) := by decide +kernel
theorem dX12_tables_133 : decode cX12_tables 133 = .ok (.getfield 53, 3) := by decide +kernel
theorem dX12_tables_136 : decode cX12_tables 136 = .ok (.iload 7, 2) := by decide +kernel
theorem dX12_tables_138 : decode cX12_tables 138 = .ok (.iaload, 1) := by decide +kernel
theorem dX12_tables_139 : decode cX12_tables 139 = .ok (.iaload, 1) := by decide +kernel
theorem dX12_tables_140 : decode cX12_tables 140 = .ok (.istore 8, 2) := by decide +kernel
theorem dX12_tables_142 : decode cX12_tables 142 = .ok (.iload 5, 2) := by decide +kernel
theorem dX12_tables_144 : decode cX12_tables 144 = .ok (.iload 8, 2) := by decide +kernel
theorem dX12_tables_146 : decode cX12_tables 146 = .ok (.aload_n 0, 1) := by decide +kernel
theorem dX12_tables_147 : decode cX12_tables 147 = .ok (.getfield 68, 3) := by decide +kernel
theorem dX12_tables_150 : decode cX12_tables 150 = .ok (.iload 4, 2) := by decide +kernel
theorem dX12_tables_152 : decode cX12_tables 152 = .ok (.iaload, 1) := by decide +kernel
theorem dX12_tables_153 : decode cX12_tables 153 = .ok (.if_icmp .ne 7, 3) := by decide +kernel
theorem dX12_tables_156 : decode cX12_tables 156 = .ok (.iconst 1, 1) := by decide +kernel
theorem dX12_tables_157 : decode cX12_tables 157 = .ok (.goto 4, 3) := by decide +kernel
theorem dX12_tables_160 : decode cX12_tables 160 = .ok (.iconst 0, 1) := by decide +kernel
theorem dX12_tables_161 : decode cX12_tables 161 = .ok (.iadd, 1) := by decide +kernel
theorem dX12_tables_162 : decode cX12_tables 162 = .ok (.istore 5, 2) := by decide +kernel
theorem dX12_tables_164 : decode cX12_tables 164 = .ok (.iload 6, 2) := by decide +kernel
theorem dX12_tables_166 : decode cX12_tables 166 = .ok (.iload 8, 2) := by decide +kernel
theorem dX12_tables_168 : decode cX12_tables 168 = .ok (.aload_n 0, 1) := by decide +kernel
theorem dX12_tables_169 : decode cX12_tables 169 = .ok (.getfield 71, 3) := by decide +kernel
theorem dX12_tables_172 : decode cX12_tables 172 = .ok (.iload 4, 2) := by decide +kernel
theorem dX12_tables_174 : decode cX12_tables 174 = .ok (.iaload, 1) := by decide +kernel
theorem dX12_tables_175 : decode cX12_tables 175 = .ok (.if_icmp .ne 7, 3) := by decide +kernel
theorem dX12_tables_178 : decode cX12_tables 178 = .ok (.iconst 1, 1) := by decide +kernel
theorem dX12_tables_179 : decode cX12_tables 179 = .ok (.goto 4, 3) := by decide +kernel
theorem dX12_tables_182 : decode cX12_tables 182 = .ok (.iconst 0, 1) := by decide +kernel
theorem dX12_tables_183 : decode cX12_tables 183 = .ok (.iadd, 1) := by decide +kernel
theorem dX12_tables_184 : decode cX12_tables 184 = .ok (.istore 6, 2) := by decide +kernel
theorem dX12_tables_186 : decode cX12_tables 186 = .ok (.iinc 7 1, 3) := by decide +kernel
theorem dX12_tables_189 : decode cX12_tables 189 = .ok (.goto (-98), 3) := by decide +kernel
theorem dX12_tables_192 : decode cX12_tables 192 = .ok (.aload_n 0, 1) := by decide +kernel
theorem dX12_tables_193 : decode cX12_tables 193 = .ok (.aload_n 0, 1) := by decide +kernel
theorem dX12_tables_194 : decode cX12_tables 194 = .ok (.getfield 68, 3) := by decide +kernel
theorem dX12_tables_197 : decode cX12_tables 197 = .ok (.iload 4, 2) := by decide +kernel
theorem dX12_tables_199 : decode cX12_tables 199 = .ok (.iaload, 1) := by decide +kernel
theorem dX12_tables_200 : decode cX12_tables 200 = .ok (.iload 5, 2) := by decide +kernel
theorem dX12_tables_202 : decode cX12_tables 202 = .ok (.iload 6, 2) := by decide +kernel
theorem dX12_tables_204 : decode cX12_tables 204 = .ok (.invokevirtual 420, 3) := by decide +kernel
theorem dX12_tables_207 : decode cX12_tables 207 = .ok (.aload_n 0, 1) := by decide +kernel
theorem dX12_tables_208 : decode cX12_tables 208 = .ok (.aload_n 0, 1) := by decide +kernel
theorem dX12_tables_209 : decode cX12_tables 209 = .ok (.getfield 71, 3) := by decide +kernel
theorem dX12_tables_212 : decode cX12_tables 212 = .ok (.iload 4, 2) := by decide +kernel
theorem dX12_tables_214 : decode cX12_tables 214 = .ok (.iaload, 1) := by decide +kernel
theorem dX12_tables_215 : decode cX12_tables 215 = .ok (.iload 6, 2) := by decide +kernel
theorem dX12_tables_217 : decode cX12_tables 217 = .ok (.iload 5, 2) := by decide +kernel
theorem dX12_tables_219 : decode cX12_tables 219 = .ok (.invokevirtual 420, 3) := by decide +kernel
theorem dX12_tables_222 : decode cX12_tables 222 = .ok (.iinc 4 1, 3) := by decide +kernel
theorem dX12_tables_225 : decode cX12_tables 225 = .ok (.goto (-164), 3) := by decide +kernel
theorem dX12_tables_228 : decode cX12_tables 228 = .ok (.aload_n 0, 1) := by decide +kernel
theorem dX12_tables_229 : decode cX12_tables 229 = .ok (.iload_n 2, 1) := by decide +kernel
theorem dX12_tables_230 : decode cX12_tables 230 = .ok (.putfield 247, 3) := by decide +kernel
theorem dX12_tables_233 : decode cX12_tables 233 = .ok (.return_, 1) := by decide +kernel
theorem dX12_isAbove_0 : decode cX12_isAbove 0 = .ok (.aload_n 0, 1) := by decide +kernel
theorem dX12_isAbove_1 : decode cX12_isAbove 1 = .ok (.getfield 83, 3) := by decide +kernel
theorem dX12_isAbove_4 : decode cX12_isAbove 4 = .ok (.iload_n 1, 1) := by decide +kernel
theorem dX12_isAbove_5 : decode cX12_isAbove 5 = .ok (.iaload, 1) := by decide +kernel
theorem dX12_isAbove_6 : decode cX12_isAbove 6 = .ok (.aload_n 0, 1) := by decide +kernel
theorem dX12_isAbove_7 : decode cX12_isAbove 7 = .ok (.getfield 83, 3) := by decide +kernel
theorem dX12_isAbove_10 : decode cX12_isAbove 10 = .ok (.iload_n 2, 1) := by decide +kernel
theorem dX12_isAbove_11 : decode cX12_isAbove 11 = .ok (.iaload, 1) := by decide +kernel
theorem dX12_isAbove_12 : decode cX12_isAbove 12 = .ok (.if_icmp .eq 24, 3) := by decide +kernel
theorem dX12_isAbove_15 : decode cX12_isAbove 15 = .ok (.aload_n 0, 1) := by decide +kernel
theorem dX12_isAbove_16 : decode cX12_isAbove 16 = .ok (.getfield 83, 3) := by decide +kernel
theorem dX12_isAbove_19 : decode cX12_isAbove 19 = .ok (.iload_n 1, 1) := by decide +kernel
theorem dX12_isAbove_20 : decode cX12_isAbove 20 = .ok (.iaload, 1) := by decide +kernel
theorem dX12_isAbove_21 : decode cX12_isAbove 21 = .ok (.aload_n 0, 1) := by decide +kernel
theorem dX12_isAbove_22 : decode cX12_isAbove 22 = .ok (.getfield 83, 3) := by decide +kernel
theorem dX12_isAbove_25 : decode cX12_isAbove 25 = .ok (.iload_n 2, 1) := by decide +kernel
theorem dX12_isAbove_26 : decode cX12_isAbove 26 = .ok (.iaload, 1) := by decide +kernel
theorem dX12_isAbove_27 : decode cX12_isAbove 27 = .ok (.if_icmp .le 7, 3) := by decide +kernel
theorem dX12_isAbove_30 : decode cX12_isAbove 30 = .ok (.iconst 1, 1) := by decide +kernel
theorem dX12_isAbove_31 : decode cX12_isAbove 31 = .ok (.goto 4, 3) := by decide +kernel
theorem dX12_isAbove_34 : decode cX12_isAbove 34 = .ok (.iconst 0, 1) := by decide +kernel
theorem dX12_isAbove_35 : decode cX12_isAbove 35 = .ok (.ireturn, 1) := by decide +kernel
theorem dX12_isAbove_36 : decode cX12_isAbove 36 = .ok (.aload_n 0, 1) := by decide +kernel
theorem dX12_isAbove_37 : decode cX12_isAbove 37 = .ok (.getfield 86, 3) := by decide +kernel
theorem dX12_isAbove_40 : decode cX12_isAbove 40 = .ok (.iload_n 1, 1) := by decide +kernel
theorem dX12_isAbove_41 : decode cX12_isAbove 41 = .ok (.iaload, 1) := by decide +kernel
theorem dX12_isAbove_42 : decode cX12_isAbove 42 = .ok (.aload_n 0, 1) := by decide +kernel
theorem dX12_isAbove_43 : decode cX12_isAbove 43 = .ok (.getfield 89, 3) := by decide +kernel
theorem dX12_isAbove_46 : decode cX12_isAbove 46 = .ok (.iload_n 1, 1) := by decide +kernel
theorem dX12_isAbove_47 : decode cX12_isAbove 47 = .ok (.iaload, 1) := by decide +kernel
theorem dX12_isAbove_48 : decode cX12_isAbove 48 = .ok (.isub, 1) := by decide +kernel
theorem dX12_isAbove_49 : decode cX12_isAbove 49 = .ok (.istore_n 3, 1) := by decide +kernel
theorem dX12_isAbove_50 : decode cX12_isAbove 50 = .ok (.aload_n 0, 1) := by decide +kernel
theorem dX12_isAbove_51 : decode cX12_isAbove 51 = .ok (.getfield 86, 3) := by decide +kernel
theorem dX12_isAbove_54 : decode cX12_isAbove 54 = .ok (.iload_n 2, 1) := by decide +kernel
theorem dX12_isAbove_55 : decode cX12_isAbove 55 = .ok (.iaload, 1) := by decide +kernel
theorem dX12_isAbove_56 : decode cX12_isAbove 56 = .ok (.aload_n 0, 1) := by decide +kernel
theorem dX12_isAbove_57 : decode cX12_isAbove 57 = .ok (.getfield 89, 3) := by decide +kernel
theorem dX12_isAbove_60 : decode cX12_isAbove 60 = .ok (.iload_n 2, 1) := by decide +kernel
theorem dX12_isAbove_61 : decode cX12_isAbove 61 = .ok (.iaload, 1) := by decide +kernel
theorem dX12_isAbove_62 : decode cX12_isAbove 62 = .ok (.isub, 1) := by decide +kernel
theorem dX12_isAbove_63 : decode cX12_isAbove 63 = .ok (.istore 4, 2) := by decide +kernel
theorem dX12_isAbove_65 : decode cX12_isAbove 65 = .ok (.iload_n 3, 1) := by decide +kernel
theorem dX12_isAbove_66 : decode cX12_isAbove 66 = .ok (.iload 4, 2) := by decide +kernel
theorem dX12_isAbove_68 : decode cX12_isAbove 68 = .ok (.if_icmp .eq 17, 3) := by decide +kernel
theorem dX12_isAbove_71 : decode cX12_isAbove 71 = .ok (.iload_n 3, 1) := by decide +kernel
theorem dX12_isAbove_72 : decode cX12_isAbove 72 = .ok (.iload 4, 2) := by decide +kernel
theorem dX12_isAbove_74 : decode cX12_isAbove 74 = .ok (.if_icmp .le 7, 3) := by decide +kernel
theorem dX12_isAbove_77 : decode cX12_isAbove 77 = .ok (.iconst 1, 1) := by decide +kernel
theorem dX12_isAbove_78 : decode cX12_isAbove 78 = .ok (.goto 27, 3) := by decide +kernel
theorem dX12_isAbove_81 : decode cX12_isAbove 81 = .ok (.iconst 0, 1) := by decide +kernel
theorem dX12_isAbove_82 : decode cX12_isAbove 82 = .ok (.goto 23, 3) := by decide +kernel
theorem dX12_isAbove_85 : decode cX12_isAbove 85 = .ok (.aload_n 0, 1) := by decide +kernel
theorem dX12_isAbove_86 : decode cX12_isAbove 86 = .ok (.getfield 86, 3) := by decide +kernel
theorem dX12_isAbove_89 : decode cX12_isAbove 89 = .ok (.iload_n 1, 1) := by decide +kernel
theorem dX12_isAbove_90 : decode cX12_isAbove 90 = .ok (.iaload, 1) := by decide +kernel
theorem dX12_isAbove_91 : decode cX12_isAbove 91 = .ok (.aload_n 0, 1) := by decide +kernel
theorem dX12_isAbove_92 : decode cX12_isAbove 92 = .ok (.getfield 86, 3) := by decide +kernel
theorem dX12_isAbove_95 : decode cX12_isAbove 95 = .ok (.iload_n 2, 1) := by decide +kernel
theorem dX12_isAbove_96 : decode cX12_isAbove 96 = .ok (.iaload, 1) := by decide +kernel
theorem dX12_isAbove_97 : decode cX12_isAbove 97 = .ok (.if_icmp .le 7, 3) := by decide +kernel
theorem dX12_isAbove_100 : decode cX12_isAbove 100 = .ok (.iconst 1, 1) := by decide +kernel
theorem dX12_isAbove_101 : decode cX12_isAbove 101 = .ok (.goto 4, 3) := by decide +kernel
theorem dX12_isAbove_104 : decode cX12_isAbove 104 = .ok (.iconst 0, 1) := by decide +kernel
theorem dX12_isAbove_105 : decode cX12_isAbove 105 = .ok (.ireturn, 1) := by decide +kernel
theorem dX12_rankOf_0 : decode cX12_rankOf 0 = .ok (.iconst 0, 1) := by decide +kernel
theorem dX12_rankOf_1 : decode cX12_rankOf 1 = .ok (.istore_n 2, 1) := by decide +kernel
theorem dX12_rankOf_2 : decode cX12_rankOf 2 = .ok (.iconst 0, 1) := by decide +kernel
theorem dX12_rankOf_3 : decode cX12_rankOf 3 = .ok (.istore_n 3, 1) := by decide +kernel
theorem dX12_rankOf_4 : decode cX12_rankOf 4 = .ok (.iload_n 3, 1) := by decide +kernel
theorem dX12_rankOf_5 : decode cX12_rankOf 5 = .ok (.iconst 4, 1) := by decide +kernel
theorem dX12_rankOf_6 : decode cX12_rankOf 6 = .ok (.if_icmp .ge 26, 3) := by decide +kernel
theorem dX12_rankOf_9 : decode cX12_rankOf 9 = .ok (.iload_n 2, 1) := by decide +kernel
theorem dX12_rankOf_10 : decode cX12_rankOf 10 = .ok (.aload_n 0, 1) := by decide +kernel
theorem dX12_rankOf_11 : decode cX12_rankOf 11 = .ok (.iload_n 3, 1) := by decide +kernel
theorem dX12_rankOf_12 : decode cX12_rankOf 12 = .ok (.iload_n 1, 1) := by decide +kernel
theorem dX12_rankOf_13 : decode cX12_rankOf 13 = .ok (.invokevirtual 424, 3) := by decide +kernel
theorem dX12_rankOf_16 : decode cX12_rankOf 16 = .ok (.ifCond .eq 7, 3) := by decide +kernel
theorem dX12_rankOf_19 : decode cX12_rankOf 19 = .ok (.iconst 1, 1) := by decide +kernel
theorem dX12_rankOf_20 : decode cX12_rankOf 20 = .ok (.goto 4, 3) := by decide +kernel
theorem dX12_rankOf_23 : decode cX12_rankOf 23 = .ok (.iconst 0, 1) := by decide +kernel
theorem dX12_rankOf_24 : decode cX12_rankOf 24 = .ok (.iadd, 1) := by decide +kernel
theorem dX12_rankOf_25 : decode cX12_rankOf 25 = .ok (.istore_n 2, 1) := by decide +kernel
theorem dX12_rankOf_26 : decode cX12_rankOf 26 = .ok (.iinc 3 1, 3) := by decide +kernel
theorem dX12_rankOf_29 : decode cX12_rankOf 29 = .ok (.goto (-25), 3) := by decide +kernel
theorem dX12_rankOf_32 : decode cX12_rankOf 32 = .ok (.iload_n 2, 1) := by decide +kernel
theorem dX12_rankOf_33 : decode cX12_rankOf 33 = .ok (.ireturn, 1) := by decide +kernel
theorem dX12_table_0 : decode cX12_table 0 = .ok (.iload_n 1, 1) := by decide +kernel
theorem dX12_table_1 : decode cX12_table 1 = .ok (.invokestatic 313, 3) := by decide +kernel
theorem dX12_table_4 : decode cX12_table 4 = .ok (.ifCond .eq 27, 3) := by decide +kernel
theorem dX12_table_7 : decode cX12_table 7 = .ok (.iload_n 2, 1) := by decide +kernel
theorem dX12_table_8 : decode cX12_table 8 = .ok (.i2l, 1) := by decide +kernel
theorem dX12_table_9 : decode cX12_table 9 = .ok (.lconst 0, 1) := by decide +kernel
theorem dX12_table_10 : decode cX12_table 10 = .ok (.ldc2_w 146, 3) := by decide +kernel
theorem dX12_table_13 : decode cX12_table 13 = .ok (.invokestatic 138, 3) := by decide +kernel
theorem dX12_table_16 : decode cX12_table 16 = .ok (.ifCond .eq 15, 3) := by decide +kernel
theorem dX12_table_19 : decode cX12_table 19 = .ok (.iload_n 3, 1) := by decide +kernel
theorem dX12_table_20 : decode cX12_table 20 = .ok (.i2l, 1) := by decide +kernel
theorem dX12_table_21 : decode cX12_table 21 = .ok (.lconst 0, 1) := by decide +kernel
theorem dX12_table_22 : decode cX12_table 22 = .ok (.ldc2_w 146, 3) := by decide +kernel
theorem dX12_table_25 : decode cX12_table 25 = .ok (.invokestatic 138, 3) := by decide +kernel
theorem dX12_table_28 : decode cX12_table 28 = .ok (.ifCond .ne 6, 3) := by decide +kernel
theorem dX12_table_31 : decode cX12_table 31 = .ok (.bipush (-2), 2) := by decide +kernel
theorem dX12_table_33 : decode cX12_table 33 = .ok (.ireturn, 1) := by decide +kernel
theorem dX12_table_34 : decode cX12_table 34 = .ok (.aload_n 0, 1) := by decide +kernel
theorem dX12_table_35 : decode cX12_table 35 = .ok (.iload_n 1, 1) := by decide +kernel
theorem dX12_table_36 : decode cX12_table 36 = .ok (.invokevirtual 427, 3) := by decide +kernel
theorem dX12_table_39 : decode cX12_table 39 = .ok (.iload_n 3, 1) := by decide +kernel
theorem dX12_table_40 : decode cX12_table 40 = .ok (.ifCond .ne 12, 3) := by decide +kernel
theorem dX12_table_43 : decode cX12_table 43 = .ok (.aload_n 0, 1) := by decide +kernel
theorem dX12_table_44 : decode cX12_table 44 = .ok (.getfield 83, 3) := by decide +kernel
theorem dX12_table_47 : decode cX12_table 47 = .ok (.iload_n 2, 1) := by decide +kernel
theorem dX12_table_48 : decode cX12_table 48 = .ok (.iaload, 1) := by decide +kernel
theorem dX12_table_49 : decode cX12_table 49 = .ok (.goto 36, 3) := by decide +kernel
theorem dX12_table_52 : decode cX12_table 52 = .ok (.iload_n 3, 1) := by decide +kernel
theorem dX12_table_53 : decode cX12_table 53 = .ok (.iconst 1, 1) := by decide +kernel
theorem dX12_table_54 : decode cX12_table 54 = .ok (.if_icmp .ne 12, 3) := by decide +kernel
theorem dX12_table_57 : decode cX12_table 57 = .ok (.aload_n 0, 1) := by decide +kernel
theorem dX12_table_58 : decode cX12_table 58 = .ok (.getfield 86, 3) := by decide +kernel
theorem dX12_table_61 : decode cX12_table 61 = .ok (.iload_n 2, 1) := by decide +kernel
theorem dX12_table_62 : decode cX12_table 62 = .ok (.iaload, 1) := by decide +kernel
theorem dX12_table_63 : decode cX12_table 63 = .ok (.goto 22, 3) := by decide +kernel
theorem dX12_table_66 : decode cX12_table 66 = .ok (.iload_n 3, 1) := by decide +kernel
theorem dX12_table_67 : decode cX12_table 67 = .ok (.iconst 2, 1) := by decide +kernel
theorem dX12_table_68 : decode cX12_table 68 = .ok (.if_icmp .ne 12, 3) := by decide +kernel
theorem dX12_table_71 : decode cX12_table 71 = .ok (.aload_n 0, 1) := by decide +kernel
theorem dX12_table_72 : decode cX12_table 72 = .ok (.getfield 89, 3) := by decide +kernel
theorem dX12_table_75 : decode cX12_table 75 = .ok (.iload_n 2, 1) := by decide +kernel
theorem dX12_table_76 : decode cX12_table 76 = .ok (.iaload, 1) := by decide +kernel
theorem dX12_table_77 : decode cX12_table 77 = .ok (.goto 8, 3) := by decide +kernel
theorem dX12_table_80 : decode cX12_table 80 = .ok (.aload_n 0, 1) := by decide +kernel
theorem dX12_table_81 : decode cX12_table 81 = .ok (.iload_n 2, 1) := by decide +kernel
theorem dX12_table_82 : decode cX12_table 82 = .ok (.invokevirtual 431, 3) := by decide +kernel
theorem dX12_table_85 : decode cX12_table 85 = .ok (.ireturn, 1) := by decide +kernel
theorem dX12_ranks_0 : decode cX12_ranks 0 = .ok (.aload_n 0, 1) := by decide +kernel
theorem dX12_ranks_1 : decode cX12_ranks 1 = .ok (.iload_n 1, 1) := by decide +kernel
theorem dX12_ranks_2 : decode cX12_ranks 2 = .ok (.invokevirtual 427, 3) := by decide +kernel
theorem dX12_ranks_5 : decode cX12_ranks 5 = .ok (.iconst 0, 1) := by decide +kernel
theorem dX12_ranks_6 : decode cX12_ranks 6 = .ok (.istore_n 2, 1) := by decide +kernel
theorem dX12_ranks_7 : decode cX12_ranks 7 = .ok (.iconst 0, 1) := by decide +kernel
theorem dX12_ranks_8 : decode cX12_ranks 8 = .ok (.istore_n 3, 1) := by decide +kernel
theorem dX12_ranks_9 : decode cX12_ranks 9 = .ok (.iload_n 3, 1) := by decide +kernel
theorem dX12_ranks_10 : decode cX12_ranks 10 = .ok (.iconst 4, 1) := by decide +kernel
theorem dX12_ranks_11 : decode cX12_ranks 11 = .ok (.if_icmp .ge 20, 3) := by decide +kernel
theorem dX12_ranks_14 : decode cX12_ranks 14 = .ok (.bipush 10, 2) := by decide +kernel
theorem dX12_ranks_16 : decode cX12_ranks 16 = .ok (.iload_n 2, 1) := by decide +kernel
theorem dX12_ranks_17 : decode cX12_ranks 17 = .ok (.imul, 1) := by decide +kernel
theorem dX12_ranks_18 : decode cX12_ranks 18 = .ok (.aload_n 0, 1) := by decide +kernel
theorem dX12_ranks_19 : decode cX12_ranks 19 = .ok (.iload_n 3, 1) := by decide +kernel
theorem dX12_ranks_20 : decode cX12_ranks 20 = .ok (.invokevirtual 431, 3) := by decide +kernel
theorem dX12_ranks_23 : decode cX12_ranks 23 = .ok (.iadd, 1) := by decide +kernel
theorem dX12_ranks_24 : decode cX12_ranks 24 = .ok (.istore_n 2, 1) := by decide +kernel
theorem dX12_ranks_25 : decode cX12_ranks 25 = .ok (.iinc 3 1, 3) := by decide +kernel
theorem dX12_ranks_28 : decode cX12_ranks 28 = .ok (.goto (-19), 3) := by decide +kernel
theorem dX12_ranks_31 : decode cX12_ranks 31 = .ok (.iload_n 2, 1) := by decide +kernel
theorem dX12_ranks_32 : decode cX12_ranks 32 = .ok (.ireturn, 1) := by decide +kernel
theorem dX12_season_0 : decode cX12_season 0 = .ok (.iload_n 1, 1) := by decide +kernel
theorem dX12_season_1 : decode cX12_season 1 = .ok (.invokestatic 407, 3) := by decide +kernel
theorem dX12_season_4 : decode cX12_season 4 = .ok (.ifCond .ne 6, 3) := by decide +kernel
theorem dX12_season_7 : decode cX12_season 7 = .ok (.bipush (-2), 2) := by decide +kernel
theorem dX12_season_9 : decode cX12_season 9 = .ok (.ireturn, 1) := by decide +kernel
theorem dX12_season_10 : decode cX12_season 10 = .ok (.aload_n 0, 1) := by decide +kernel
theorem dX12_season_11 : decode cX12_season 11 = .ok (.iload_n 1, 1) := by decide +kernel
theorem dX12_season_12 : decode cX12_season 12 = .ok (.invokevirtual 410, 3) := by decide +kernel
theorem dX12_season_15 : decode cX12_season 15 = .ok (.istore_n 2, 1) := by decide +kernel
theorem dX12_season_16 : decode cX12_season 16 = .ok (.iload_n 2, 1) := by decide +kernel
theorem dX12_season_17 : decode cX12_season 17 = .ok (.ifCond .eq 5, 3) := by decide +kernel
theorem dX12_season_20 : decode cX12_season 20 = .ok (.iload_n 2, 1) := by decide +kernel
theorem dX12_season_21 : decode cX12_season 21 = .ok (.ireturn, 1) := by decide +kernel
theorem dX12_season_22 : decode cX12_season 22 = .ok (.iconst 0, 1) := by decide +kernel
theorem dX12_season_23 : decode cX12_season 23 = .ok (.istore_n 3, 1) := by decide +kernel
theorem dX12_season_24 : decode cX12_season 24 = .ok (.aload_n 0, 1) := by decide +kernel
theorem dX12_season_25 : decode cX12_season 25 = .ok (.aload_n 0, 1) := by decide +kernel
theorem dX12_season_26 : decode cX12_season 26 = .ok (.getfield 111, 3) := by decide +kernel
theorem dX12_season_29 : decode cX12_season 29 = .ok (.bipush 40, 2) := by decide +kernel
theorem dX12_season_31 : decode cX12_season 31 = .ok (.iload_n 1, 1) := by decide +kernel
theorem dX12_season_32 : decode cX12_season 32 = .ok (.imul, 1) := by decide +kernel
theorem dX12_season_33 : decode cX12_season 33 = .ok (.iaload, 1) := by decide +kernel
theorem dX12_season_34 : decode cX12_season 34 = .ok (.invokevirtual 434, 3) := by decide +kernel
theorem dX12_season_37 : decode cX12_season 37 = .ok (.istore 4, 2) := by decide +kernel
theorem dX12_season_39 : decode cX12_season 39 = .ok (.iconst 1, 1) := by decide +kernel
theorem dX12_season_40 : decode cX12_season 40 = .ok (.istore 5, 2) := by decide +kernel
theorem dX12_season_42 : decode cX12_season 42 = .ok (.iload 5, 2) := by decide +kernel
theorem dX12_season_44 : decode cX12_season 44 = .ok (.aload_n 0, 1) := by decide +kernel
theorem dX12_season_45 : decode cX12_season 45 = .ok (.getfield 108, 3) := by decide +kernel
theorem dX12_season_48 : decode cX12_season 48 = .ok (.iload_n 1, 1) := by decide +kernel
theorem dX12_season_49 : decode cX12_season 49 = .ok (.iaload, 1) := by decide +kernel
theorem dX12_season_50 : decode cX12_season 50 = .ok (.if_icmp .ge 46, 3) := by decide +kernel
theorem dX12_season_53 : decode cX12_season 53 = .ok (.aload_n 0, 1) := by decide +kernel
theorem dX12_season_54 : decode cX12_season 54 = .ok (.aload_n 0, 1) := by decide +kernel
theorem dX12_season_55 : decode cX12_season 55 = .ok (.getfield 111, 3) := by decide +kernel
theorem dX12_season_58 : decode cX12_season 58 = .ok (.bipush 40, 2) := by decide +kernel
theorem dX12_season_60 : decode cX12_season 60 = .ok (.iload_n 1, 1) := by decide +kernel
theorem dX12_season_61 : decode cX12_season 61 = .ok (.imul, 1) := by decide +kernel
theorem dX12_season_62 : decode cX12_season 62 = .ok (.iload 5, 2) := by decide +kernel
theorem dX12_season_64 : decode cX12_season 64 = .ok (.iadd, 1) := by decide +kernel
theorem dX12_season_65 : decode cX12_season 65 = .ok (.iaload, 1) := by decide +kernel
theorem dX12_season_66 : decode cX12_season 66 = .ok (.invokevirtual 434, 3) := by decide +kernel
theorem dX12_season_69 : decode cX12_season 69 = .ok (.istore 6, 2) := by decide +kernel
theorem dX12_season_71 : decode cX12_season 71 = .ok (.iload_n 3, 1) := by decide +kernel
theorem dX12_season_72 : decode cX12_season 72 = .ok (.iload 6, 2) := by decide +kernel
theorem dX12_season_74 : decode cX12_season 74 = .ok (.iload 4, 2) := by decide +kernel
theorem dX12_season_76 : decode cX12_season 76 = .ok (.if_icmp .ne 7, 3) := by decide +kernel
theorem dX12_season_79 : decode cX12_season 79 = .ok (.iconst 0, 1) := by decide +kernel
theorem dX12_season_80 : decode cX12_season 80 = .ok (.goto 4, 3) := by decide +kernel
theorem dX12_season_83 : decode cX12_season 83 = .ok (.iconst 1, 1) := by decide +kernel
theorem dX12_season_84 : decode cX12_season 84 = .ok (.iadd, 1) := by decide +kernel
theorem dX12_season_85 : decode cX12_season 85 = .ok (.istore_n 3, 1) := by decide +kernel
theorem dX12_season_86 : decode cX12_season 86 = .ok (.iload 6, 2) := by decide +kernel
theorem dX12_season_88 : decode cX12_season 88 = .ok (.istore 4, 2) := by decide +kernel
theorem dX12_season_90 : decode cX12_season 90 = .ok (.iinc 5 1, 3) := by decide +kernel
theorem dX12_season_93 : decode cX12_season 93 = .ok (.goto (-51), 3) := by decide +kernel
theorem dX12_season_96 : decode cX12_season 96 = .ok (.iload_n 3, 1) := by decide +kernel
theorem dX12_season_97 : decode cX12_season 97 = .ok (.ireturn, 1) := by decide +kernel
theorem dX12_stand_0 : decode cX12_stand 0 = .ok (.iload_n 1, 1) := by decide +kernel
theorem dX12_stand_1 : decode cX12_stand 1 = .ok (.i2l, 1) := by decide +kernel
theorem dX12_stand_2 : decode cX12_stand 2 = .ok (.lconst 0, 1) := by decide +kernel
theorem dX12_stand_3 : decode cX12_stand 3 = .ok (.ldc2_w 146, 3) := by decide +kernel
theorem dX12_stand_6 : decode cX12_stand 6 = .ok (.invokestatic 138, 3) := by decide +kernel
theorem dX12_stand_9 : decode cX12_stand 9 = .ok (.ifCond .eq 24, 3) := by decide +kernel
theorem dX12_stand_12 : decode cX12_stand 12 = .ok (.iload_n 2, 1) := by decide +kernel
theorem dX12_stand_13 : decode cX12_stand 13 = .ok (.invokestatic 313, 3) := by decide +kernel
theorem dX12_stand_16 : decode cX12_stand 16 = .ok (.ifCond .eq 17, 3) := by decide +kernel
theorem dX12_stand_19 : decode cX12_stand 19 = .ok (.iload_n 3, 1) := by decide +kernel
theorem dX12_stand_20 : decode cX12_stand 20 = .ok (.i2l, 1) := by decide +kernel
theorem dX12_stand_21 : decode cX12_stand 21 = .ok (.lconst 0, 1) := by decide +kernel
theorem dX12_stand_22 : decode cX12_stand 22 = .ok (.aload_n 0, 1) := by decide +kernel
theorem dX12_stand_23 : decode cX12_stand 23 = .ok (.invokevirtual 401, 3) := by decide +kernel
theorem dX12_stand_26 : decode cX12_stand 26 = .ok (.i2l, 1) := by decide +kernel
theorem dX12_stand_27 : decode cX12_stand 27 = .ok (.invokestatic 138, 3) := by decide +kernel
theorem dX12_stand_30 : decode cX12_stand 30 = .ok (.ifCond .ne 6, 3) := by decide +kernel
theorem dX12_stand_33 : decode cX12_stand 33 = .ok (.bipush (-2), 2) := by decide +kernel
theorem dX12_stand_35 : decode cX12_stand 35 = .ok (.ireturn, 1) := by decide +kernel
theorem dX12_stand_36 : decode cX12_stand 36 = .ok (.aload_n 0, 1) := by decide +kernel
theorem dX12_stand_37 : decode cX12_stand 37 = .ok (.getfield 247, 3) := by decide +kernel
theorem dX12_stand_40 : decode cX12_stand 40 = .ok (.istore 4, 2) := by decide +kernel
theorem dX12_stand_42 : decode cX12_stand 42 = .ok (.aload_n 0, 1) := by decide +kernel
theorem dX12_stand_43 : decode cX12_stand 43 = .ok (.iload_n 1, 1) := by decide +kernel
theorem dX12_stand_44 : decode cX12_stand 44 = .ok (.putfield 319, 3) := by decide +kernel
theorem dX12_stand_47 : decode cX12_stand 47 = .ok (.aload_n 0, 1) := by decide +kernel
theorem dX12_stand_48 : decode cX12_stand 48 = .ok (.iload_n 2, 1) := by decide +kernel
theorem dX12_stand_49 : decode cX12_stand 49 = .ok (.aload_n 0, 1) := by decide +kernel
theorem dX12_stand_50 : decode cX12_stand 50 = .ok (.getfield 247, 3) := by decide +kernel
theorem dX12_stand_53 : decode cX12_stand 53 = .ok (.isub, 1) := by decide +kernel
theorem dX12_stand_54 : decode cX12_stand 54 = .ok (.iconst 2, 1) := by decide +kernel
theorem dX12_stand_55 : decode cX12_stand 55 = .ok (.idiv, 1) := by decide +kernel
theorem dX12_stand_56 : decode cX12_stand 56 = .ok (.putfield 316, 3) := by decide +kernel
theorem dX12_stand_59 : decode cX12_stand 59 = .ok (.aload_n 0, 1) := by decide +kernel
theorem dX12_stand_60 : decode cX12_stand 60 = .ok (.iload_n 2, 1) := by decide +kernel
theorem dX12_stand_61 : decode cX12_stand 61 = .ok (.putfield 247, 3) := by decide +kernel
theorem dX12_stand_64 : decode cX12_stand 64 = .ok (.iconst 0, 1) := by decide +kernel
theorem dX12_stand_65 : decode cX12_stand 65 = .ok (.istore 5, 2) := by decide +kernel
theorem dX12_stand_67 : decode cX12_stand 67 = .ok (.iconst 0, 1) := by decide +kernel
theorem dX12_stand_68 : decode cX12_stand 68 = .ok (.istore 6, 2) := by decide +kernel
theorem dX12_stand_70 : decode cX12_stand 70 = .ok (.iload 6, 2) := by decide +kernel
theorem dX12_stand_72 : decode cX12_stand 72 = .ok (.aload_n 0, 1) := by decide +kernel
theorem dX12_stand_73 : decode cX12_stand 73 = .ok (.getfield 363, 3) := by decide +kernel
theorem dX12_stand_76 : decode cX12_stand 76 = .ok (.if_icmp .ge 48, 3) := by decide +kernel
theorem dX12_stand_79 : decode cX12_stand 79 = .ok (.iload 5, 2) := by decide +kernel
theorem dX12_stand_81 : decode cX12_stand 81 = .ok (.iload_n 3, 1) := by decide +kernel
theorem dX12_stand_82 : decode cX12_stand 82 = .ok (.iload 6, 2) := by decide +kernel
theorem dX12_stand_84 : decode cX12_stand 84 = .ok (.ishr, 1) := by decide +kernel
theorem dX12_stand_85 : decode cX12_stand 85 = .ok (.iconst 1, 1) := by decide +kernel
theorem dX12_stand_86 : decode cX12_stand 86 = .ok (.iand, 1) := by decide +kernel
theorem dX12_stand_87 : decode cX12_stand 87 = .ok (.iconst 1, 1) := by decide +kernel
theorem dX12_stand_88 : decode cX12_stand 88 = .ok (.if_icmp .ne 26, 3) := by decide +kernel
theorem dX12_stand_91 : decode cX12_stand 91 = .ok (.aload_n 0, 1) := by decide +kernel
theorem dX12_stand_92 : decode cX12_stand 92 = .ok (.getfield 23, 3) := by decide +kernel
theorem dX12_stand_95 : decode cX12_stand 95 = .ok (.aload_n 0, 1) := by decide +kernel
theorem dX12_stand_96 : decode cX12_stand 96 = .ok (.getfield 53, 3) := by decide +kernel
theorem dX12_stand_99 : decode cX12_stand 99 = .ok (.iload 6, 2) := by decide +kernel
theorem dX12_stand_101 : decode cX12_stand 101 = .ok (.iaload, 1) := by decide +kernel
theorem dX12_stand_102 : decode cX12_stand 102 = .ok (.iaload, 1) := by decide +kernel
theorem dX12_stand_103 : decode cX12_stand 103 = .ok (.iload_n 1, 1) := by decide +kernel
theorem dX12_stand_104 : decode cX12_stand 104 = .ok (.if_icmp .ne 10, 3) := by decide +kernel
theorem dX12_stand_107 : decode cX12_stand 107 = .ok (.iconst 1, 1) := by decide +kernel
theorem dX12_stand_108 : decode cX12_stand 108 = .ok (.iload 6, 2) := by decide +kernel
theorem dX12_stand_110 : decode cX12_stand 110 = .ok (.ishl, 1) := by decide +kernel
theorem dX12_stand_111 : decode cX12_stand 111 = .ok (.goto 4, 3) := by decide +kernel
theorem dX12_stand_114 : decode cX12_stand 114 = .ok (.iconst 0, 1) := by decide +kernel
theorem dX12_stand_115 : decode cX12_stand 115 = .ok (.ior, 1) := by decide +kernel
theorem dX12_stand_116 : decode cX12_stand 116 = .ok (.istore 5, 2) := by decide +kernel
theorem dX12_stand_118 : decode cX12_stand 118 = .ok (.iinc 6 1, 3) := by decide +kernel
theorem dX12_stand_121 : decode cX12_stand 121 = .ok (.goto (-51), 3) := by decide +kernel
theorem dX12_stand_124 : decode cX12_stand 124 = .ok (.aload_n 0, 1) := by decide +kernel
theorem dX12_stand_125 : decode cX12_stand 125 = .ok (.iload 5, 2) := by decide +kernel
theorem dX12_stand_127 : decode cX12_stand 127 = .ok (.invokevirtual 404, 3) := by decide +kernel
theorem dX12_stand_130 : decode cX12_stand 130 = .ok (.istore 6, 2) := by decide +kernel
theorem dX12_stand_132 : decode cX12_stand 132 = .ok (.aload_n 0, 1) := by decide +kernel
theorem dX12_stand_133 : decode cX12_stand 133 = .ok (.iconst 0, 1) := by decide +kernel
theorem dX12_stand_134 : decode cX12_stand 134 = .ok (.putfield 316, 3) := by decide +kernel
theorem dX12_stand_137 : decode cX12_stand 137 = .ok (.aload_n 0, 1) := by decide +kernel
theorem dX12_stand_138 : decode cX12_stand 138 = .ok (.iload 4, 2) := by decide +kernel
theorem dX12_stand_140 : decode cX12_stand 140 = .ok (.putfield 247, 3) := by decide +kernel
theorem dX12_stand_143 : decode cX12_stand 143 = .ok (.iload 6, 2) := by decide +kernel
theorem dX12_stand_145 : decode cX12_stand 145 = .ok (.ireturn, 1) := by decide +kernel
theorem dX12_shown_0 : decode cX12_shown 0 = .ok (.iload_n 1, 1) := by decide +kernel
theorem dX12_shown_1 : decode cX12_shown 1 = .ok (.i2l, 1) := by decide +kernel
theorem dX12_shown_2 : decode cX12_shown 2 = .ok (.lconst 0, 1) := by decide +kernel
theorem dX12_shown_3 : decode cX12_shown 3 = .ok (.ldc2_w 437, 3) := by decide +kernel
theorem dX12_shown_6 : decode cX12_shown 6 = .ok (.invokestatic 138, 3) := by decide +kernel
theorem dX12_shown_9 : decode cX12_shown 9 = .ok (.ifCond .eq 15, 3) := by decide +kernel
theorem dX12_shown_12 : decode cX12_shown 12 = .ok (.iload_n 2, 1) := by decide +kernel
theorem dX12_shown_13 : decode cX12_shown 13 = .ok (.i2l, 1) := by decide +kernel
theorem dX12_shown_14 : decode cX12_shown 14 = .ok (.lconst 0, 1) := by decide +kernel
theorem dX12_shown_15 : decode cX12_shown 15 = .ok (.ldc2_w 146, 3) := by decide +kernel
theorem dX12_shown_18 : decode cX12_shown 18 = .ok (.invokestatic 138, 3) := by decide +kernel
theorem dX12_shown_21 : decode cX12_shown 21 = .ok (.ifCond .ne 6, 3) := by decide +kernel
theorem dX12_shown_24 : decode cX12_shown 24 = .ok (.bipush (-2), 2) := by decide +kernel
theorem dX12_shown_26 : decode cX12_shown 26 = .ok (.ireturn, 1) := by decide +kernel
theorem dX12_shown_27 : decode cX12_shown 27 = .ok (.aload_n 0, 1) := by decide +kernel
theorem dX12_shown_28 : decode cX12_shown 28 = .ok (.getfield 439, 3) := by decide +kernel
theorem dX12_shown_31 : decode cX12_shown 31 = .ok (.bipush 40, 2) := by decide +kernel
theorem dX12_shown_33 : decode cX12_shown 33 = .ok (.if_icmp .ne 6, 3) := by decide +kernel
theorem dX12_shown_36 : decode cX12_shown 36 = .ok (.bipush (-4), 2) := by decide +kernel
theorem dX12_shown_38 : decode cX12_shown 38 = .ok (.ireturn, 1) := by decide +kernel
theorem dX12_shown_39 : decode cX12_shown 39 = .ok (.aload_n 0, 1) := by decide +kernel
theorem dX12_shown_40 : decode cX12_shown 40 = .ok (.getfield 92, 3) := by decide +kernel
theorem dX12_shown_43 : decode cX12_shown 43 = .ok (.aload_n 0, 1) := by decide +kernel
theorem dX12_shown_44 : decode cX12_shown 44 = .ok (.getfield 439, 3) := by decide +kernel
theorem dX12_shown_47 : decode cX12_shown 47 = .ok (.iload_n 1, 1) := by decide +kernel
theorem dX12_shown_48 : decode cX12_shown 48 = .ok (.iastore, 1) := by decide +kernel
theorem dX12_shown_49 : decode cX12_shown 49 = .ok (.aload_n 0, 1) := by decide +kernel
theorem dX12_shown_50 : decode cX12_shown 50 = .ok (.getfield 95, 3) := by decide +kernel
theorem dX12_shown_53 : decode cX12_shown 53 = .ok (.aload_n 0, 1) := by decide +kernel
theorem dX12_shown_54 : decode cX12_shown 54 = .ok (.getfield 439, 3) := by decide +kernel
theorem dX12_shown_57 : decode cX12_shown 57 = .ok (.iload_n 2, 1) := by decide +kernel
theorem dX12_shown_58 : decode cX12_shown 58 = .ok (.iastore, 1) := by decide +kernel
theorem dX12_shown_59 : decode cX12_shown 59 = .ok (.aload_n 0, 1) := by decide +kernel
theorem dX12_shown_60 : decode cX12_shown 60 = .ok (.dup, 1) := by decide +kernel
theorem dX12_shown_61 : decode cX12_shown 61 = .ok (.getfield 439, 3) := by decide +kernel
theorem dX12_shown_64 : decode cX12_shown 64 = .ok (.iconst 1, 1) := by decide +kernel
theorem dX12_shown_65 : decode cX12_shown 65 = .ok (.iadd, 1) := by decide +kernel
theorem dX12_shown_66 : decode cX12_shown 66 = .ok (.putfield 439, 3) := by decide +kernel
theorem dX12_shown_69 : decode cX12_shown 69 = .ok (.aload_n 0, 1) := by decide +kernel
theorem dX12_shown_70 : decode cX12_shown 70 = .ok (.getfield 439, 3) := by decide +kernel
theorem dX12_shown_73 : decode cX12_shown 73 = .ok (.iconst 1, 1) := by decide +kernel
theorem dX12_shown_74 : decode cX12_shown 74 = .ok (.isub, 1) := by decide +kernel
theorem dX12_shown_75 : decode cX12_shown 75 = .ok (.ireturn, 1) := by decide +kernel
theorem dX12_bitsOf_0 : decode cX12_bitsOf 0 = .ok (.iconst 0, 1) := by decide +kernel
theorem dX12_bitsOf_1 : decode cX12_bitsOf 1 = .ok (.istore_n 1, 1) := by decide +kernel
theorem dX12_bitsOf_2 : decode cX12_bitsOf 2 = .ok (.iload_n 0, 1) := by decide +kernel
theorem dX12_bitsOf_3 : decode cX12_bitsOf 3 = .ok (.istore_n 2, 1) := by decide +kernel
theorem dX12_bitsOf_4 : decode cX12_bitsOf 4 = .ok (.iload_n 2, 1) := by decide +kernel
theorem dX12_bitsOf_5 : decode cX12_bitsOf 5 = .ok (.ifCond .eq 15, 3) := by decide +kernel
theorem dX12_bitsOf_8 : decode cX12_bitsOf 8 = .ok (.iinc 1 1, 3) := by decide +kernel
theorem dX12_bitsOf_11 : decode cX12_bitsOf 11 = .ok (.iload_n 2, 1) := by decide +kernel
theorem dX12_bitsOf_12 : decode cX12_bitsOf 12 = .ok (.iload_n 2, 1) := by decide +kernel
theorem dX12_bitsOf_13 : decode cX12_bitsOf 13 = .ok (.iconst 1, 1) := by decide +kernel
theorem dX12_bitsOf_14 : decode cX12_bitsOf 14 = .ok (.isub, 1) := by decide +kernel
theorem dX12_bitsOf_15 : decode cX12_bitsOf 15 = .ok (.iand, 1) := by decide +kernel
theorem dX12_bitsOf_16 : decode cX12_bitsOf 16 = .ok (.istore_n 2, 1) := by decide +kernel
theorem dX12_bitsOf_17 : decode cX12_bitsOf 17 = .ok (.goto (-13), 3) := by decide +kernel
theorem dX12_bitsOf_20 : decode cX12_bitsOf 20 = .ok (.iload_n 1, 1) := by decide +kernel
theorem dX12_bitsOf_21 : decode cX12_bitsOf 21 = .ok (.ireturn, 1) := by decide +kernel
theorem dX12_split_0 : decode cX12_split 0 = .ok (.iconst (-1), 1) := by decide +kernel
theorem dX12_split_1 : decode cX12_split 1 = .ok (.istore_n 1, 1) := by decide +kernel
theorem dX12_split_2 : decode cX12_split 2 = .ok (.iconst 0, 1) := by decide +kernel
theorem dX12_split_3 : decode cX12_split 3 = .ok (.istore_n 2, 1) := by decide +kernel
theorem dX12_split_4 : decode cX12_split 4 = .ok (.iload_n 2, 1) := by decide +kernel
theorem dX12_split_5 : decode cX12_split 5 = .ok (.bipush 64, 2) := by decide +kernel
theorem dX12_split_7 : decode cX12_split 7 = .ok (.if_icmp .ge 123, 3) := by decide +kernel
theorem dX12_split_10 : decode cX12_split 10 = .ok (.iload_n 1, 1) := by decide +kernel
theorem dX12_split_11 : decode cX12_split 11 = .ok (.iconst (-1), 1) := by decide +kernel
theorem dX12_split_12 : decode cX12_split 12 = .ok (.if_icmp .eq 14, 3) := by decide +kernel
theorem dX12_split_15 : decode cX12_split 15 = .ok (.iload_n 2, 1) := by decide +kernel
theorem dX12_split_16 : decode cX12_split 16 = .ok (.invokestatic 442, 3) := by decide +kernel
theorem dX12_split_19 : decode cX12_split 19 = .ok (.iload_n 1, 1) := by decide +kernel
theorem dX12_split_20 : decode cX12_split 20 = .ok (.invokestatic 442, 3) := by decide +kernel
theorem dX12_split_23 : decode cX12_split 23 = .ok (.if_icmp .ge 7, 3) := by decide +kernel
theorem dX12_split_26 : decode cX12_split 26 = .ok (.iconst 1, 1) := by decide +kernel
theorem dX12_split_27 : decode cX12_split 27 = .ok (.goto 4, 3) := by decide +kernel
theorem dX12_split_30 : decode cX12_split 30 = .ok (.iconst 0, 1) := by decide +kernel
theorem dX12_split_31 : decode cX12_split 31 = .ok (.istore_n 3, 1) := by decide +kernel
theorem dX12_split_32 : decode cX12_split 32 = .ok (.iconst 0, 1) := by decide +kernel
theorem dX12_split_33 : decode cX12_split 33 = .ok (.istore 4, 2) := by decide +kernel
theorem dX12_split_35 : decode cX12_split 35 = .ok (.iload 4, 2) := by decide +kernel
theorem dX12_split_37 : decode cX12_split 37 = .ok (.aload_n 0, 1) := by decide +kernel
theorem dX12_split_38 : decode cX12_split 38 = .ok (.getfield 439, 3) := by decide +kernel
theorem dX12_split_41 : decode cX12_split 41 = .ok (.if_icmp .ge 77, 3) := by decide +kernel
theorem dX12_split_44 : decode cX12_split 44 = .ok (.iload_n 3, 1) := by decide +kernel
theorem dX12_split_45 : decode cX12_split 45 = .ok (.ifCond .eq 73, 3) := by decide +kernel
theorem dX12_split_48 : decode cX12_split 48 = .ok (.iconst 0, 1) := by decide +kernel
theorem dX12_split_49 : decode cX12_split 49 = .ok (.istore 5, 2) := by decide +kernel
theorem dX12_split_51 : decode cX12_split 51 = .ok (.iload 5, 2) := by decide +kernel
theorem dX12_split_53 : decode cX12_split 53 = .ok (.iload 4, 2) := by decide +kernel
theorem dX12_split_55 : decode cX12_split 55 = .ok (.if_icmp .ge 57, 3) := by decide +kernel
theorem dX12_split_58 : decode cX12_split 58 = .ok (.iload_n 3, 1) := by decide +kernel
theorem dX12_split_59 : decode cX12_split 59 = .ok (.ifCond .eq 53, 3) := by decide +kernel
theorem dX12_split_62 : decode cX12_split 62 = .ok (.aload_n 0, 1) := by decide +kernel
theorem dX12_split_63 : decode cX12_split 63 = .ok (.getfield 92, 3) := by decide +kernel
theorem dX12_split_66 : decode cX12_split 66 = .ok (.iload 4, 2) := by decide +kernel
theorem dX12_split_68 : decode cX12_split 68 = .ok (.iaload, 1) := by decide +kernel
theorem dX12_split_69 : decode cX12_split 69 = .ok (.iload_n 2, 1) := by decide +kernel
theorem dX12_split_70 : decode cX12_split 70 = .ok (.iand, 1) := by decide +kernel
theorem dX12_split_71 : decode cX12_split 71 = .ok (.aload_n 0, 1) := by decide +kernel
theorem dX12_split_72 : decode cX12_split 72 = .ok (.getfield 92, 3) := by decide +kernel
theorem dX12_split_75 : decode cX12_split 75 = .ok (.iload 5, 2) := by decide +kernel
theorem dX12_split_77 : decode cX12_split 77 = .ok (.iaload, 1) := by decide +kernel
theorem dX12_split_78 : decode cX12_split 78 = .ok (.iload_n 2, 1) := by decide +kernel
theorem dX12_split_79 : decode cX12_split 79 = .ok (.iand, 1) := by decide +kernel
theorem dX12_split_80 : decode cX12_split 80 = .ok (.if_icmp .ne 20, 3) := by decide +kernel
theorem dX12_split_83 : decode cX12_split 83 = .ok (.aload_n 0, 1) := by decide +kernel
theorem dX12_split_84 : decode cX12_split 84 = .ok (.getfield 95, 3) := by decide +kernel
theorem dX12_split_87 : decode cX12_split 87 = .ok (.iload 4, 2) := by decide +kernel
theorem dX12_split_89 : decode cX12_split 89 = .ok (.iaload, 1) := by decide +kernel
theorem dX12_split_90 : decode cX12_split 90 = .ok (.aload_n 0, 1) := by decide +kernel
theorem dX12_split_91 : decode cX12_split 91 = .ok (.getfield 95, 3) := by decide +kernel
theorem dX12_split_94 : decode cX12_split 94 = .ok (.iload 5, 2) := by decide +kernel
theorem dX12_split_96 : decode cX12_split 96 = .ok (.iaload, 1) := by decide +kernel
theorem dX12_split_97 : decode cX12_split 97 = .ok (.if_icmp .ne 7, 3) := by decide +kernel
theorem dX12_split_100 : decode cX12_split 100 = .ok (.iconst 1, 1) := by decide +kernel
theorem dX12_split_101 : decode cX12_split 101 = .ok (.goto 4, 3) := by decide +kernel
theorem dX12_split_104 : decode cX12_split 104 = .ok (.iconst 0, 1) := by decide +kernel
theorem dX12_split_105 : decode cX12_split 105 = .ok (.istore_n 3, 1) := by decide +kernel
theorem dX12_split_106 : decode cX12_split 106 = .ok (.iinc 5 1, 3) := by decide +kernel
theorem dX12_split_109 : decode cX12_split 109 = .ok (.goto (-58), 3) := by decide +kernel
theorem dX12_split_112 : decode cX12_split 112 = .ok (.iinc 4 1, 3) := by decide +kernel
theorem dX12_split_115 : decode cX12_split 115 = .ok (.goto (-80), 3) := by decide +kernel
theorem dX12_split_118 : decode cX12_split 118 = .ok (.iload_n 3, 1) := by decide +kernel
theorem dX12_split_119 : decode cX12_split 119 = .ok (.ifCond .eq 5, 3) := by decide +kernel
theorem dX12_split_122 : decode cX12_split 122 = .ok (.iload_n 2, 1) := by decide +kernel
theorem dX12_split_123 : decode cX12_split 123 = .ok (.istore_n 1, 1) := by decide +kernel
theorem dX12_split_124 : decode cX12_split 124 = .ok (.iinc 2 1, 3) := by decide +kernel
theorem dX12_split_127 : decode cX12_split 127 = .ok (.goto (-123), 3) := by decide +kernel
theorem dX12_split_130 : decode cX12_split 130 = .ok (.iload_n 1, 1) := by decide +kernel
theorem dX12_split_131 : decode cX12_split 131 = .ok (.ireturn, 1) := by decide +kernel
theorem dX12_image_0 : decode cX12_image 0 = .ok (.aload_n 0, 1) := by decide +kernel
theorem dX12_image_1 : decode cX12_image 1 = .ok (.iconst 1, 1) := by decide +kernel
theorem dX12_image_2 : decode cX12_image 2 = .ok (.putfield 445, 3) := by decide +kernel
theorem dX12_image_5 : decode cX12_image 5 = .ok (.aload_n 0, 1) := by decide +kernel
theorem dX12_image_6 : decode cX12_image 6 = .ok (.aload_n 0, 1) := by decide +kernel
theorem dX12_image_7 : decode cX12_image 7 = .ok (.getfield 135, 3) := by decide +kernel
theorem dX12_image_10 : decode cX12_image 10 = .ok (.putfield 448, 3) := by decide +kernel
theorem dX12_image_13 : decode cX12_image 13 = .ok (.aload_n 0, 1) := by decide +kernel
theorem dX12_image_14 : decode cX12_image 14 = .ok (.aload_n 0, 1) := by decide +kernel
theorem dX12_image_15 : decode cX12_image 15 = .ok (.getfield 247, 3) := by decide +kernel
theorem dX12_image_18 : decode cX12_image 18 = .ok (.putfield 451, 3) := by decide +kernel
theorem dX12_image_21 : decode cX12_image 21 = .ok (.aload_n 0, 1) := by decide +kernel
theorem dX12_image_22 : decode cX12_image 22 = .ok (.aload_n 0, 1) := by decide +kernel
theorem dX12_image_23 : decode cX12_image 23 = .ok (.getfield 303, 3) := by decide +kernel
theorem dX12_image_26 : decode cX12_image 26 = .ok (.putfield 454, 3) := by decide +kernel
theorem dX12_image_29 : decode cX12_image 29 = .ok (.iconst 0, 1) := by decide +kernel
theorem dX12_image_30 : decode cX12_image 30 = .ok (.istore_n 1, 1) := by decide +kernel
theorem dX12_image_31 : decode cX12_image 31 = .ok (.iload_n 1, 1) := by decide +kernel
theorem dX12_image_32 : decode cX12_image 32 = .ok (.aload_n 0, 1) := by decide +kernel
theorem dX12_image_33 : decode cX12_image 33 = .ok (.getfield 135, 3) := by decide +kernel
theorem dX12_image_36 : decode cX12_image 36 = .ok (.if_icmp .ge 77, 3) := by decide +kernel
theorem dX12_image_39 : decode cX12_image 39 = .ok (.aload_n 0, 1) := by decide +kernel
theorem dX12_image_40 : decode cX12_image 40 = .ok (.getfield 98, 3) := by decide +kernel
theorem dX12_image_43 : decode cX12_image 43 = .ok (.bipush 6, 2) := by decide +kernel
theorem dX12_image_45 : decode cX12_image 45 = .ok (.iload_n 1, 1) := by decide +kernel
theorem dX12_image_46 : decode cX12_image 46 = .ok (.imul, 1) := by decide +kernel
theorem dX12_image_47 : decode cX12_image 47 = .ok (.aload_n 0, 1) := by decide +kernel
theorem dX12_image_48 : decode cX12_image 48 = .ok (.getfield 26, 3) := by decide +kernel
theorem dX12_image_51 : decode cX12_image 51 = .ok (.iload_n 1, 1) := by decide +kernel
theorem dX12_image_52 : decode cX12_image 52 = .ok (.iaload, 1) := by decide +kernel
theorem dX12_image_53 : decode cX12_image 53 = .ok (.iastore, 1) := by decide +kernel
theorem dX12_image_54 : decode cX12_image 54 = .ok (.aload_n 0, 1) := by decide +kernel
theorem dX12_image_55 : decode cX12_image 55 = .ok (.getfield 98, 3) := by decide +kernel
theorem dX12_image_58 : decode cX12_image 58 = .ok (.bipush 6, 2) := by decide +kernel
theorem dX12_image_60 : decode cX12_image 60 = .ok (.iload_n 1, 1) := by decide +kernel
theorem dX12_image_61 : decode cX12_image 61 = .ok (.imul, 1) := by decide +kernel
theorem dX12_image_62 : decode cX12_image 62 = .ok (.iconst 1, 1) := by decide +kernel
theorem dX12_image_63 : decode cX12_image 63 = .ok (.iadd, 1) := by decide +kernel
theorem dX12_image_64 : decode cX12_image 64 = .ok (.aload_n 0, 1) := by decide +kernel
theorem dX12_image_65 : decode cX12_image 65 = .ok (.getfield 29, 3) := by decide +kernel
theorem dX12_image_68 : decode cX12_image 68 = .ok (.iload_n 1, 1) := by decide +kernel
theorem dX12_image_69 : decode cX12_image 69 = .ok (.iaload, 1) := by decide +kernel
theorem dX12_image_70 : decode cX12_image 70 = .ok (.iastore, 1) := by decide +kernel
theorem dX12_image_71 : decode cX12_image 71 = .ok (.iconst 0, 1) := by decide +kernel
theorem dX12_image_72 : decode cX12_image 72 = .ok (.istore_n 2, 1) := by decide +kernel
theorem dX12_image_73 : decode cX12_image 73 = .ok (.iload_n 2, 1) := by decide +kernel
theorem dX12_image_74 : decode cX12_image 74 = .ok (.iconst 4, 1) := by decide +kernel
theorem dX12_image_75 : decode cX12_image 75 = .ok (.if_icmp .ge 32, 3) := by decide +kernel
theorem dX12_image_78 : decode cX12_image 78 = .ok (.aload_n 0, 1) := by decide +kernel
theorem dX12_image_79 : decode cX12_image 79 = .ok (.getfield 98, 3) := by decide +kernel
theorem dX12_image_82 : decode cX12_image 82 = .ok (.bipush 6, 2) := by decide +kernel
theorem dX12_image_84 : decode cX12_image 84 = .ok (.iload_n 1, 1) := by decide +kernel
theorem dX12_image_85 : decode cX12_image 85 = .ok (.imul, 1) := by decide +kernel
theorem dX12_image_86 : decode cX12_image 86 = .ok (.iconst 2, 1) := by decide +kernel
theorem dX12_image_87 : decode cX12_image 87 = .ok (.iadd, 1) := by decide +kernel
theorem dX12_image_88 : decode cX12_image 88 = .ok (.iload_n 2, 1) := by decide +kernel
theorem dX12_image_89 : decode cX12_image 89 = .ok (.iadd, 1) := by decide +kernel
theorem dX12_image_90 : decode cX12_image 90 = .ok (.aload_n 0, 1) := by decide +kernel
theorem dX12_image_91 : decode cX12_image 91 = .ok (.getfield 32, 3) := by decide +kernel
theorem dX12_image_94 : decode cX12_image 94 = .ok (.iconst 4, 1) := by decide +kernel
theorem dX12_image_95 : decode cX12_image 95 = .ok (.iload_n 1, 1) := by decide +kernel
theorem dX12_image_96 : decode cX12_image 96 = .ok (.imul, 1) := by decide +kernel
theorem dX12_image_97 : decode cX12_image 97 = .ok (.iload_n 2, 1) := by decide +kernel
theorem dX12_image_98 : decode cX12_image 98 = .ok (.iadd, 1) := by decide +kernel
theorem dX12_image_99 : decode cX12_image 99 = .ok (.iaload, 1) := by decide +kernel
theorem dX12_image_100 : decode cX12_image 100 = .ok (.iastore, 1) := by decide +kernel
theorem dX12_image_101 : decode cX12_image 101 = .ok (.iinc 2 1, 3) := by decide +kernel
theorem dX12_image_104 : decode cX12_image 104 = .ok (.goto (-31), 3) := by decide +kernel
theorem dX12_image_107 : decode cX12_image 107 = .ok (.iinc 1 1, 3) := by decide +kernel
theorem dX12_image_110 : decode cX12_image 110 = .ok (.goto (-79), 3) := by decide +kernel
theorem dX12_image_113 : decode cX12_image 113 = .ok (.aload_n 0, 1) := by decide +kernel
theorem dX12_image_114 : decode cX12_image 114 = .ok (.getfield 247, 3) := by decide +kernel
theorem dX12_image_117 : decode cX12_image 117 = .ok (.ireturn, 1) := by decide +kernel
theorem dX12_back_0 : decode cX12_back 0 = .ok (.aload_n 0, 1) := by decide +kernel
theorem dX12_back_1 : decode cX12_back 1 = .ok (.getfield 445, 3) := by decide +kernel
theorem dX12_back_4 : decode cX12_back 4 = .ok (.ifCond .ne 6, 3) := by decide +kernel
theorem dX12_back_7 : decode cX12_back 7 = .ok (.bipush (-3), 2) := by decide +kernel
theorem dX12_back_9 : decode cX12_back 9 = .ok (.ireturn, 1) := by decide +kernel
theorem dX12_back_10 : decode cX12_back 10 = .ok (.aload_n 0, 1) := by decide +kernel
theorem dX12_back_11 : decode cX12_back 11 = .ok (.aload_n 0, 1) := by decide +kernel
theorem dX12_back_12 : decode cX12_back 12 = .ok (.getfield 451, 3) := by decide +kernel
theorem dX12_back_15 : decode cX12_back 15 = .ok (.putfield 247, 3) := by decide +kernel
theorem dX12_back_18 : decode cX12_back 18 = .ok (.aload_n 0, 1) := by decide +kernel
theorem dX12_back_19 : decode cX12_back 19 = .ok (.aload_n 0, 1) := by decide +kernel
theorem dX12_back_20 : decode cX12_back 20 = .ok (.getfield 454, 3) := by decide +kernel
theorem dX12_back_23 : decode cX12_back 23 = .ok (.putfield 303, 3) := by decide +kernel
theorem dX12_back_26 : decode cX12_back 26 = .ok (.iconst 0, 1) := by decide +kernel
theorem dX12_back_27 : decode cX12_back 27 = .ok (.istore_n 1, 1) := by decide +kernel
theorem dX12_back_28 : decode cX12_back 28 = .ok (.iload_n 1, 1) := by decide +kernel
theorem dX12_back_29 : decode cX12_back 29 = .ok (.aload_n 0, 1) := by decide +kernel
theorem dX12_back_30 : decode cX12_back 30 = .ok (.getfield 448, 3) := by decide +kernel
theorem dX12_back_33 : decode cX12_back 33 = .ok (.if_icmp .ge 77, 3) := by decide +kernel
theorem dX12_back_36 : decode cX12_back 36 = .ok (.aload_n 0, 1) := by decide +kernel
theorem dX12_back_37 : decode cX12_back 37 = .ok (.getfield 26, 3) := by decide +kernel
theorem dX12_back_40 : decode cX12_back 40 = .ok (.iload_n 1, 1) := by decide +kernel
theorem dX12_back_41 : decode cX12_back 41 = .ok (.aload_n 0, 1) := by decide +kernel
theorem dX12_back_42 : decode cX12_back 42 = .ok (.getfield 98, 3) := by decide +kernel
theorem dX12_back_45 : decode cX12_back 45 = .ok (.bipush 6, 2) := by decide +kernel
theorem dX12_back_47 : decode cX12_back 47 = .ok (.iload_n 1, 1) := by decide +kernel
theorem dX12_back_48 : decode cX12_back 48 = .ok (.imul, 1) := by decide +kernel
theorem dX12_back_49 : decode cX12_back 49 = .ok (.iaload, 1) := by decide +kernel
theorem dX12_back_50 : decode cX12_back 50 = .ok (.iastore, 1) := by decide +kernel
theorem dX12_back_51 : decode cX12_back 51 = .ok (.aload_n 0, 1) := by decide +kernel
theorem dX12_back_52 : decode cX12_back 52 = .ok (.getfield 29, 3) := by decide +kernel
theorem dX12_back_55 : decode cX12_back 55 = .ok (.iload_n 1, 1) := by decide +kernel
theorem dX12_back_56 : decode cX12_back 56 = .ok (.aload_n 0, 1) := by decide +kernel
theorem dX12_back_57 : decode cX12_back 57 = .ok (.getfield 98, 3) := by decide +kernel
theorem dX12_back_60 : decode cX12_back 60 = .ok (.bipush 6, 2) := by decide +kernel
theorem dX12_back_62 : decode cX12_back 62 = .ok (.iload_n 1, 1) := by decide +kernel
theorem dX12_back_63 : decode cX12_back 63 = .ok (.imul, 1) := by decide +kernel
theorem dX12_back_64 : decode cX12_back 64 = .ok (.iconst 1, 1) := by decide +kernel
theorem dX12_back_65 : decode cX12_back 65 = .ok (.iadd, 1) := by decide +kernel
theorem dX12_back_66 : decode cX12_back 66 = .ok (.iaload, 1) := by decide +kernel
theorem dX12_back_67 : decode cX12_back 67 = .ok (.iastore, 1) := by decide +kernel
theorem dX12_back_68 : decode cX12_back 68 = .ok (.iconst 0, 1) := by decide +kernel
theorem dX12_back_69 : decode cX12_back 69 = .ok (.istore_n 2, 1) := by decide +kernel
theorem dX12_back_70 : decode cX12_back 70 = .ok (.iload_n 2, 1) := by decide +kernel
theorem dX12_back_71 : decode cX12_back 71 = .ok (.iconst 4, 1) := by decide +kernel
theorem dX12_back_72 : decode cX12_back 72 = .ok (.if_icmp .ge 32, 3) := by decide +kernel
theorem dX12_back_75 : decode cX12_back 75 = .ok (.aload_n 0, 1) := by decide +kernel
theorem dX12_back_76 : decode cX12_back 76 = .ok (.getfield 32, 3) := by decide +kernel
theorem dX12_back_79 : decode cX12_back 79 = .ok (.iconst 4, 1) := by decide +kernel
theorem dX12_back_80 : decode cX12_back 80 = .ok (.iload_n 1, 1) := by decide +kernel
theorem dX12_back_81 : decode cX12_back 81 = .ok (.imul, 1) := by decide +kernel
theorem dX12_back_82 : decode cX12_back 82 = .ok (.iload_n 2, 1) := by decide +kernel
theorem dX12_back_83 : decode cX12_back 83 = .ok (.iadd, 1) := by decide +kernel
theorem dX12_back_84 : decode cX12_back 84 = .ok (.aload_n 0, 1) := by decide +kernel
theorem dX12_back_85 : decode cX12_back 85 = .ok (.getfield 98, 3) := by decide +kernel
theorem dX12_back_88 : decode cX12_back 88 = .ok (.bipush 6, 2) := by decide +kernel
theorem dX12_back_90 : decode cX12_back 90 = .ok (.iload_n 1, 1) := by decide +kernel
theorem dX12_back_91 : decode cX12_back 91 = .ok (.imul, 1) := by decide +kernel
theorem dX12_back_92 : decode cX12_back 92 = .ok (.iconst 2, 1) := by decide +kernel
theorem dX12_back_93 : decode cX12_back 93 = .ok (.iadd, 1) := by decide +kernel
theorem dX12_back_94 : decode cX12_back 94 = .ok (.iload_n 2, 1) := by decide +kernel
theorem dX12_back_95 : decode cX12_back 95 = .ok (.iadd, 1) := by decide +kernel
theorem dX12_back_96 : decode cX12_back 96 = .ok (.iaload, 1) := by decide +kernel
theorem dX12_back_97 : decode cX12_back 97 = .ok (.iastore, 1) := by decide +kernel
theorem dX12_back_98 : decode cX12_back 98 = .ok (.iinc 2 1, 3) := by decide +kernel
theorem dX12_back_101 : decode cX12_back 101 = .ok (.goto (-31), 3) := by decide +kernel
theorem dX12_back_104 : decode cX12_back 104 = .ok (.iinc 1 1, 3) := by decide +kernel
theorem dX12_back_107 : decode cX12_back 107 = .ok (.goto (-79), 3) := by decide +kernel
theorem dX12_back_110 : decode cX12_back 110 = .ok (.aload_n 0, 1) := by decide +kernel
theorem dX12_back_111 : decode cX12_back 111 = .ok (.getfield 247, 3) := by decide +kernel
theorem dX12_back_114 : decode cX12_back 114 = .ok (.ireturn, 1) := by decide +kernel
theorem dX12_count_0 : decode cX12_count 0 = .ok (.iload_n 1, 1) := by decide +kernel
theorem dX12_count_1 : decode cX12_count 1 = .ok (.tableswitch 105 0 9 #[55, 60, 65, 70, 75, 80, 85, 90, 95, 100], 55) := by decide +kernel
theorem dX12_count_56 : decode cX12_count 56 = .ok (.aload_n 0, 1) := by decide +kernel
theorem dX12_count_57 : decode cX12_count 57 = .ok (.getfield 135, 3) := by decide +kernel
theorem dX12_count_60 : decode cX12_count 60 = .ok (.ireturn, 1) := by decide +kernel
theorem dX12_count_61 : decode cX12_count 61 = .ok (.aload_n 0, 1) := by decide +kernel
theorem dX12_count_62 : decode cX12_count 62 = .ok (.getfield 343, 3) := by decide +kernel
theorem dX12_count_65 : decode cX12_count 65 = .ok (.ireturn, 1) := by decide +kernel
theorem dX12_count_66 : decode cX12_count 66 = .ok (.aload_n 0, 1) := by decide +kernel
theorem dX12_count_67 : decode cX12_count 67 = .ok (.getfield 358, 3) := by decide +kernel
theorem dX12_count_70 : decode cX12_count 70 = .ok (.ireturn, 1) := by decide +kernel
theorem dX12_count_71 : decode cX12_count 71 = .ok (.aload_n 0, 1) := by decide +kernel
theorem dX12_count_72 : decode cX12_count 72 = .ok (.getfield 363, 3) := by decide +kernel
theorem dX12_count_75 : decode cX12_count 75 = .ok (.ireturn, 1) := by decide +kernel
theorem dX12_count_76 : decode cX12_count 76 = .ok (.aload_n 0, 1) := by decide +kernel
theorem dX12_count_77 : decode cX12_count 77 = .ok (.getfield 417, 3) := by decide +kernel
theorem dX12_count_80 : decode cX12_count 80 = .ok (.ireturn, 1) := by decide +kernel
theorem dX12_count_81 : decode cX12_count 81 = .ok (.aload_n 0, 1) := by decide +kernel
theorem dX12_count_82 : decode cX12_count 82 = .ok (.getfield 439, 3) := by decide +kernel
theorem dX12_count_85 : decode cX12_count 85 = .ok (.ireturn, 1) := by decide +kernel
theorem dX12_count_86 : decode cX12_count 86 = .ok (.aload_n 0, 1) := by decide +kernel
theorem dX12_count_87 : decode cX12_count 87 = .ok (.getfield 130, 3) := by decide +kernel
theorem dX12_count_90 : decode cX12_count 90 = .ok (.ireturn, 1) := by decide +kernel
theorem dX12_count_91 : decode cX12_count 91 = .ok (.aload_n 0, 1) := by decide +kernel
theorem dX12_count_92 : decode cX12_count 92 = .ok (.getfield 164, 3) := by decide +kernel
theorem dX12_count_95 : decode cX12_count 95 = .ok (.ireturn, 1) := by decide +kernel
theorem dX12_count_96 : decode cX12_count 96 = .ok (.aload_n 0, 1) := by decide +kernel
theorem dX12_count_97 : decode cX12_count 97 = .ok (.getfield 303, 3) := by decide +kernel
theorem dX12_count_100 : decode cX12_count 100 = .ok (.ireturn, 1) := by decide +kernel
theorem dX12_count_101 : decode cX12_count 101 = .ok (.aload_n 0, 1) := by decide +kernel
theorem dX12_count_102 : decode cX12_count 102 = .ok (.getfield 247, 3) := by decide +kernel
theorem dX12_count_105 : decode cX12_count 105 = .ok (.ireturn, 1) := by decide +kernel
theorem dX12_count_106 : decode cX12_count 106 = .ok (.bipush (-2), 2) := by decide +kernel
theorem dX12_count_108 : decode cX12_count 108 = .ok (.ireturn, 1) := by decide +kernel
theorem dX12_isSheet_0 : decode cX12_isSheet 0 = .ok (.iload_n 0, 1) := by decide +kernel
theorem dX12_isSheet_1 : decode cX12_isSheet 1 = .ok (.i2l, 1) := by decide +kernel
theorem dX12_isSheet_2 : decode cX12_isSheet 2 = .ok (.lconst 0, 1) := by decide +kernel
theorem dX12_isSheet_3 : decode cX12_isSheet 3 = .ok (.ldc2_w 146, 3) := by decide +kernel
theorem dX12_isSheet_6 : decode cX12_isSheet 6 = .ok (.invokestatic 138, 3) := by decide +kernel
theorem dX12_isSheet_9 : decode cX12_isSheet 9 = .ok (.ireturn, 1) := by decide +kernel
theorem dX12_sheet_0 : decode cX12_sheet 0 = .ok (.iload_n 1, 1) := by decide +kernel
theorem dX12_sheet_1 : decode cX12_sheet 1 = .ok (.invokestatic 407, 3) := by decide +kernel
theorem dX12_sheet_4 : decode cX12_sheet 4 = .ok (.ifCond .eq 27, 3) := by decide +kernel
theorem dX12_sheet_7 : decode cX12_sheet 7 = .ok (.iload_n 2, 1) := by decide +kernel
theorem dX12_sheet_8 : decode cX12_sheet 8 = .ok (.i2l, 1) := by decide +kernel
theorem dX12_sheet_9 : decode cX12_sheet 9 = .ok (.ldc2_w 198, 3) := by decide +kernel
theorem dX12_sheet_12 : decode cX12_sheet 12 = .ok (.ldc2_w 309, 3) := by decide +kernel
theorem dX12_sheet_15 : decode cX12_sheet 15 = .ok (.invokestatic 138, 3) := by decide +kernel
theorem dX12_sheet_18 : decode cX12_sheet 18 = .ok (.ifCond .eq 13, 3) := by decide +kernel
theorem dX12_sheet_21 : decode cX12_sheet 21 = .ok (.iload_n 2, 1) := by decide +kernel
theorem dX12_sheet_22 : decode cX12_sheet 22 = .ok (.ifCond .lt 12, 3) := by decide +kernel
theorem dX12_sheet_25 : decode cX12_sheet 25 = .ok (.iload_n 3, 1) := by decide +kernel
theorem dX12_sheet_26 : decode cX12_sheet 26 = .ok (.bipush 40, 2) := by decide +kernel
theorem dX12_sheet_28 : decode cX12_sheet 28 = .ok (.if_icmp .le 6, 3) := by decide +kernel
theorem dX12_sheet_31 : decode cX12_sheet 31 = .ok (.bipush (-2), 2) := by decide +kernel
theorem dX12_sheet_33 : decode cX12_sheet 33 = .ok (.ireturn, 1) := by decide +kernel
theorem dX12_sheet_34 : decode cX12_sheet 34 = .ok (.iload_n 2, 1) := by decide +kernel
theorem dX12_sheet_35 : decode cX12_sheet 35 = .ok (.ifCond .lt 10, 3) := by decide +kernel
theorem dX12_sheet_38 : decode cX12_sheet 38 = .ok (.iload_n 3, 1) := by decide +kernel
theorem dX12_sheet_39 : decode cX12_sheet 39 = .ok (.ifCond .ge 6, 3) := by decide +kernel
theorem dX12_sheet_42 : decode cX12_sheet 42 = .ok (.bipush (-14), 2) := by decide +kernel
theorem dX12_sheet_44 : decode cX12_sheet 44 = .ok (.ireturn, 1) := by decide +kernel
theorem dX12_sheet_45 : decode cX12_sheet 45 = .ok (.aload_n 0, 1) := by decide +kernel
theorem dX12_sheet_46 : decode cX12_sheet 46 = .ok (.getfield 101, 3) := by decide +kernel
theorem dX12_sheet_49 : decode cX12_sheet 49 = .ok (.iload_n 1, 1) := by decide +kernel
theorem dX12_sheet_50 : decode cX12_sheet 50 = .ok (.iload_n 2, 1) := by decide +kernel
theorem dX12_sheet_51 : decode cX12_sheet 51 = .ok (.ifCond .lt 7, 3) := by decide +kernel
theorem dX12_sheet_54 : decode cX12_sheet 54 = .ok (.iconst 1, 1) := by decide +kernel
theorem dX12_sheet_55 : decode cX12_sheet 55 = .ok (.goto 4, 3) := by decide +kernel
theorem dX12_sheet_58 : decode cX12_sheet 58 = .ok (.iconst 0, 1) := by decide +kernel
theorem dX12_sheet_59 : decode cX12_sheet 59 = .ok (.bastore, 1) := by decide +kernel
theorem dX12_sheet_60 : decode cX12_sheet 60 = .ok (.aload_n 0, 1) := by decide +kernel
theorem dX12_sheet_61 : decode cX12_sheet 61 = .ok (.getfield 105, 3) := by decide +kernel
theorem dX12_sheet_64 : decode cX12_sheet 64 = .ok (.iload_n 1, 1) := by decide +kernel
theorem dX12_sheet_65 : decode cX12_sheet 65 = .ok (.iload_n 2, 1) := by decide +kernel
theorem dX12_sheet_66 : decode cX12_sheet 66 = .ok (.iastore, 1) := by decide +kernel
theorem dX12_sheet_67 : decode cX12_sheet 67 = .ok (.aload_n 0, 1) := by decide +kernel
theorem dX12_sheet_68 : decode cX12_sheet 68 = .ok (.getfield 108, 3) := by decide +kernel
theorem dX12_sheet_71 : decode cX12_sheet 71 = .ok (.iload_n 1, 1) := by decide +kernel
theorem dX12_sheet_72 : decode cX12_sheet 72 = .ok (.iload_n 3, 1) := by decide +kernel
theorem dX12_sheet_73 : decode cX12_sheet 73 = .ok (.iastore, 1) := by decide +kernel
theorem dX12_sheet_74 : decode cX12_sheet 74 = .ok (.iconst 0, 1) := by decide +kernel
theorem dX12_sheet_75 : decode cX12_sheet 75 = .ok (.istore 4, 2) := by decide +kernel
theorem dX12_sheet_77 : decode cX12_sheet 77 = .ok (.iload 4, 2) := by decide +kernel
theorem dX12_sheet_79 : decode cX12_sheet 79 = .ok (.iload_n 3, 1) := by decide +kernel
theorem dX12_sheet_80 : decode cX12_sheet 80 = .ok (.if_icmp .ge 26, 3) := by decide +kernel
theorem dX12_sheet_83 : decode cX12_sheet 83 = .ok (.iload_n 2, 1) := by decide +kernel
theorem dX12_sheet_84 : decode cX12_sheet 84 = .ok (.ifCond .lt 22, 3) := by decide +kernel
theorem dX12_sheet_87 : decode cX12_sheet 87 = .ok (.aload_n 0, 1) := by decide +kernel
theorem dX12_sheet_88 : decode cX12_sheet 88 = .ok (.getfield 111, 3) := by decide +kernel
theorem dX12_sheet_91 : decode cX12_sheet 91 = .ok (.bipush 40, 2) := by decide +kernel
theorem dX12_sheet_93 : decode cX12_sheet 93 = .ok (.iload_n 1, 1) := by decide +kernel
theorem dX12_sheet_94 : decode cX12_sheet 94 = .ok (.imul, 1) := by decide +kernel
theorem dX12_sheet_95 : decode cX12_sheet 95 = .ok (.iload 4, 2) := by decide +kernel
theorem dX12_sheet_97 : decode cX12_sheet 97 = .ok (.iadd, 1) := by decide +kernel
theorem dX12_sheet_98 : decode cX12_sheet 98 = .ok (.iconst 0, 1) := by decide +kernel
theorem dX12_sheet_99 : decode cX12_sheet 99 = .ok (.iastore, 1) := by decide +kernel
theorem dX12_sheet_100 : decode cX12_sheet 100 = .ok (.iinc 4 1, 3) := by decide +kernel
theorem dX12_sheet_103 : decode cX12_sheet 103 = .ok (.goto (-26), 3) := by decide +kernel
theorem dX12_sheet_106 : decode cX12_sheet 106 = .ok (.iconst 1, 1) := by decide +kernel
theorem dX12_sheet_107 : decode cX12_sheet 107 = .ok (.ireturn, 1) := by decide +kernel
theorem dX12_cell_0 : decode cX12_cell 0 = .ok (.iload_n 1, 1) := by decide +kernel
theorem dX12_cell_1 : decode cX12_cell 1 = .ok (.invokestatic 407, 3) := by decide +kernel
theorem dX12_cell_4 : decode cX12_cell 4 = .ok (.ifCond .ne 6, 3) := by decide +kernel
theorem dX12_cell_7 : decode cX12_cell 7 = .ok (.bipush (-2), 2) := by decide +kernel
theorem dX12_cell_9 : decode cX12_cell 9 = .ok (.ireturn, 1) := by decide +kernel
theorem dX12_cell_10 : decode cX12_cell 10 = .ok (.aload_n 0, 1) := by decide +kernel
theorem dX12_cell_11 : decode cX12_cell 11 = .ok (.getfield 101, 3) := by decide +kernel
theorem dX12_cell_14 : decode cX12_cell 14 = .ok (.iload_n 1, 1) := by decide +kernel
theorem dX12_cell_15 : decode cX12_cell 15 = .ok (.baload, 1) := by decide +kernel
theorem dX12_cell_16 : decode cX12_cell 16 = .ok (.ifCond .ne 6, 3) := by decide +kernel
theorem dX12_cell_19 : decode cX12_cell 19 = .ok (.bipush (-11), 2) := by decide +kernel
theorem dX12_cell_21 : decode cX12_cell 21 = .ok (.ireturn, 1) := by decide +kernel
theorem dX12_cell_22 : decode cX12_cell 22 = .ok (.iload_n 2, 1) := by decide +kernel
theorem dX12_cell_23 : decode cX12_cell 23 = .ok (.i2l, 1) := by decide +kernel
theorem dX12_cell_24 : decode cX12_cell 24 = .ok (.lconst 0, 1) := by decide +kernel
theorem dX12_cell_25 : decode cX12_cell 25 = .ok (.aload_n 0, 1) := by decide +kernel
theorem dX12_cell_26 : decode cX12_cell 26 = .ok (.getfield 108, 3) := by decide +kernel
theorem dX12_cell_29 : decode cX12_cell 29 = .ok (.iload_n 1, 1) := by decide +kernel
theorem dX12_cell_30 : decode cX12_cell 30 = .ok (.iaload, 1) := by decide +kernel
theorem dX12_cell_31 : decode cX12_cell 31 = .ok (.iconst 1, 1) := by decide +kernel
theorem dX12_cell_32 : decode cX12_cell 32 = .ok (.isub, 1) := by decide +kernel
theorem dX12_cell_33 : decode cX12_cell 33 = .ok (.i2l, 1) := by decide +kernel
theorem dX12_cell_34 : decode cX12_cell 34 = .ok (.invokestatic 138, 3) := by decide +kernel
theorem dX12_cell_37 : decode cX12_cell 37 = .ok (.ifCond .ne 6, 3) := by decide +kernel
theorem dX12_cell_40 : decode cX12_cell 40 = .ok (.bipush (-12), 2) := by decide +kernel
theorem dX12_cell_42 : decode cX12_cell 42 = .ok (.ireturn, 1) := by decide +kernel
theorem dX12_cell_43 : decode cX12_cell 43 = .ok (.aload_n 0, 1) := by decide +kernel
theorem dX12_cell_44 : decode cX12_cell 44 = .ok (.getfield 111, 3) := by decide +kernel
theorem dX12_cell_47 : decode cX12_cell 47 = .ok (.bipush 40, 2) := by decide +kernel
theorem dX12_cell_49 : decode cX12_cell 49 = .ok (.iload_n 1, 1) := by decide +kernel
theorem dX12_cell_50 : decode cX12_cell 50 = .ok (.imul, 1) := by decide +kernel
theorem dX12_cell_51 : decode cX12_cell 51 = .ok (.iload_n 2, 1) := by decide +kernel
theorem dX12_cell_52 : decode cX12_cell 52 = .ok (.iadd, 1) := by decide +kernel
theorem dX12_cell_53 : decode cX12_cell 53 = .ok (.aload_n 0, 1) := by decide +kernel
theorem dX12_cell_54 : decode cX12_cell 54 = .ok (.getfield 105, 3) := by decide +kernel
theorem dX12_cell_57 : decode cX12_cell 57 = .ok (.iload_n 1, 1) := by decide +kernel
theorem dX12_cell_58 : decode cX12_cell 58 = .ok (.iaload, 1) := by decide +kernel
theorem dX12_cell_59 : decode cX12_cell 59 = .ok (.ifCond .ne 8, 3) := by decide +kernel
theorem dX12_cell_62 : decode cX12_cell 62 = .ok (.iload_n 3, 1) := by decide +kernel
theorem dX12_cell_63 : decode cX12_cell 63 = .ok (.i2b, 1) := by decide +kernel
theorem dX12_cell_64 : decode cX12_cell 64 = .ok (.goto 19, 3) := by decide +kernel
theorem dX12_cell_67 : decode cX12_cell 67 = .ok (.aload_n 0, 1) := by decide +kernel
theorem dX12_cell_68 : decode cX12_cell 68 = .ok (.getfield 105, 3) := by decide +kernel
theorem dX12_cell_71 : decode cX12_cell 71 = .ok (.iload_n 1, 1) := by decide +kernel
theorem dX12_cell_72 : decode cX12_cell 72 = .ok (.iaload, 1) := by decide +kernel
theorem dX12_cell_73 : decode cX12_cell 73 = .ok (.iconst 1, 1) := by decide +kernel
theorem dX12_cell_74 : decode cX12_cell 74 = .ok (.if_icmp .ne 8, 3) := by decide +kernel
theorem dX12_cell_77 : decode cX12_cell 77 = .ok (.iload_n 3, 1) := by decide +kernel
theorem dX12_cell_78 : decode cX12_cell 78 = .ok (.i2s, 1) := by decide +kernel
theorem dX12_cell_79 : decode cX12_cell 79 = .ok (.goto 4, 3) := by decide +kernel
theorem dX12_cell_82 : decode cX12_cell 82 = .ok (.iload_n 3, 1) := by decide +kernel
theorem dX12_cell_83 : decode cX12_cell 83 = .ok (.iastore, 1) := by decide +kernel
theorem dX12_cell_84 : decode cX12_cell 84 = .ok (.iconst 1, 1) := by decide +kernel
theorem dX12_cell_85 : decode cX12_cell 85 = .ok (.ireturn, 1) := by decide +kernel
theorem dX12_copy_0 : decode cX12_copy 0 = .ok (.iload_n 1, 1) := by decide +kernel
theorem dX12_copy_1 : decode cX12_copy 1 = .ok (.invokestatic 407, 3) := by decide +kernel
theorem dX12_copy_4 : decode cX12_copy 4 = .ok (.ifCond .eq 10, 3) := by decide +kernel
theorem dX12_copy_7 : decode cX12_copy 7 = .ok (.iload_n 3, 1) := by decide +kernel
theorem dX12_copy_8 : decode cX12_copy 8 = .ok (.invokestatic 407, 3) := by decide +kernel
theorem dX12_copy_11 : decode cX12_copy 11 = .ok (.ifCond .ne 6, 3) := by decide +kernel
theorem dX12_copy_14 : decode cX12_copy 14 = .ok (.bipush (-2), 2) := by decide +kernel
theorem dX12_copy_16 : decode cX12_copy 16 = .ok (.ireturn, 1) := by decide +kernel
theorem dX12_copy_17 : decode cX12_copy 17 = .ok (.aload_n 0, 1) := by decide +kernel
theorem dX12_copy_18 : decode cX12_copy 18 = .ok (.getfield 101, 3) := by decide +kernel
theorem dX12_copy_21 : decode cX12_copy 21 = .ok (.iload_n 1, 1) := by decide +kernel
theorem dX12_copy_22 : decode cX12_copy 22 = .ok (.baload, 1) := by decide +kernel
theorem dX12_copy_23 : decode cX12_copy 23 = .ok (.ifCond .eq 12, 3) := by decide +kernel
theorem dX12_copy_26 : decode cX12_copy 26 = .ok (.aload_n 0, 1) := by decide +kernel
theorem dX12_copy_27 : decode cX12_copy 27 = .ok (.getfield 101, 3) := by decide +kernel
theorem dX12_copy_30 : decode cX12_copy 30 = .ok (.iload_n 3, 1) := by decide +kernel
theorem dX12_copy_31 : decode cX12_copy 31 = .ok (.baload, 1) := by decide +kernel
theorem dX12_copy_32 : decode cX12_copy 32 = .ok (.ifCond .ne 6, 3) := by decide +kernel
theorem dX12_copy_35 : decode cX12_copy 35 = .ok (.bipush (-11), 2) := by decide +kernel
theorem dX12_copy_37 : decode cX12_copy 37 = .ok (.ireturn, 1) := by decide +kernel
theorem dX12_copy_38 : decode cX12_copy 38 = .ok (.aload_n 0, 1) := by decide +kernel
theorem dX12_copy_39 : decode cX12_copy 39 = .ok (.getfield 105, 3) := by decide +kernel
theorem dX12_copy_42 : decode cX12_copy 42 = .ok (.iload_n 1, 1) := by decide +kernel
theorem dX12_copy_43 : decode cX12_copy 43 = .ok (.iaload, 1) := by decide +kernel
theorem dX12_copy_44 : decode cX12_copy 44 = .ok (.aload_n 0, 1) := by decide +kernel
theorem dX12_copy_45 : decode cX12_copy 45 = .ok (.getfield 105, 3) := by decide +kernel
theorem dX12_copy_48 : decode cX12_copy 48 = .ok (.iload_n 3, 1) := by decide +kernel
theorem dX12_copy_49 : decode cX12_copy 49 = .ok (.iaload, 1) := by decide +kernel
theorem dX12_copy_50 : decode cX12_copy 50 = .ok (.if_icmp .eq 6, 3) := by decide +kernel
theorem dX12_copy_53 : decode cX12_copy 53 = .ok (.bipush (-13), 2) := by decide +kernel
theorem dX12_copy_55 : decode cX12_copy 55 = .ok (.ireturn, 1) := by decide +kernel
theorem dX12_copy_56 : decode cX12_copy 56 = .ok (.iload 5, 2) := by decide +kernel
theorem dX12_copy_58 : decode cX12_copy 58 = .ok (.ifCond .lt 39, 3) := by decide +kernel
theorem dX12_copy_61 : decode cX12_copy 61 = .ok (.iload_n 2, 1) := by decide +kernel
theorem dX12_copy_62 : decode cX12_copy 62 = .ok (.ifCond .lt 35, 3) := by decide +kernel
theorem dX12_copy_65 : decode cX12_copy 65 = .ok (.iload 4, 2) := by decide +kernel
theorem dX12_copy_67 : decode cX12_copy 67 = .ok (.ifCond .lt 30, 3) := by decide +kernel
theorem dX12_copy_70 : decode cX12_copy 70 = .ok (.iload_n 2, 1) := by decide +kernel
theorem dX12_copy_71 : decode cX12_copy 71 = .ok (.aload_n 0, 1) := by decide +kernel
theorem dX12_copy_72 : decode cX12_copy 72 = .ok (.getfield 108, 3) := by decide +kernel
theorem dX12_copy_75 : decode cX12_copy 75 = .ok (.iload_n 1, 1) := by decide +kernel
theorem dX12_copy_76 : decode cX12_copy 76 = .ok (.iaload, 1) := by decide +kernel
theorem dX12_copy_77 : decode cX12_copy 77 = .ok (.iload 5, 2) := by decide +kernel
theorem dX12_copy_79 : decode cX12_copy 79 = .ok (.isub, 1) := by decide +kernel
theorem dX12_copy_80 : decode cX12_copy 80 = .ok (.if_icmp .gt 17, 3) := by decide +kernel
theorem dX12_copy_83 : decode cX12_copy 83 = .ok (.iload 4, 2) := by decide +kernel
theorem dX12_copy_85 : decode cX12_copy 85 = .ok (.aload_n 0, 1) := by decide +kernel
theorem dX12_copy_86 : decode cX12_copy 86 = .ok (.getfield 108, 3) := by decide +kernel
theorem dX12_copy_89 : decode cX12_copy 89 = .ok (.iload_n 3, 1) := by decide +kernel
theorem dX12_copy_90 : decode cX12_copy 90 = .ok (.iaload, 1) := by decide +kernel
theorem dX12_copy_91 : decode cX12_copy 91 = .ok (.iload 5, 2) := by decide +kernel
theorem dX12_copy_93 : decode cX12_copy 93 = .ok (.isub, 1) := by decide +kernel
theorem dX12_copy_94 : decode cX12_copy 94 = .ok (.if_icmp .le 6, 3) := by decide +kernel
theorem dX12_copy_97 : decode cX12_copy 97 = .ok (.bipush (-12), 2) := by decide +kernel
theorem dX12_copy_99 : decode cX12_copy 99 = .ok (.ireturn, 1) := by decide +kernel
theorem dX12_copy_100 : decode cX12_copy 100 = .ok (.iload_n 1, 1) := by decide +kernel
theorem dX12_copy_101 : decode cX12_copy 101 = .ok (.iload_n 3, 1) := by decide +kernel
theorem dX12_copy_102 : decode cX12_copy 102 = .ok (.if_icmp .ne 13, 3) := by decide +kernel
theorem dX12_copy_105 : decode cX12_copy 105 = .ok (.iload_n 2, 1) := by decide +kernel
theorem dX12_copy_106 : decode cX12_copy 106 = .ok (.iload 4, 2) := by decide +kernel
theorem dX12_copy_108 : decode cX12_copy 108 = .ok (.if_icmp .ge 7, 3) := by decide +kernel
theorem dX12_copy_111 : decode cX12_copy 111 = .ok (.iconst 1, 1) := by decide +kernel
theorem dX12_copy_112 : decode cX12_copy 112 = .ok (.goto 4, 3) := by decide +kernel
theorem dX12_copy_115 : decode cX12_copy 115 = .ok (.iconst 0, 1) := by decide +kernel
theorem dX12_copy_116 : decode cX12_copy 116 = .ok (.istore 6, 2) := by decide +kernel
theorem dX12_copy_118 : decode cX12_copy 118 = .ok (.iconst 0, 1) := by decide +kernel
theorem dX12_copy_119 : decode cX12_copy 119 = .ok (.istore 7, 2) := by decide +kernel
theorem dX12_copy_121 : decode cX12_copy 121 = .ok (.iload 7, 2) := by decide +kernel
theorem dX12_copy_123 : decode cX12_copy 123 = .ok (.iload 5, 2) := by decide +kernel
theorem dX12_copy_125 : decode cX12_copy 125 = .ok (.if_icmp .ge 57, 3) := by decide +kernel
theorem dX12_copy_128 : decode cX12_copy 128 = .ok (.iload 6, 2) := by decide +kernel
theorem dX12_copy_130 : decode cX12_copy 130 = .ok (.ifCond .eq 13, 3) := by decide +kernel
theorem dX12_copy_133 : decode cX12_copy 133 = .ok (.iload 5, 2) := by decide +kernel
theorem dX12_copy_135 : decode cX12_copy 135 = .ok (.iconst 1, 1) := by decide +kernel
theorem dX12_copy_136 : decode cX12_copy 136 = .ok (.isub, 1) := by decide +kernel
theorem dX12_copy_137 : decode cX12_copy 137 = .ok (.iload 7, 2) := by decide +kernel
theorem dX12_copy_139 : decode cX12_copy 139 = .ok (.isub, 1) := by decide +kernel
theorem dX12_copy_140 : decode cX12_copy 140 = .ok (.goto 5, 3) := by decide +kernel
theorem dX12_copy_143 : decode cX12_copy 143 = .ok (.iload 7, 2) := by decide +kernel
theorem dX12_copy_145 : decode cX12_copy 145 = .ok (.istore 8, 2) := by decide +kernel
theorem dX12_copy_147 : decode cX12_copy 147 = .ok (.aload_n 0, 1) := by decide +kernel
theorem dX12_copy_148 : decode cX12_copy 148 = .ok (.getfield 111, 3) := by decide +kernel
theorem dX12_copy_151 : decode cX12_copy 151 = .ok (.bipush 40, 2) := by decide +kernel
theorem dX12_copy_153 : decode cX12_copy 153 = .ok (.iload_n 3, 1) := by decide +kernel
theorem dX12_copy_154 : decode cX12_copy 154 = .ok (.imul, 1) := by decide +kernel
theorem dX12_copy_155 : decode cX12_copy 155 = .ok (.iload 4, 2) := by decide +kernel
theorem dX12_copy_157 : decode cX12_copy 157 = .ok (.iadd, 1) := by decide +kernel
theorem dX12_copy_158 : decode cX12_copy 158 = .ok (.iload 8, 2) := by decide +kernel
theorem dX12_copy_160 : decode cX12_copy 160 = .ok (.iadd, 1) := by decide +kernel
theorem dX12_copy_161 : decode cX12_copy 161 = .ok (.aload_n 0, 1) := by decide +kernel
theorem dX12_copy_162 : decode cX12_copy 162 = .ok (.getfield 111, 3) := by decide +kernel
theorem dX12_copy_165 : decode cX12_copy 165 = .ok (.bipush 40, 2) := by decide +kernel
theorem dX12_copy_167 : decode cX12_copy 167 = .ok (.iload_n 1, 1) := by decide +kernel
theorem dX12_copy_168 : decode cX12_copy 168 = .ok (.imul, 1) := by decide +kernel
theorem dX12_copy_169 : decode cX12_copy 169 = .ok (.iload_n 2, 1) := by decide +kernel
theorem dX12_copy_170 : decode cX12_copy 170 = .ok (.iadd, 1) := by decide +kernel
theorem dX12_copy_171 : decode cX12_copy 171 = .ok (.iload 8, 2) := by decide +kernel
theorem dX12_copy_173 : decode cX12_copy 173 = .ok (.iadd, 1) := by decide +kernel
theorem dX12_copy_174 : decode cX12_copy 174 = .ok (.iaload, 1) := by decide +kernel
theorem dX12_copy_175 : decode cX12_copy 175 = .ok (.iastore, 1) := by decide +kernel
theorem dX12_copy_176 : decode cX12_copy 176 = .ok (.iinc 7 1, 3) := by decide +kernel
theorem dX12_copy_179 : decode cX12_copy 179 = .ok (.goto (-58), 3) := by decide +kernel
theorem dX12_copy_182 : decode cX12_copy 182 = .ok (.iload 5, 2) := by decide +kernel
theorem dX12_copy_184 : decode cX12_copy 184 = .ok (.ireturn, 1) := by decide +kernel
theorem dX12_men_0 : decode cX12_men 0 = .ok (.iload_n 1, 1) := by decide +kernel
theorem dX12_men_1 : decode cX12_men 1 = .ok (.invokestatic 407, 3) := by decide +kernel
theorem dX12_men_4 : decode cX12_men 4 = .ok (.ifCond .eq 28, 3) := by decide +kernel
theorem dX12_men_7 : decode cX12_men 7 = .ok (.iload_n 2, 1) := by decide +kernel
theorem dX12_men_8 : decode cX12_men 8 = .ok (.i2l, 1) := by decide +kernel
theorem dX12_men_9 : decode cX12_men 9 = .ok (.lconst 0, 1) := by decide +kernel
theorem dX12_men_10 : decode cX12_men 10 = .ok (.ldc2_w 309, 3) := by decide +kernel
theorem dX12_men_13 : decode cX12_men 13 = .ok (.invokestatic 138, 3) := by decide +kernel
theorem dX12_men_16 : decode cX12_men 16 = .ok (.ifCond .eq 16, 3) := by decide +kernel
theorem dX12_men_19 : decode cX12_men 19 = .ok (.iload 4, 2) := by decide +kernel
theorem dX12_men_21 : decode cX12_men 21 = .ok (.i2l, 1) := by decide +kernel
theorem dX12_men_22 : decode cX12_men 22 = .ok (.lconst 0, 1) := by decide +kernel
theorem dX12_men_23 : decode cX12_men 23 = .ok (.ldc2_w 204, 3) := by decide +kernel
theorem dX12_men_26 : decode cX12_men 26 = .ok (.invokestatic 138, 3) := by decide +kernel
theorem dX12_men_29 : decode cX12_men 29 = .ok (.ifCond .ne 6, 3) := by decide +kernel
theorem dX12_men_32 : decode cX12_men 32 = .ok (.bipush (-2), 2) := by decide +kernel
theorem dX12_men_34 : decode cX12_men 34 = .ok (.ireturn, 1) := by decide +kernel
theorem dX12_men_35 : decode cX12_men 35 = .ok (.aload_n 0, 1) := by decide +kernel
theorem dX12_men_36 : decode cX12_men 36 = .ok (.getfield 101, 3) := by decide +kernel
theorem dX12_men_39 : decode cX12_men 39 = .ok (.iload_n 1, 1) := by decide +kernel
theorem dX12_men_40 : decode cX12_men 40 = .ok (.baload, 1) := by decide +kernel
theorem dX12_men_41 : decode cX12_men 41 = .ok (.ifCond .eq 16, 3) := by decide +kernel
theorem dX12_men_44 : decode cX12_men 44 = .ok (.aload_n 0, 1) := by decide +kernel
theorem dX12_men_45 : decode cX12_men 45 = .ok (.getfield 105, 3) := by decide +kernel
theorem dX12_men_48 : decode cX12_men 48 = .ok (.iload_n 1, 1) := by decide +kernel
theorem dX12_men_49 : decode cX12_men 49 = .ok (.iaload, 1) := by decide +kernel
theorem dX12_men_50 : decode cX12_men 50 = .ok (.iload_n 2, 1) := by decide +kernel
theorem dX12_men_51 : decode cX12_men 51 = .ok (.if_icmp .eq 6, 3) := by decide +kernel
theorem dX12_men_54 : decode cX12_men 54 = .ok (.bipush (-13), 2) := by decide +kernel
theorem dX12_men_56 : decode cX12_men 56 = .ok (.ireturn, 1) := by decide +kernel
theorem dX12_men_57 : decode cX12_men 57 = .ok (.aload_n 0, 1) := by decide +kernel
theorem dX12_men_58 : decode cX12_men 58 = .ok (.getfield 101, 3) := by decide +kernel
theorem dX12_men_61 : decode cX12_men 61 = .ok (.iload_n 1, 1) := by decide +kernel
theorem dX12_men_62 : decode cX12_men 62 = .ok (.baload, 1) := by decide +kernel
theorem dX12_men_63 : decode cX12_men 63 = .ok (.ifCond .ne 6, 3) := by decide +kernel
theorem dX12_men_66 : decode cX12_men 66 = .ok (.bipush (-11), 2) := by decide +kernel
theorem dX12_men_68 : decode cX12_men 68 = .ok (.ireturn, 1) := by decide +kernel
theorem dX12_men_69 : decode cX12_men 69 = .ok (.iconst 0, 1) := by decide +kernel
theorem dX12_men_70 : decode cX12_men 70 = .ok (.istore 5, 2) := by decide +kernel
theorem dX12_men_72 : decode cX12_men 72 = .ok (.iconst 0, 1) := by decide +kernel
theorem dX12_men_73 : decode cX12_men 73 = .ok (.istore 6, 2) := by decide +kernel
theorem dX12_men_75 : decode cX12_men 75 = .ok (.iload 6, 2) := by decide +kernel
theorem dX12_men_77 : decode cX12_men 77 = .ok (.iload 4, 2) := by decide +kernel
theorem dX12_men_79 : decode cX12_men 79 = .ok (.if_icmp .ge 88, 3) := by decide +kernel
theorem dX12_men_82 : decode cX12_men 82 = .ok (.iload_n 3, 1) := by decide +kernel
theorem dX12_men_83 : decode cX12_men 83 = .ok (.ifCond .lt 20, 3) := by decide +kernel
theorem dX12_men_86 : decode cX12_men 86 = .ok (.iload_n 3, 1) := by decide +kernel
theorem dX12_men_87 : decode cX12_men 87 = .ok (.aload_n 0, 1) := by decide +kernel
theorem dX12_men_88 : decode cX12_men 88 = .ok (.getfield 108, 3) := by decide +kernel
theorem dX12_men_91 : decode cX12_men 91 = .ok (.iload_n 1, 1) := by decide +kernel
theorem dX12_men_92 : decode cX12_men 92 = .ok (.iaload, 1) := by decide +kernel
theorem dX12_men_93 : decode cX12_men 93 = .ok (.iconst 3, 1) := by decide +kernel
theorem dX12_men_94 : decode cX12_men 94 = .ok (.iload 6, 2) := by decide +kernel
theorem dX12_men_96 : decode cX12_men 96 = .ok (.imul, 1) := by decide +kernel
theorem dX12_men_97 : decode cX12_men 97 = .ok (.isub, 1) := by decide +kernel
theorem dX12_men_98 : decode cX12_men 98 = .ok (.iconst 3, 1) := by decide +kernel
theorem dX12_men_99 : decode cX12_men 99 = .ok (.isub, 1) := by decide +kernel
theorem dX12_men_100 : decode cX12_men 100 = .ok (.if_icmp .le 6, 3) := by decide +kernel
theorem dX12_men_103 : decode cX12_men 103 = .ok (.bipush (-12), 2) := by decide +kernel
theorem dX12_men_105 : decode cX12_men 105 = .ok (.ireturn, 1) := by decide +kernel
theorem dX12_men_106 : decode cX12_men 106 = .ok (.bipush 40, 2) := by decide +kernel
theorem dX12_men_108 : decode cX12_men 108 = .ok (.iload_n 1, 1) := by decide +kernel
theorem dX12_men_109 : decode cX12_men 109 = .ok (.imul, 1) := by decide +kernel
theorem dX12_men_110 : decode cX12_men 110 = .ok (.iload_n 3, 1) := by decide +kernel
theorem dX12_men_111 : decode cX12_men 111 = .ok (.iadd, 1) := by decide +kernel
theorem dX12_men_112 : decode cX12_men 112 = .ok (.iconst 3, 1) := by decide +kernel
theorem dX12_men_113 : decode cX12_men 113 = .ok (.iload 6, 2) := by decide +kernel
theorem dX12_men_115 : decode cX12_men 115 = .ok (.imul, 1) := by decide +kernel
theorem dX12_men_116 : decode cX12_men 116 = .ok (.iadd, 1) := by decide +kernel
theorem dX12_men_117 : decode cX12_men 117 = .ok (.istore 7, 2) := by decide +kernel
theorem dX12_men_119 : decode cX12_men 119 = .ok (.iload 5, 2) := by decide +kernel
theorem dX12_men_121 : decode cX12_men 121 = .ok (.aload_n 0, 1) := by decide +kernel
theorem dX12_men_122 : decode cX12_men 122 = .ok (.aload_n 0, 1) := by decide +kernel
theorem dX12_men_123 : decode cX12_men 123 = .ok (.getfield 111, 3) := by decide +kernel
theorem dX12_men_126 : decode cX12_men 126 = .ok (.iload 7, 2) := by decide +kernel
theorem dX12_men_128 : decode cX12_men 128 = .ok (.iaload, 1) := by decide +kernel
theorem dX12_men_129 : decode cX12_men 129 = .ok (.aload_n 0, 1) := by decide +kernel
theorem dX12_men_130 : decode cX12_men 130 = .ok (.getfield 111, 3) := by decide +kernel
theorem dX12_men_133 : decode cX12_men 133 = .ok (.iload 7, 2) := by decide +kernel
theorem dX12_men_135 : decode cX12_men 135 = .ok (.iconst 1, 1) := by decide +kernel
theorem dX12_men_136 : decode cX12_men 136 = .ok (.iadd, 1) := by decide +kernel
theorem dX12_men_137 : decode cX12_men 137 = .ok (.iaload, 1) := by decide +kernel
theorem dX12_men_138 : decode cX12_men 138 = .ok (.aload_n 0, 1) := by decide +kernel
theorem dX12_men_139 : decode cX12_men 139 = .ok (.getfield 111, 3) := by decide +kernel
theorem dX12_men_142 : decode cX12_men 142 = .ok (.iload 7, 2) := by decide +kernel
theorem dX12_men_144 : decode cX12_men 144 = .ok (.iconst 2, 1) := by decide +kernel
theorem dX12_men_145 : decode cX12_men 145 = .ok (.iadd, 1) := by decide +kernel
theorem dX12_men_146 : decode cX12_men 146 = .ok (.iaload, 1) := by decide +kernel
theorem dX12_men_147 : decode cX12_men 147 = .ok (.invokevirtual 457, 3) := by decide +kernel
theorem dX12_men_150 : decode cX12_men 150 = .ok (.ifCond .lt 7, 3) := by decide +kernel
theorem dX12_men_153 : decode cX12_men 153 = .ok (.iconst 1, 1) := by decide +kernel
theorem dX12_men_154 : decode cX12_men 154 = .ok (.goto 4, 3) := by decide +kernel
theorem dX12_men_157 : decode cX12_men 157 = .ok (.iconst 0, 1) := by decide +kernel
theorem dX12_men_158 : decode cX12_men 158 = .ok (.iadd, 1) := by decide +kernel
theorem dX12_men_159 : decode cX12_men 159 = .ok (.istore 5, 2) := by decide +kernel
theorem dX12_men_161 : decode cX12_men 161 = .ok (.iinc 6 1, 3) := by decide +kernel
theorem dX12_men_164 : decode cX12_men 164 = .ok (.goto (-89), 3) := by decide +kernel
theorem dX12_men_167 : decode cX12_men 167 = .ok (.iload 5, 2) := by decide +kernel
theorem dX12_men_169 : decode cX12_men 169 = .ok (.ireturn, 1) := by decide +kernel
theorem dX12_over_0 : decode cX12_over 0 = .ok (.iload_n 0, 1) := by decide +kernel
theorem dX12_over_1 : decode cX12_over 1 = .ok (.ifCond .ne 7, 3) := by decide +kernel
theorem dX12_over_4 : decode cX12_over 4 = .ok (.iconst (-1), 1) := by decide +kernel
theorem dX12_over_5 : decode cX12_over 5 = .ok (.goto 27, 3) := by decide +kernel
theorem dX12_over_8 : decode cX12_over 8 = .ok (.iload_n 0, 1) := by decide +kernel
theorem dX12_over_9 : decode cX12_over 9 = .ok (.iconst 3, 1) := by decide +kernel
theorem dX12_over_10 : decode cX12_over 10 = .ok (.if_icmp .eq 8, 3) := by decide +kernel
theorem dX12_over_13 : decode cX12_over 13 = .ok (.iload_n 0, 1) := by decide +kernel
theorem dX12_over_14 : decode cX12_over 14 = .ok (.iconst 5, 1) := by decide +kernel
theorem dX12_over_15 : decode cX12_over 15 = .ok (.if_icmp .ne 7, 3) := by decide +kernel
theorem dX12_over_18 : decode cX12_over 18 = .ok (.iconst 2, 1) := by decide +kernel
theorem dX12_over_19 : decode cX12_over 19 = .ok (.goto 13, 3) := by decide +kernel
theorem dX12_over_22 : decode cX12_over 22 = .ok (.iload_n 0, 1) := by decide +kernel
theorem dX12_over_23 : decode cX12_over 23 = .ok (.iconst 4, 1) := by decide +kernel
theorem dX12_over_24 : decode cX12_over 24 = .ok (.if_icmp .ne 7, 3) := by decide +kernel
theorem dX12_over_27 : decode cX12_over 27 = .ok (.iconst 1, 1) := by decide +kernel
theorem dX12_over_28 : decode cX12_over 28 = .ok (.goto 4, 3) := by decide +kernel
theorem dX12_over_31 : decode cX12_over 31 = .ok (.iconst 0, 1) := by decide +kernel
theorem dX12_over_32 : decode cX12_over 32 = .ok (.ireturn, 1) := by decide +kernel
theorem dX12_taken_0 : decode cX12_taken 0 = .ok (.iload_n 2, 1) := by decide +kernel
theorem dX12_taken_1 : decode cX12_taken 1 = .ok (.i2l, 1) := by decide +kernel
theorem dX12_taken_2 : decode cX12_taken 2 = .ok (.lconst 0, 1) := by decide +kernel
theorem dX12_taken_3 : decode cX12_taken 3 = .ok (.ldc2_w 361, 3) := by decide +kernel
theorem dX12_taken_6 : decode cX12_taken 6 = .ok (.invokestatic 138, 3) := by decide +kernel
theorem dX12_taken_9 : decode cX12_taken 9 = .ok (.ifCond .ne 6, 3) := by decide +kernel
theorem dX12_taken_12 : decode cX12_taken 12 = .ok (.bipush (-2), 2) := by decide +kernel
theorem dX12_taken_14 : decode cX12_taken 14 = .ok (.ireturn, 1) := by decide +kernel
theorem dX12_taken_15 : decode cX12_taken 15 = .ok (.aload_n 0, 1) := by decide +kernel
theorem dX12_taken_16 : decode cX12_taken 16 = .ok (.iload_n 1, 1) := by decide +kernel
theorem dX12_taken_17 : decode cX12_taken 17 = .ok (.invokevirtual 389, 3) := by decide +kernel
theorem dX12_taken_20 : decode cX12_taken 20 = .ok (.ifCond .ne 6, 3) := by decide +kernel
theorem dX12_taken_23 : decode cX12_taken 23 = .ok (.bipush (-11), 2) := by decide +kernel
theorem dX12_taken_25 : decode cX12_taken 25 = .ok (.ireturn, 1) := by decide +kernel
theorem dX12_taken_26 : decode cX12_taken 26 = .ok (.aload_n 0, 1) := by decide +kernel
theorem dX12_taken_27 : decode cX12_taken 27 = .ok (.getfield 50, 3) := by decide +kernel
theorem dX12_taken_30 : decode cX12_taken 30 = .ok (.iload_n 1, 1) := by decide +kernel
theorem dX12_taken_31 : decode cX12_taken 31 = .ok (.iaload, 1) := by decide +kernel
theorem dX12_taken_32 : decode cX12_taken 32 = .ok (.istore_n 3, 1) := by decide +kernel
theorem dX12_taken_33 : decode cX12_taken 33 = .ok (.iload_n 3, 1) := by decide +kernel
theorem dX12_taken_34 : decode cX12_taken 34 = .ok (.iconst (-1), 1) := by decide +kernel
theorem dX12_taken_35 : decode cX12_taken 35 = .ok (.if_icmp .eq 16, 3) := by decide +kernel
theorem dX12_taken_38 : decode cX12_taken 38 = .ok (.iload_n 3, 1) := by decide +kernel
theorem dX12_taken_39 : decode cX12_taken 39 = .ok (.iload_n 2, 1) := by decide +kernel
theorem dX12_taken_40 : decode cX12_taken 40 = .ok (.if_icmp .eq 11, 3) := by decide +kernel
theorem dX12_taken_43 : decode cX12_taken 43 = .ok (.iload_n 3, 1) := by decide +kernel
theorem dX12_taken_44 : decode cX12_taken 44 = .ok (.invokestatic 460, 3) := by decide +kernel
theorem dX12_taken_47 : decode cX12_taken 47 = .ok (.istore_n 3, 1) := by decide +kernel
theorem dX12_taken_48 : decode cX12_taken 48 = .ok (.goto (-15), 3) := by decide +kernel
theorem dX12_taken_51 : decode cX12_taken 51 = .ok (.iload_n 3, 1) := by decide +kernel
theorem dX12_taken_52 : decode cX12_taken 52 = .ok (.iload_n 2, 1) := by decide +kernel
theorem dX12_taken_53 : decode cX12_taken 53 = .ok (.if_icmp .ne 12, 3) := by decide +kernel
theorem dX12_taken_56 : decode cX12_taken 56 = .ok (.aload_n 0, 1) := by decide +kernel
theorem dX12_taken_57 : decode cX12_taken 57 = .ok (.getfield 59, 3) := by decide +kernel
theorem dX12_taken_60 : decode cX12_taken 60 = .ok (.iload_n 1, 1) := by decide +kernel
theorem dX12_taken_61 : decode cX12_taken 61 = .ok (.iaload, 1) := by decide +kernel
theorem dX12_taken_62 : decode cX12_taken 62 = .ok (.goto 5, 3) := by decide +kernel
theorem dX12_taken_65 : decode cX12_taken 65 = .ok (.bipush (-13), 2) := by decide +kernel
theorem dX12_taken_67 : decode cX12_taken 67 = .ok (.ireturn, 1) := by decide +kernel
