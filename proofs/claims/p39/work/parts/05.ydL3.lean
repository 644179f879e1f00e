theorem dL_areCopies_23 : decode cL_areCopies 23 = .ok (.goto 4, 3) := by decide +kernel
theorem dL_areCopies_26 : decode cL_areCopies 26 = .ok (.iconst 0, 1) := by decide +kernel
theorem dL_areCopies_27 : decode cL_areCopies 27 = .ok (.istore 8, 2) := by decide +kernel
theorem dL_areCopies_29 : decode cL_areCopies 29 = .ok (.iconst 0, 1) := by decide +kernel
theorem dL_areCopies_30 : decode cL_areCopies 30 = .ok (.istore 9, 2) := by decide +kernel
theorem dL_areCopies_32 : decode cL_areCopies 32 = .ok (.iload 9, 2) := by decide +kernel
theorem dL_areCopies_34 : decode cL_areCopies 34 = .ok (.aload 6, 2) := by decide +kernel
theorem dL_areCopies_36 : decode cL_areCopies 36 = .ok (.iconst 3, 1) := by decide +kernel
theorem dL_areCopies_37 : decode cL_areCopies 37 = .ok (.iaload, 1) := by decide +kernel
theorem dL_areCopies_38 : decode cL_areCopies 38 = .ok (.if_icmp .ge 140, 3) := by decide +kernel
theorem dL_areCopies_41 : decode cL_areCopies 41 = .ok (.iload 8, 2) := by decide +kernel
theorem dL_areCopies_43 : decode cL_areCopies 43 = .ok (.ifCond .eq 135, 3) := by decide +kernel
theorem dL_areCopies_46 : decode cL_areCopies 46 = .ok (.aload_n 0, 1) := by decide +kernel
theorem dL_areCopies_47 : decode cL_areCopies 47 = .ok (.iload 9, 2) := by decide +kernel
theorem dL_areCopies_49 : decode cL_areCopies 49 = .ok (.invokevirtual 123, 3) := by decide +kernel
theorem dL_areCopies_52 : decode cL_areCopies 52 = .ok (.aload_n 3, 1) := by decide +kernel
theorem dL_areCopies_53 : decode cL_areCopies 53 = .ok (.bipush 8, 2) := by decide +kernel
theorem dL_areCopies_55 : decode cL_areCopies 55 = .ok (.iload 9, 2) := by decide +kernel
theorem dL_areCopies_57 : decode cL_areCopies 57 = .ok (.imul, 1) := by decide +kernel
theorem dL_areCopies_58 : decode cL_areCopies 58 = .ok (.iconst 1, 1) := by decide +kernel
theorem dL_areCopies_59 : decode cL_areCopies 59 = .ok (.iadd, 1) := by decide +kernel
theorem dL_areCopies_60 : decode cL_areCopies 60 = .ok (.iaload, 1) := by decide +kernel
theorem dL_areCopies_61 : decode cL_areCopies 61 = .ok (.if_icmp .ne 25, 3) := by decide +kernel
theorem dL_areCopies_64 : decode cL_areCopies 64 = .ok (.aload_n 0, 1) := by decide +kernel
theorem dL_areCopies_65 : decode cL_areCopies 65 = .ok (.iload 9, 2) := by decide +kernel
theorem dL_areCopies_67 : decode cL_areCopies 67 = .ok (.invokevirtual 126, 3) := by decide +kernel
theorem dL_areCopies_70 : decode cL_areCopies 70 = .ok (.aload_n 2, 1) := by decide +kernel
theorem dL_areCopies_71 : decode cL_areCopies 71 = .ok (.aload_n 3, 1) := by decide +kernel
theorem dL_areCopies_72 : decode cL_areCopies 72 = .ok (.aload 6, 2) := by decide +kernel
theorem dL_areCopies_74 : decode cL_areCopies 74 = .ok (.iload 9, 2) := by decide +kernel
theorem dL_areCopies_76 : decode cL_areCopies 76 = .ok (.invokestatic 129, 3) := by decide +kernel
theorem dL_areCopies_79 : decode cL_areCopies 79 = .ok (.if_icmp .ne 7, 3) := by decide +kernel
theorem dL_areCopies_82 : decode cL_areCopies 82 = .ok (.iconst 1, 1) := by decide +kernel
theorem dL_areCopies_83 : decode cL_areCopies 83 = .ok (.goto 4, 3) := by decide +kernel
theorem dL_areCopies_86 : decode cL_areCopies 86 = .ok (.iconst 0, 1) := by decide +kernel
theorem dL_areCopies_87 : decode cL_areCopies 87 = .ok (.istore 8, 2) := by decide +kernel
theorem dL_areCopies_89 : decode cL_areCopies 89 = .ok (.iconst 0, 1) := by decide +kernel
theorem dL_areCopies_90 : decode cL_areCopies 90 = .ok (.istore 10, 2) := by decide +kernel
theorem dL_areCopies_92 : decode cL_areCopies 92 = .ok (.iload 10, 2) := by decide +kernel
theorem dL_areCopies_94 : decode cL_areCopies 94 = .ok (.aload 6, 2) := by decide +kernel
theorem dL_areCopies_96 : decode cL_areCopies 96 = .ok (.iconst 0, 1) := by decide +kernel
theorem dL_areCopies_97 : decode cL_areCopies 97 = .ok (.iaload, 1) := by decide +kernel
theorem dL_areCopies_98 : decode cL_areCopies 98 = .ok (.if_icmp .ge 74, 3) := by decide +kernel
theorem dL_areCopies_101 : decode cL_areCopies 101 = .ok (.iload 8, 2) := by decide +kernel
theorem dL_areCopies_103 : decode cL_areCopies 103 = .ok (.ifCond .eq 69, 3) := by decide +kernel
theorem dL_areCopies_106 : decode cL_areCopies 106 = .ok (.aload_n 0, 1) := by decide +kernel
theorem dL_areCopies_107 : decode cL_areCopies 107 = .ok (.iload 9, 2) := by decide +kernel
theorem dL_areCopies_109 : decode cL_areCopies 109 = .ok (.iload 10, 2) := by decide +kernel
theorem dL_areCopies_111 : decode cL_areCopies 111 = .ok (.invokevirtual 132, 3) := by decide +kernel
theorem dL_areCopies_114 : decode cL_areCopies 114 = .ok (.aload_n 3, 1) := by decide +kernel
theorem dL_areCopies_115 : decode cL_areCopies 115 = .ok (.bipush 8, 2) := by decide +kernel
theorem dL_areCopies_117 : decode cL_areCopies 117 = .ok (.iload 9, 2) := by decide +kernel
theorem dL_areCopies_119 : decode cL_areCopies 119 = .ok (.imul, 1) := by decide +kernel
theorem dL_areCopies_120 : decode cL_areCopies 120 = .ok (.iconst 1, 1) := by decide +kernel
theorem dL_areCopies_121 : decode cL_areCopies 121 = .ok (.iadd, 1) := by decide +kernel
theorem dL_areCopies_122 : decode cL_areCopies 122 = .ok (.iaload, 1) := by decide +kernel
theorem dL_areCopies_123 : decode cL_areCopies 123 = .ok (.ifCond .ge 21, 3) := by decide +kernel
theorem dL_areCopies_126 : decode cL_areCopies 126 = .ok (.aload_n 2, 1) := by decide +kernel
theorem dL_areCopies_127 : decode cL_areCopies 127 = .ok (.bipush 6, 2) := by decide +kernel
theorem dL_areCopies_129 : decode cL_areCopies 129 = .ok (.aload_n 3, 1) := by decide +kernel
theorem dL_areCopies_130 : decode cL_areCopies 130 = .ok (.bipush 8, 2) := by decide +kernel
theorem dL_areCopies_132 : decode cL_areCopies 132 = .ok (.iload 9, 2) := by decide +kernel
theorem dL_areCopies_134 : decode cL_areCopies 134 = .ok (.imul, 1) := by decide +kernel
theorem dL_areCopies_135 : decode cL_areCopies 135 = .ok (.iaload, 1) := by decide +kernel
theorem dL_areCopies_136 : decode cL_areCopies 136 = .ok (.imul, 1) := by decide +kernel
theorem dL_areCopies_137 : decode cL_areCopies 137 = .ok (.iload 10, 2) := by decide +kernel
theorem dL_areCopies_139 : decode cL_areCopies 139 = .ok (.iadd, 1) := by decide +kernel
theorem dL_areCopies_140 : decode cL_areCopies 140 = .ok (.iaload, 1) := by decide +kernel
theorem dL_areCopies_141 : decode cL_areCopies 141 = .ok (.goto 15, 3) := by decide +kernel
theorem dL_areCopies_144 : decode cL_areCopies 144 = .ok (.aload_n 3, 1) := by decide +kernel
theorem dL_areCopies_145 : decode cL_areCopies 145 = .ok (.bipush 8, 2) := by decide +kernel
theorem dL_areCopies_147 : decode cL_areCopies 147 = .ok (.iload 9, 2) := by decide +kernel
theorem dL_areCopies_149 : decode cL_areCopies 149 = .ok (.imul, 1) := by decide +kernel
theorem dL_areCopies_150 : decode cL_areCopies 150 = .ok (.iconst 2, 1) := by decide +kernel
theorem dL_areCopies_151 : decode cL_areCopies 151 = .ok (.iadd, 1) := by decide +kernel
theorem dL_areCopies_152 : decode cL_areCopies 152 = .ok (.iload 10, 2) := by decide +kernel
theorem dL_areCopies_154 : decode cL_areCopies 154 = .ok (.iadd, 1) := by decide +kernel
theorem dL_areCopies_155 : decode cL_areCopies 155 = .ok (.iaload, 1) := by decide +kernel
theorem dL_areCopies_156 : decode cL_areCopies 156 = .ok (.if_icmp .ne 7, 3) := by decide +kernel
theorem dL_areCopies_159 : decode cL_areCopies 159 = .ok (.iconst 1, 1) := by decide +kernel
theorem dL_areCopies_160 : decode cL_areCopies 160 = .ok (.goto 4, 3) := by decide +kernel
theorem dL_areCopies_163 : decode cL_areCopies 163 = .ok (.iconst 0, 1) := by decide +kernel
theorem dL_areCopies_164 : decode cL_areCopies 164 = .ok (.istore 8, 2) := by decide +kernel
theorem dL_areCopies_166 : decode cL_areCopies 166 = .ok (.iinc 10 1, 3) := by decide +kernel
theorem dL_areCopies_169 : decode cL_areCopies 169 = .ok (.goto (-77), 3) := by decide +kernel
theorem dL_areCopies_172 : decode cL_areCopies 172 = .ok (.iinc 9 1, 3) := by decide +kernel
theorem dL_areCopies_175 : decode cL_areCopies 175 = .ok (.goto (-143), 3) := by decide +kernel
theorem dL_areCopies_178 : decode cL_areCopies 178 = .ok (.iload 7, 2) := by decide +kernel
theorem dL_areCopies_180 : decode cL_areCopies 180 = .ok (.bipush 6, 2) := by decide +kernel
theorem dL_areCopies_182 : decode cL_areCopies 182 = .ok (.irem, 1) := by decide +kernel
theorem dL_areCopies_183 : decode cL_areCopies 183 = .ok (.istore 9, 2) := by decide +kernel
theorem dL_areCopies_185 : decode cL_areCopies 185 = .ok (.iconst 0, 1) := by decide +kernel
theorem dL_areCopies_186 : decode cL_areCopies 186 = .ok (.istore 10, 2) := by decide +kernel
theorem dL_areCopies_188 : decode cL_areCopies 188 = .ok (.iconst 0, 1) := by decide +kernel
theorem dL_areCopies_189 : decode cL_areCopies 189 = .ok (.istore 11, 2) := by decide +kernel
theorem dL_areCopies_191 : decode cL_areCopies 191 = .ok (.iload 11, 2) := by decide +kernel
theorem dL_areCopies_193 : decode cL_areCopies 193 = .ok (.iconst 5, 1) := by decide +kernel
theorem dL_areCopies_194 : decode cL_areCopies 194 = .ok (.if_icmp .ge 121, 3) := by decide +kernel
theorem dL_areCopies_197 : decode cL_areCopies 197 = .ok (.iload 8, 2) := by decide +kernel
theorem dL_areCopies_199 : decode cL_areCopies 199 = .ok (.ifCond .eq 116, 3) := by decide +kernel
theorem dL_areCopies_202 : decode cL_areCopies 202 = .ok (.iconst 0, 1) := by decide +kernel
theorem dL_areCopies_203 : decode cL_areCopies 203 = .ok (.istore 12, 2) := by decide +kernel
theorem dL_areCopies_205 : decode cL_areCopies 205 = .ok (.iload 12, 2) := by decide +kernel
theorem dL_areCopies_207 : decode cL_areCopies 207 = .ok (.aload 6, 2) := by decide +kernel
theorem dL_areCopies_209 : decode cL_areCopies 209 = .ok (.iconst 0, 1) := by decide +kernel
theorem dL_areCopies_210 : decode cL_areCopies 210 = .ok (.iaload, 1) := by decide +kernel
theorem dL_areCopies_211 : decode cL_areCopies 211 = .ok (.if_icmp .ge 98, 3) := by decide +kernel
theorem dL_areCopies_214 : decode cL_areCopies 214 = .ok (.iload 8, 2) := by decide +kernel
theorem dL_areCopies_216 : decode cL_areCopies 216 = .ok (.ifCond .eq 93, 3) := by decide +kernel
theorem dL_areCopies_219 : decode cL_areCopies 219 = .ok (.aload 4, 2) := by decide +kernel
theorem dL_areCopies_221 : decode cL_areCopies 221 = .ok (.iconst 5, 1) := by decide +kernel
theorem dL_areCopies_222 : decode cL_areCopies 222 = .ok (.iload 9, 2) := by decide +kernel
theorem dL_areCopies_224 : decode cL_areCopies 224 = .ok (.imul, 1) := by decide +kernel
theorem dL_areCopies_225 : decode cL_areCopies 225 = .ok (.iload 11, 2) := by decide +kernel
theorem dL_areCopies_227 : decode cL_areCopies 227 = .ok (.iadd, 1) := by decide +kernel
theorem dL_areCopies_228 : decode cL_areCopies 228 = .ok (.laload, 1) := by decide +kernel
theorem dL_areCopies_229 : decode cL_areCopies 229 = .ok (.bipush 10, 2) := by decide +kernel
theorem dL_areCopies_231 : decode cL_areCopies 231 = .ok (.iload 12, 2) := by decide +kernel
theorem dL_areCopies_233 : decode cL_areCopies 233 = .ok (.imul, 1) := by decide +kernel
theorem dL_areCopies_234 : decode cL_areCopies 234 = .ok (.lushr, 1) := by decide +kernel
theorem dL_areCopies_235 : decode cL_areCopies 235 = .ok (.ldc2_w 135, 3) := by decide +kernel
theorem dL_areCopies_238 : decode cL_areCopies 238 = .ok (.land, 1) := by decide +kernel
theorem dL_areCopies_239 : decode cL_areCopies 239 = .ok (.l2i, 1) := by decide +kernel
theorem dL_areCopies_240 : decode cL_areCopies 240 = .ok (.istore 13, 2) := by decide +kernel
theorem dL_areCopies_242 : decode cL_areCopies 242 = .ok (.iload 10, 2) := by decide +kernel
theorem dL_areCopies_244 : decode cL_areCopies 244 = .ok (.iload 13, 2) := by decide +kernel
theorem dL_areCopies_246 : decode cL_areCopies 246 = .ok (.bipush 16, 2) := by decide +kernel
theorem dL_areCopies_248 : decode cL_areCopies 248 = .ok (.irem, 1) := by decide +kernel
theorem dL_areCopies_249 : decode cL_areCopies 249 = .ok (.ifCond .le 25, 3) := by decide +kernel
theorem dL_areCopies_252 : decode cL_areCopies 252 = .ok (.iload 13, 2) := by decide +kernel
theorem dL_areCopies_254 : decode cL_areCopies 254 = .ok (.bipush 16, 2) := by decide +kernel
theorem dL_areCopies_256 : decode cL_areCopies 256 = .ok (.idiv, 1) := by decide +kernel
theorem dL_areCopies_257 : decode cL_areCopies 257 = .ok (.aload_n 2, 1) := by decide +kernel
theorem dL_areCopies_258 : decode cL_areCopies 258 = .ok (.bipush 6, 2) := by decide +kernel
theorem dL_areCopies_260 : decode cL_areCopies 260 = .ok (.iload 11, 2) := by decide +kernel
theorem dL_areCopies_262 : decode cL_areCopies 262 = .ok (.imul, 1) := by decide +kernel
theorem dL_areCopies_263 : decode cL_areCopies 263 = .ok (.iload 12, 2) := by decide +kernel
theorem dL_areCopies_265 : decode cL_areCopies 265 = .ok (.iadd, 1) := by decide +kernel
theorem dL_areCopies_266 : decode cL_areCopies 266 = .ok (.iaload, 1) := by decide +kernel
theorem dL_areCopies_267 : decode cL_areCopies 267 = .ok (.if_icmp .eq 7, 3) := by decide +kernel
theorem dL_areCopies_270 : decode cL_areCopies 270 = .ok (.iconst 1, 1) := by decide +kernel
theorem dL_areCopies_271 : decode cL_areCopies 271 = .ok (.goto 4, 3) := by decide +kernel
theorem dL_areCopies_274 : decode cL_areCopies 274 = .ok (.iconst 0, 1) := by decide +kernel
theorem dL_areCopies_275 : decode cL_areCopies 275 = .ok (.iadd, 1) := by decide +kernel
theorem dL_areCopies_276 : decode cL_areCopies 276 = .ok (.istore 10, 2) := by decide +kernel
theorem dL_areCopies_278 : decode cL_areCopies 278 = .ok (.aload_n 0, 1) := by decide +kernel
theorem dL_areCopies_279 : decode cL_areCopies 279 = .ok (.iload 9, 2) := by decide +kernel
theorem dL_areCopies_281 : decode cL_areCopies 281 = .ok (.iload 11, 2) := by decide +kernel
theorem dL_areCopies_283 : decode cL_areCopies 283 = .ok (.iload 12, 2) := by decide +kernel
theorem dL_areCopies_285 : decode cL_areCopies 285 = .ok (.invokevirtual 137, 3) := by decide +kernel
theorem dL_areCopies_288 : decode cL_areCopies 288 = .ok (.iload 13, 2) := by decide +kernel
theorem dL_areCopies_290 : decode cL_areCopies 290 = .ok (.bipush 16, 2) := by decide +kernel
theorem dL_areCopies_292 : decode cL_areCopies 292 = .ok (.irem, 1) := by decide +kernel
theorem dL_areCopies_293 : decode cL_areCopies 293 = .ok (.if_icmp .ne 7, 3) := by decide +kernel
theorem dL_areCopies_296 : decode cL_areCopies 296 = .ok (.iconst 1, 1) := by decide +kernel
theorem dL_areCopies_297 : decode cL_areCopies 297 = .ok (.goto 4, 3) := by decide +kernel
theorem dL_areCopies_300 : decode cL_areCopies 300 = .ok (.iconst 0, 1) := by decide +kernel
theorem dL_areCopies_301 : decode cL_areCopies 301 = .ok (.istore 8, 2) := by decide +kernel
theorem dL_areCopies_303 : decode cL_areCopies 303 = .ok (.iinc 12 1, 3) := by decide +kernel
theorem dL_areCopies_306 : decode cL_areCopies 306 = .ok (.goto (-101), 3) := by decide +kernel
theorem dL_areCopies_309 : decode cL_areCopies 309 = .ok (.iinc 11 1, 3) := by decide +kernel
theorem dL_areCopies_312 : decode cL_areCopies 312 = .ok (.goto (-121), 3) := by decide +kernel
theorem dL_areCopies_315 : decode cL_areCopies 315 = .ok (.iconst 0, 1) := by decide +kernel
theorem dL_areCopies_316 : decode cL_areCopies 316 = .ok (.istore 11, 2) := by decide +kernel
theorem dL_areCopies_318 : decode cL_areCopies 318 = .ok (.iload 11, 2) := by decide +kernel
theorem dL_areCopies_320 : decode cL_areCopies 320 = .ok (.iconst 2, 1) := by decide +kernel
theorem dL_areCopies_321 : decode cL_areCopies 321 = .ok (.if_icmp .ge 145, 3) := by decide +kernel
theorem dL_areCopies_324 : decode cL_areCopies 324 = .ok (.iload 8, 2) := by decide +kernel
theorem dL_areCopies_326 : decode cL_areCopies 326 = .ok (.ifCond .eq 140, 3) := by decide +kernel
theorem dL_areCopies_329 : decode cL_areCopies 329 = .ok (.iconst 0, 1) := by decide +kernel
theorem dL_areCopies_330 : decode cL_areCopies 330 = .ok (.istore 12, 2) := by decide +kernel
theorem dL_areCopies_332 : decode cL_areCopies 332 = .ok (.bipush 6, 2) := by decide +kernel
theorem dL_areCopies_334 : decode cL_areCopies 334 = .ok (.iload 11, 2) := by decide +kernel
theorem dL_areCopies_336 : decode cL_areCopies 336 = .ok (.imul, 1) := by decide +kernel
theorem dL_areCopies_337 : decode cL_areCopies 337 = .ok (.istore 13, 2) := by decide +kernel
theorem dL_areCopies_339 : decode cL_areCopies 339 = .ok (.iload 13, 2) := by decide +kernel
theorem dL_areCopies_341 : decode cL_areCopies 341 = .ok (.bipush 6, 2) := by decide +kernel
theorem dL_areCopies_343 : decode cL_areCopies 343 = .ok (.iload 11, 2) := by decide +kernel
theorem dL_areCopies_345 : decode cL_areCopies 345 = .ok (.imul, 1) := by decide +kernel
theorem dL_areCopies_346 : decode cL_areCopies 346 = .ok (.aload 6, 2) := by decide +kernel
theorem dL_areCopies_348 : decode cL_areCopies 348 = .ok (.iconst 0, 1) := by decide +kernel
theorem dL_areCopies_349 : decode cL_areCopies 349 = .ok (.iaload, 1) := by decide +kernel
theorem dL_areCopies_350 : decode cL_areCopies 350 = .ok (.iadd, 1) := by decide +kernel
theorem dL_areCopies_351 : decode cL_areCopies 351 = .ok (.if_icmp .ge 91, 3) := by decide +kernel
theorem dL_areCopies_354 : decode cL_areCopies 354 = .ok (.iconst 0, 1) := by decide +kernel
theorem dL_areCopies_355 : decode cL_areCopies 355 = .ok (.istore 14, 2) := by decide +kernel
theorem dL_areCopies_357 : decode cL_areCopies 357 = .ok (.iload 14, 2) := by decide +kernel
theorem dL_areCopies_359 : decode cL_areCopies 359 = .ok (.aload_n 1, 1) := by decide +kernel
theorem dL_areCopies_360 : decode cL_areCopies 360 = .ok (.iload 13, 2) := by decide +kernel
theorem dL_areCopies_362 : decode cL_areCopies 362 = .ok (.iaload, 1) := by decide +kernel
theorem dL_areCopies_363 : decode cL_areCopies 363 = .ok (.if_icmp .ge 73, 3) := by decide +kernel
theorem dL_areCopies_366 : decode cL_areCopies 366 = .ok (.iconst 0, 1) := by decide +kernel
theorem dL_areCopies_367 : decode cL_areCopies 367 = .ok (.istore 15, 2) := by decide +kernel
theorem dL_areCopies_369 : decode cL_areCopies 369 = .ok (.iload 15, 2) := by decide +kernel
theorem dL_areCopies_371 : decode cL_areCopies 371 = .ok (.iconst 4, 1) := by decide +kernel
theorem dL_areCopies_372 : decode cL_areCopies 372 = .ok (.if_icmp .ge 58, 3) := by decide +kernel
theorem dL_areCopies_375 : decode cL_areCopies 375 = .ok (.aload_n 2, 1) := by decide +kernel
theorem dL_areCopies_376 : decode cL_areCopies 376 = .ok (.aload 5, 2) := by decide +kernel
theorem dL_areCopies_378 : decode cL_areCopies 378 = .ok (.iload 15, 2) := by decide +kernel
theorem dL_areCopies_380 : decode cL_areCopies 380 = .ok (.iload 13, 2) := by decide +kernel
theorem dL_areCopies_382 : decode cL_areCopies 382 = .ok (.iload 14, 2) := by decide +kernel
theorem dL_areCopies_384 : decode cL_areCopies 384 = .ok (.invokestatic 140, 3) := by decide +kernel
theorem dL_areCopies_387 : decode cL_areCopies 387 = .ok (.istore 16, 2) := by decide +kernel
theorem dL_areCopies_389 : decode cL_areCopies 389 = .ok (.aload_n 2, 1) := by decide +kernel
theorem dL_areCopies_390 : decode cL_areCopies 390 = .ok (.aload 5, 2) := by decide +kernel
theorem dL_areCopies_392 : decode cL_areCopies 392 = .ok (.iload 15, 2) := by decide +kernel
theorem dL_areCopies_394 : decode cL_areCopies 394 = .ok (.iconst 1, 1) := by decide +kernel
theorem dL_areCopies_395 : decode cL_areCopies 395 = .ok (.iadd, 1) := by decide +kernel
theorem dL_areCopies_396 : decode cL_areCopies 396 = .ok (.iload 13, 2) := by decide +kernel
theorem dL_areCopies_398 : decode cL_areCopies 398 = .ok (.iload 14, 2) := by decide +kernel
theorem dL_areCopies_400 : decode cL_areCopies 400 = .ok (.invokestatic 140, 3) := by decide +kernel
theorem dL_areCopies_403 : decode cL_areCopies 403 = .ok (.istore 17, 2) := by decide +kernel
theorem dL_areCopies_405 : decode cL_areCopies 405 = .ok (.iload 12, 2) := by decide +kernel
theorem dL_areCopies_407 : decode cL_areCopies 407 = .ok (.iload 16, 2) := by decide +kernel
theorem dL_areCopies_409 : decode cL_areCopies 409 = .ok (.iload 17, 2) := by decide +kernel
theorem dL_areCopies_411 : decode cL_areCopies 411 = .ok (.imul, 1) := by decide +kernel
theorem dL_areCopies_412 : decode cL_areCopies 412 = .ok (.iconst 2, 1) := by decide +kernel
theorem dL_areCopies_413 : decode cL_areCopies 413 = .ok (.if_icmp .ne 7, 3) := by decide +kernel
theorem dL_areCopies_416 : decode cL_areCopies 416 = .ok (.iconst 1, 1) := by decide +kernel
theorem dL_areCopies_417 : decode cL_areCopies 417 = .ok (.goto 4, 3) := by decide +kernel
theorem dL_areCopies_420 : decode cL_areCopies 420 = .ok (.iconst 0, 1) := by decide +kernel
theorem dL_areCopies_421 : decode cL_areCopies 421 = .ok (.iadd, 1) := by decide +kernel
theorem dL_areCopies_422 : decode cL_areCopies 422 = .ok (.istore 12, 2) := by decide +kernel
theorem dL_areCopies_424 : decode cL_areCopies 424 = .ok (.iinc 15 2, 3) := by decide +kernel
theorem dL_areCopies_427 : decode cL_areCopies 427 = .ok (.goto (-58), 3) := by decide +kernel
theorem dL_areCopies_430 : decode cL_areCopies 430 = .ok (.iinc 14 1, 3) := by decide +kernel
theorem dL_areCopies_433 : decode cL_areCopies 433 = .ok (.goto (-76), 3) := by decide +kernel
theorem dL_areCopies_436 : decode cL_areCopies 436 = .ok (.iinc 13 1, 3) := by decide +kernel
theorem dL_areCopies_439 : decode cL_areCopies 439 = .ok (.goto (-100), 3) := by decide +kernel
theorem dL_areCopies_442 : decode cL_areCopies 442 = .ok (.aload_n 0, 1) := by decide +kernel
theorem dL_areCopies_443 : decode cL_areCopies 443 = .ok (.iload 11, 2) := by decide +kernel
theorem dL_areCopies_445 : decode cL_areCopies 445 = .ok (.invokevirtual 144, 3) := by decide +kernel
theorem dL_areCopies_448 : decode cL_areCopies 448 = .ok (.iload 12, 2) := by decide +kernel
theorem dL_areCopies_450 : decode cL_areCopies 450 = .ok (.if_icmp .ne 7, 3) := by decide +kernel
theorem dL_areCopies_453 : decode cL_areCopies 453 = .ok (.iconst 1, 1) := by decide +kernel
theorem dL_areCopies_454 : decode cL_areCopies 454 = .ok (.goto 4, 3) := by decide +kernel
theorem dL_areCopies_457 : decode cL_areCopies 457 = .ok (.iconst 0, 1) := by decide +kernel
theorem dL_areCopies_458 : decode cL_areCopies 458 = .ok (.istore 8, 2) := by decide +kernel
theorem dL_areCopies_460 : decode cL_areCopies 460 = .ok (.iinc 11 1, 3) := by decide +kernel
theorem dL_areCopies_463 : decode cL_areCopies 463 = .ok (.goto (-145), 3) := by decide +kernel
theorem dL_areCopies_466 : decode cL_areCopies 466 = .ok (.iload 8, 2) := by decide +kernel
theorem dL_areCopies_468 : decode cL_areCopies 468 = .ok (.ifCond .eq 18, 3) := by decide +kernel
theorem dL_areCopies_471 : decode cL_areCopies 471 = .ok (.aload_n 0, 1) := by decide +kernel
theorem dL_areCopies_472 : decode cL_areCopies 472 = .ok (.iload 9, 2) := by decide +kernel
theorem dL_areCopies_474 : decode cL_areCopies 474 = .ok (.invokevirtual 147, 3) := by decide +kernel
theorem dL_areCopies_477 : decode cL_areCopies 477 = .ok (.iload 10, 2) := by decide +kernel
theorem dL_areCopies_479 : decode cL_areCopies 479 = .ok (.if_icmp .ne 7, 3) := by decide +kernel
theorem dL_areCopies_482 : decode cL_areCopies 482 = .ok (.iconst 1, 1) := by decide +kernel
theorem dL_areCopies_483 : decode cL_areCopies 483 = .ok (.goto 4, 3) := by decide +kernel
theorem dL_areCopies_486 : decode cL_areCopies 486 = .ok (.iconst 0, 1) := by decide +kernel
theorem dL_areCopies_487 : decode cL_areCopies 487 = .ok (.ireturn, 1) := by decide +kernel
theorem dL_noted_0 : decode cL_noted 0 = .ok (.aload_n 0, 1) := by decide +kernel
theorem dL_noted_1 : decode cL_noted 1 = .ok (.iload_n 1, 1) := by decide +kernel
theorem dL_noted_2 : decode cL_noted 2 = .ok (.iload_n 2, 1) := by decide +kernel
theorem dL_noted_3 : decode cL_noted 3 = .ok (.iload_n 3, 1) := by decide +kernel
theorem dL_noted_4 : decode cL_noted 4 = .ok (.iload 4, 2) := by decide +kernel
theorem dL_noted_6 : decode cL_noted 6 = .ok (.invokevirtual 150, 3) := by decide +kernel
theorem dL_noted_9 : decode cL_noted 9 = .ok (.ireturn, 1) := by decide +kernel
theorem dL_noted_10 : decode cL_noted 10 = .ok (.astore 5, 2) := by decide +kernel
theorem dL_noted_12 : decode cL_noted 12 = .ok (.bipush (-7), 2) := by decide +kernel
theorem dL_noted_14 : decode cL_noted 14 = .ok (.ireturn, 1) := by decide +kernel
theorem dL_lent_0 : decode cL_lent 0 = .ok (.aload_n 0, 1) := by decide +kernel
theorem dL_lent_1 : decode cL_lent 1 = .ok (.iload_n 1, 1) := by decide +kernel
theorem dL_lent_2 : decode cL_lent 2 = .ok (.iload_n 2, 1) := by decide +kernel
theorem dL_lent_3 : decode cL_lent 3 = .ok (.invokevirtual 156, 3) := by decide +kernel
theorem dL_lent_6 : decode cL_lent 6 = .ok (.ireturn, 1) := by decide +kernel
theorem dL_lent_7 : decode cL_lent 7 = .ok (.astore_n 3, 1) := by decide +kernel
theorem dL_lent_8 : decode cL_lent 8 = .ok (.bipush (-7), 2) := by decide +kernel
theorem dL_lent_10 : decode cL_lent 10 = .ok (.ireturn, 1) := by decide +kernel
theorem dL_did_0 : decode cL_did 0 = .ok (.iload_n 1, 1) := by decide +kernel
theorem dL_did_1 : decode cL_did 1 = .ok (.ifCond .ne 11, 3) := by decide +kernel
theorem dL_did_4 : decode cL_did 4 = .ok (.aload_n 0, 1) := by decide +kernel
theorem dL_did_5 : decode cL_did 5 = .ok (.iload_n 2, 1) := by decide +kernel
theorem dL_did_6 : decode cL_did 6 = .ok (.invokevirtual 159, 3) := by decide +kernel
theorem dL_did_9 : decode cL_did 9 = .ok (.goto 8, 3) := by decide +kernel
theorem dL_did_12 : decode cL_did 12 = .ok (.aload_n 0, 1) := by decide +kernel
theorem dL_did_13 : decode cL_did 13 = .ok (.iload_n 2, 1) := by decide +kernel
theorem dL_did_14 : decode cL_did 14 = .ok (.invokevirtual 162, 3) := by decide +kernel
theorem dL_did_17 : decode cL_did 17 = .ok (.ireturn, 1) := by decide +kernel
theorem dL_did_18 : decode cL_did 18 = .ok (.astore_n 3, 1) := by decide +kernel
theorem dL_did_19 : decode cL_did 19 = .ok (.bipush (-7), 2) := by decide +kernel
theorem dL_did_21 : decode cL_did 21 = .ok (.ireturn, 1) := by decide +kernel
theorem dL_marked_0 : decode cL_marked 0 = .ok (.aload_n 0, 1) := by decide +kernel
theorem dL_marked_1 : decode cL_marked 1 = .ok (.iload_n 1, 1) := by decide +kernel
theorem dL_marked_2 : decode cL_marked 2 = .ok (.iload_n 2, 1) := by decide +kernel
theorem dL_marked_3 : decode cL_marked 3 = .ok (.iload_n 3, 1) := by decide +kernel
theorem dL_marked_4 : decode cL_marked 4 = .ok (.invokevirtual 165, 3) := by decide +kernel
theorem dL_marked_7 : decode cL_marked 7 = .ok (.ireturn, 1) := by decide +kernel
theorem dL_marked_8 : decode cL_marked 8 = .ok (.astore 4, 2) := by decide +kernel
theorem dL_marked_10 : decode cL_marked 10 = .ok (.bipush (-7), 2) := by decide +kernel
theorem dL_marked_12 : decode cL_marked 12 = .ok (.ireturn, 1) := by decide +kernel
theorem dL_bowed_0 : decode cL_bowed 0 = .ok (.aload_n 0, 1) := by decide +kernel
theorem dL_bowed_1 : decode cL_bowed 1 = .ok (.iload_n 1, 1) := by decide +kernel
theorem dL_bowed_2 : decode cL_bowed 2 = .ok (.iload_n 2, 1) := by decide +kernel
theorem dL_bowed_3 : decode cL_bowed 3 = .ok (.iload_n 3, 1) := by decide +kernel
theorem dL_bowed_4 : decode cL_bowed 4 = .ok (.iload 4, 2) := by decide +kernel
theorem dL_bowed_6 : decode cL_bowed 6 = .ok (.invokevirtual 168, 3) := by decide +kernel
theorem dL_bowed_9 : decode cL_bowed 9 = .ok (.ireturn, 1) := by decide +kernel
theorem dL_bowed_10 : decode cL_bowed 10 = .ok (.astore 5, 2) := by decide +kernel
theorem dL_bowed_12 : decode cL_bowed 12 = .ok (.bipush (-7), 2) := by decide +kernel
theorem dL_bowed_14 : decode cL_bowed 14 = .ok (.ireturn, 1) := by decide +kernel
theorem dL_played_0 : decode cL_played 0 = .ok (.aload_n 0, 1) := by decide +kernel
theorem dL_played_1 : decode cL_played 1 = .ok (.invokevirtual 171, 3) := by decide +kernel
theorem dL_played_4 : decode cL_played 4 = .ok (.ireturn, 1) := by decide +kernel
theorem dL_played_5 : decode cL_played 5 = .ok (.astore_n 1, 1) := by decide +kernel
theorem dL_played_6 : decode cL_played 6 = .ok (.bipush (-7), 2) := by decide +kernel
theorem dL_played_8 : decode cL_played 8 = .ok (.ireturn, 1) := by decide +kernel
theorem dL_isNoted_0 : decode cL_isNoted 0 = .ok (.iload 7, 2) := by decide +kernel
theorem dL_isNoted_2 : decode cL_isNoted 2 = .ok (.iconst 5, 1) := by decide +kernel
theorem dL_isNoted_3 : decode cL_isNoted 3 = .ok (.irem, 1) := by decide +kernel
theorem dL_isNoted_4 : decode cL_isNoted 4 = .ok (.istore 8, 2) := by decide +kernel
theorem dL_isNoted_6 : decode cL_isNoted 6 = .ok (.iload 7, 2) := by decide +kernel
theorem dL_isNoted_8 : decode cL_isNoted 8 = .ok (.iconst 5, 1) := by decide +kernel
theorem dL_isNoted_9 : decode cL_isNoted 9 = .ok (.idiv, 1) := by decide +kernel
theorem dL_isNoted_10 : decode cL_isNoted 10 = .ok (.aload 5, 2) := by decide +kernel
theorem dL_isNoted_12 : decode cL_isNoted 12 = .ok (.iconst 0, 1) := by decide +kernel
theorem dL_isNoted_13 : decode cL_isNoted 13 = .ok (.iaload, 1) := by decide +kernel
theorem dL_isNoted_14 : decode cL_isNoted 14 = .ok (.irem, 1) := by decide +kernel
theorem dL_isNoted_15 : decode cL_isNoted 15 = .ok (.istore 9, 2) := by decide +kernel
theorem dL_isNoted_17 : decode cL_isNoted 17 = .ok (.bipush 6, 2) := by decide +kernel
theorem dL_isNoted_19 : decode cL_isNoted 19 = .ok (.iload 8, 2) := by decide +kernel
theorem dL_isNoted_21 : decode cL_isNoted 21 = .ok (.imul, 1) := by decide +kernel
theorem dL_isNoted_22 : decode cL_isNoted 22 = .ok (.iload 9, 2) := by decide +kernel
theorem dL_isNoted_24 : decode cL_isNoted 24 = .ok (.iadd, 1) := by decide +kernel
theorem dL_isNoted_25 : decode cL_isNoted 25 = .ok (.istore 10, 2) := by decide +kernel
theorem dL_isNoted_27 : decode cL_isNoted 27 = .ok (.iload 7, 2) := by decide +kernel
theorem dL_isNoted_29 : decode cL_isNoted 29 = .ok (.bipush 30, 2) := by decide +kernel
theorem dL_isNoted_31 : decode cL_isNoted 31 = .ok (.idiv, 1) := by decide +kernel
theorem dL_isNoted_32 : decode cL_isNoted 32 = .ok (.bipush 7, 2) := by decide +kernel
theorem dL_isNoted_34 : decode cL_isNoted 34 = .ok (.irem, 1) := by decide +kernel
theorem dL_isNoted_35 : decode cL_isNoted 35 = .ok (.istore 11, 2) := by decide +kernel
theorem dL_isNoted_37 : decode cL_isNoted 37 = .ok (.iload 6, 2) := by decide +kernel
theorem dL_isNoted_39 : decode cL_isNoted 39 = .ok (.bipush 8, 2) := by decide +kernel
theorem dL_isNoted_41 : decode cL_isNoted 41 = .ok (.if_icmp .ge 208, 3) := by decide +kernel
theorem dL_isNoted_44 : decode cL_isNoted 44 = .ok (.iconst 1, 1) := by decide +kernel
theorem dL_isNoted_45 : decode cL_isNoted 45 = .ok (.iload 7, 2) := by decide +kernel
theorem dL_isNoted_47 : decode cL_isNoted 47 = .ok (.sipush 210, 3) := by decide +kernel
theorem dL_isNoted_50 : decode cL_isNoted 50 = .ok (.idiv, 1) := by decide +kernel
theorem dL_isNoted_51 : decode cL_isNoted 51 = .ok (.iload 7, 2) := by decide +kernel
theorem dL_isNoted_53 : decode cL_isNoted 53 = .ok (.iconst 3, 1) := by decide +kernel
theorem dL_isNoted_54 : decode cL_isNoted 54 = .ok (.irem, 1) := by decide +kernel
theorem dL_isNoted_55 : decode cL_isNoted 55 = .ok (.ifCond .ne 8, 3) := by decide +kernel
theorem dL_isNoted_58 : decode cL_isNoted 58 = .ok (.bipush 8, 2) := by decide +kernel
theorem dL_isNoted_60 : decode cL_isNoted 60 = .ok (.goto 4, 3) := by decide +kernel
theorem dL_isNoted_63 : decode cL_isNoted 63 = .ok (.iconst 3, 1) := by decide +kernel
theorem dL_isNoted_64 : decode cL_isNoted 64 = .ok (.irem, 1) := by decide +kernel
theorem dL_isNoted_65 : decode cL_isNoted 65 = .ok (.iadd, 1) := by decide +kernel
theorem dL_isNoted_66 : decode cL_isNoted 66 = .ok (.istore 12, 2) := by decide +kernel
theorem dL_isNoted_68 : decode cL_isNoted 68 = .ok (.iconst 0, 1) := by decide +kernel
theorem dL_isNoted_69 : decode cL_isNoted 69 = .ok (.istore 13, 2) := by decide +kernel
theorem dL_isNoted_71 : decode cL_isNoted 71 = .ok (.iconst 0, 1) := by decide +kernel
theorem dL_isNoted_72 : decode cL_isNoted 72 = .ok (.istore 14, 2) := by decide +kernel
theorem dL_isNoted_74 : decode cL_isNoted 74 = .ok (.iload 14, 2) := by decide +kernel
theorem dL_isNoted_76 : decode cL_isNoted 76 = .ok (.aload_n 2, 1) := by decide +kernel
theorem dL_isNoted_77 : decode cL_isNoted 77 = .ok (.iload 10, 2) := by decide +kernel
theorem dL_isNoted_79 : decode cL_isNoted 79 = .ok (.iaload, 1) := by decide +kernel
theorem dL_isNoted_80 : decode cL_isNoted 80 = .ok (.if_icmp .ge 22, 3) := by decide +kernel
theorem dL_isNoted_83 : decode cL_isNoted 83 = .ok (.iload 13, 2) := by decide +kernel
theorem dL_isNoted_85 : decode cL_isNoted 85 = .ok (.aload_n 1, 1) := by decide +kernel
theorem dL_isNoted_86 : decode cL_isNoted 86 = .ok (.iload 10, 2) := by decide +kernel
theorem dL_isNoted_88 : decode cL_isNoted 88 = .ok (.iload 14, 2) := by decide +kernel
theorem dL_isNoted_90 : decode cL_isNoted 90 = .ok (.invokestatic 19, 3) := by decide +kernel
theorem dL_isNoted_93 : decode cL_isNoted 93 = .ok (.iadd, 1) := by decide +kernel
theorem dL_isNoted_94 : decode cL_isNoted 94 = .ok (.istore 13, 2) := by decide +kernel
theorem dL_isNoted_96 : decode cL_isNoted 96 = .ok (.iinc 14 1, 3) := by decide +kernel
theorem dL_isNoted_99 : decode cL_isNoted 99 = .ok (.goto (-25), 3) := by decide +kernel
theorem dL_isNoted_102 : decode cL_isNoted 102 = .ok (.aload_n 2, 1) := by decide +kernel
theorem dL_isNoted_103 : decode cL_isNoted 103 = .ok (.iload 10, 2) := by decide +kernel
theorem dL_isNoted_105 : decode cL_isNoted 105 = .ok (.iaload, 1) := by decide +kernel
theorem dL_isNoted_106 : decode cL_isNoted 106 = .ok (.bipush 8, 2) := by decide +kernel
theorem dL_isNoted_108 : decode cL_isNoted 108 = .ok (.if_icmp .ge 29, 3) := by decide +kernel
theorem dL_isNoted_111 : decode cL_isNoted 111 = .ok (.iload 13, 2) := by decide +kernel
theorem dL_isNoted_113 : decode cL_isNoted 113 = .ok (.iload 12, 2) := by decide +kernel
theorem dL_isNoted_115 : decode cL_isNoted 115 = .ok (.iadd, 1) := by decide +kernel
theorem dL_isNoted_116 : decode cL_isNoted 116 = .ok (.aload 4, 2) := by decide +kernel
theorem dL_isNoted_118 : decode cL_isNoted 118 = .ok (.iload 9, 2) := by decide +kernel
theorem dL_isNoted_120 : decode cL_isNoted 120 = .ok (.iaload, 1) := by decide +kernel
theorem dL_isNoted_121 : decode cL_isNoted 121 = .ok (.if_icmp .gt 16, 3) := by decide +kernel
theorem dL_isNoted_124 : decode cL_isNoted 124 = .ok (.aload_n 3, 1) := by decide +kernel
theorem dL_isNoted_125 : decode cL_isNoted 125 = .ok (.iload 10, 2) := by decide +kernel
theorem dL_isNoted_127 : decode cL_isNoted 127 = .ok (.iaload, 1) := by decide +kernel
theorem dL_isNoted_128 : decode cL_isNoted 128 = .ok (.bipush 60, 2) := by decide +kernel
theorem dL_isNoted_130 : decode cL_isNoted 130 = .ok (.if_icmp .ge 7, 3) := by decide +kernel
theorem dL_isNoted_133 : decode cL_isNoted 133 = .ok (.iconst 1, 1) := by decide +kernel
theorem dL_isNoted_134 : decode cL_isNoted 134 = .ok (.goto 4, 3) := by decide +kernel
theorem dL_isNoted_137 : decode cL_isNoted 137 = .ok (.iconst 0, 1) := by decide +kernel
theorem dL_isNoted_138 : decode cL_isNoted 138 = .ok (.istore 14, 2) := by decide +kernel
theorem dL_isNoted_140 : decode cL_isNoted 140 = .ok (.aload_n 3, 1) := by decide +kernel
theorem dL_isNoted_141 : decode cL_isNoted 141 = .ok (.iload 10, 2) := by decide +kernel
theorem dL_isNoted_143 : decode cL_isNoted 143 = .ok (.iaload, 1) := by decide +kernel
theorem dL_isNoted_144 : decode cL_isNoted 144 = .ok (.bipush 60, 2) := by decide +kernel
theorem dL_isNoted_146 : decode cL_isNoted 146 = .ok (.if_icmp .lt 5, 3) := by decide +kernel
theorem dL_isNoted_149 : decode cL_isNoted 149 = .ok (.iconst 1, 1) := by decide +kernel
theorem dL_isNoted_150 : decode cL_isNoted 150 = .ok (.ireturn, 1) := by decide +kernel
theorem dL_isNoted_151 : decode cL_isNoted 151 = .ok (.iload 14, 2) := by decide +kernel
theorem dL_isNoted_153 : decode cL_isNoted 153 = .ok (.ifCond .eq 61, 3) := by decide +kernel
theorem dL_isNoted_156 : decode cL_isNoted 156 = .ok (.aload_n 1, 1) := by decide +kernel
theorem dL_isNoted_157 : decode cL_isNoted 157 = .ok (.iload 10, 2) := by decide +kernel
theorem dL_isNoted_159 : decode cL_isNoted 159 = .ok (.aload_n 1, 1) := by decide +kernel
theorem dL_isNoted_160 : decode cL_isNoted 160 = .ok (.iload 10, 2) := by decide +kernel
theorem dL_isNoted_162 : decode cL_isNoted 162 = .ok (.laload, 1) := by decide +kernel
theorem dL_isNoted_163 : decode cL_isNoted 163 = .ok (.ldc2_w 114, 3) := by decide +kernel
theorem dL_isNoted_166 : decode cL_isNoted 166 = .ok (.bipush 8, 2) := by decide +kernel
theorem dL_isNoted_168 : decode cL_isNoted 168 = .ok (.aload_n 2, 1) := by decide +kernel
theorem dL_isNoted_169 : decode cL_isNoted 169 = .ok (.iload 10, 2) := by decide +kernel
theorem dL_isNoted_171 : decode cL_isNoted 171 = .ok (.iaload, 1) := by decide +kernel
theorem dL_isNoted_172 : decode cL_isNoted 172 = .ok (.imul, 1) := by decide +kernel
theorem dL_isNoted_173 : decode cL_isNoted 173 = .ok (.lshl, 1) := by decide +kernel
theorem dL_isNoted_174 : decode cL_isNoted 174 = .ok (.ldc2_w 174, 3) := by decide +kernel
theorem dL_isNoted_177 : decode cL_isNoted 177 = .ok (.lxor, 1) := by decide +kernel
theorem dL_isNoted_178 : decode cL_isNoted 178 = .ok (.land, 1) := by decide +kernel
theorem dL_isNoted_179 : decode cL_isNoted 179 = .ok (.iload 12, 2) := by decide +kernel
theorem dL_isNoted_181 : decode cL_isNoted 181 = .ok (.bipush 32, 2) := by decide +kernel
theorem dL_isNoted_183 : decode cL_isNoted 183 = .ok (.iload 11, 2) := by decide +kernel
theorem dL_isNoted_185 : decode cL_isNoted 185 = .ok (.imul, 1) := by decide +kernel
theorem dL_isNoted_186 : decode cL_isNoted 186 = .ok (.iadd, 1) := by decide +kernel
theorem dL_isNoted_187 : decode cL_isNoted 187 = .ok (.i2l, 1) := by decide +kernel
theorem dL_isNoted_188 : decode cL_isNoted 188 = .ok (.bipush 8, 2) := by decide +kernel
theorem dL_isNoted_190 : decode cL_isNoted 190 = .ok (.aload_n 2, 1) := by decide +kernel
theorem dL_isNoted_191 : decode cL_isNoted 191 = .ok (.iload 10, 2) := by decide +kernel
theorem dL_isNoted_193 : decode cL_isNoted 193 = .ok (.iaload, 1) := by decide +kernel
theorem dL_isNoted_194 : decode cL_isNoted 194 = .ok (.imul, 1) := by decide +kernel
theorem dL_isNoted_195 : decode cL_isNoted 195 = .ok (.lshl, 1) := by decide +kernel
theorem dL_isNoted_196 : decode cL_isNoted 196 = .ok (.lor, 1) := by decide +kernel
theorem dL_isNoted_197 : decode cL_isNoted 197 = .ok (.lastore, 1) := by decide +kernel
theorem dL_isNoted_198 : decode cL_isNoted 198 = .ok (.aload_n 2, 1) := by decide +kernel
theorem dL_isNoted_199 : decode cL_isNoted 199 = .ok (.iload 10, 2) := by decide +kernel
theorem dL_isNoted_201 : decode cL_isNoted 201 = .ok (.dup2, 1) := by decide +kernel
theorem dL_isNoted_202 : decode cL_isNoted 202 = .ok (.iaload, 1) := by decide +kernel
theorem dL_isNoted_203 : decode cL_isNoted 203 = .ok (.iconst 1, 1) := by decide +kernel
theorem dL_isNoted_204 : decode cL_isNoted 204 = .ok (.iadd, 1) := by decide +kernel
theorem dL_isNoted_205 : decode cL_isNoted 205 = .ok (.iastore, 1) := by decide +kernel
theorem dL_isNoted_206 : decode cL_isNoted 206 = .ok (.aload_n 3, 1) := by decide +kernel
theorem dL_isNoted_207 : decode cL_isNoted 207 = .ok (.iload 10, 2) := by decide +kernel
theorem dL_isNoted_209 : decode cL_isNoted 209 = .ok (.dup2, 1) := by decide +kernel
theorem dL_isNoted_210 : decode cL_isNoted 210 = .ok (.iaload, 1) := by decide +kernel
theorem dL_isNoted_211 : decode cL_isNoted 211 = .ok (.iconst 1, 1) := by decide +kernel
theorem dL_isNoted_212 : decode cL_isNoted 212 = .ok (.iadd, 1) := by decide +kernel
theorem dL_isNoted_213 : decode cL_isNoted 213 = .ok (.iastore, 1) := by decide +kernel
theorem dL_isNoted_214 : decode cL_isNoted 214 = .ok (.aload_n 0, 1) := by decide +kernel
theorem dL_isNoted_215 : decode cL_isNoted 215 = .ok (.iload 8, 2) := by decide +kernel
theorem dL_isNoted_217 : decode cL_isNoted 217 = .ok (.iload 9, 2) := by decide +kernel
theorem dL_isNoted_219 : decode cL_isNoted 219 = .ok (.iload 12, 2) := by decide +kernel
theorem dL_isNoted_221 : decode cL_isNoted 221 = .ok (.iload 11, 2) := by decide +kernel
theorem dL_isNoted_223 : decode cL_isNoted 223 = .ok (.invokestatic 176, 3) := by decide +kernel
theorem dL_isNoted_226 : decode cL_isNoted 226 = .ok (.iload 14, 2) := by decide +kernel
theorem dL_isNoted_228 : decode cL_isNoted 228 = .ok (.ifCond .eq 10, 3) := by decide +kernel
theorem dL_isNoted_231 : decode cL_isNoted 231 = .ok (.aload_n 2, 1) := by decide +kernel
theorem dL_isNoted_232 : decode cL_isNoted 232 = .ok (.iload 10, 2) := by decide +kernel
theorem dL_isNoted_234 : decode cL_isNoted 234 = .ok (.iaload, 1) := by decide +kernel
theorem dL_isNoted_235 : decode cL_isNoted 235 = .ok (.goto 5, 3) := by decide +kernel
theorem dL_isNoted_238 : decode cL_isNoted 238 = .ok (.bipush (-7), 2) := by decide +kernel
theorem dL_isNoted_240 : decode cL_isNoted 240 = .ok (.if_icmp .ne 7, 3) := by decide +kernel
theorem dL_isNoted_243 : decode cL_isNoted 243 = .ok (.iconst 1, 1) := by decide +kernel
theorem dL_isNoted_244 : decode cL_isNoted 244 = .ok (.goto 4, 3) := by decide +kernel
theorem dL_isNoted_247 : decode cL_isNoted 247 = .ok (.iconst 0, 1) := by decide +kernel
theorem dL_isNoted_248 : decode cL_isNoted 248 = .ok (.ireturn, 1) := by decide +kernel
theorem dL_isNoted_249 : decode cL_isNoted 249 = .ok (.iload 6, 2) := by decide +kernel
theorem dL_isNoted_251 : decode cL_isNoted 251 = .ok (.bipush 8, 2) := by decide +kernel
theorem dL_isNoted_253 : decode cL_isNoted 253 = .ok (.if_icmp .ne 59, 3) := by decide +kernel
theorem dL_isNoted_256 : decode cL_isNoted 256 = .ok (.aload_n 3, 1) := by decide +kernel
theorem dL_isNoted_257 : decode cL_isNoted 257 = .ok (.iload 10, 2) := by decide +kernel
theorem dL_isNoted_259 : decode cL_isNoted 259 = .ok (.iaload, 1) := by decide +kernel
theorem dL_isNoted_260 : decode cL_isNoted 260 = .ok (.bipush 60, 2) := by decide +kernel
theorem dL_isNoted_262 : decode cL_isNoted 262 = .ok (.if_icmp .ge 50, 3) := by decide +kernel
theorem dL_isNoted_265 : decode cL_isNoted 265 = .ok (.aload_n 2, 1) := by decide +kernel
theorem dL_isNoted_266 : decode cL_isNoted 266 = .ok (.iload 10, 2) := by decide +kernel
theorem dL_isNoted_268 : decode cL_isNoted 268 = .ok (.iaload, 1) := by decide +kernel
theorem dL_isNoted_269 : decode cL_isNoted 269 = .ok (.istore 12, 2) := by decide +kernel
theorem dL_isNoted_271 : decode cL_isNoted 271 = .ok (.aload_n 3, 1) := by decide +kernel
theorem dL_isNoted_272 : decode cL_isNoted 272 = .ok (.iload 10, 2) := by decide +kernel
theorem dL_isNoted_274 : decode cL_isNoted 274 = .ok (.dup2, 1) := by decide +kernel
theorem dL_isNoted_275 : decode cL_isNoted 275 = .ok (.iaload, 1) := by decide +kernel
theorem dL_isNoted_276 : decode cL_isNoted 276 = .ok (.iload 12, 2) := by decide +kernel
theorem dL_isNoted_278 : decode cL_isNoted 278 = .ok (.ifCond .le 7, 3) := by decide +kernel
theorem dL_isNoted_281 : decode cL_isNoted 281 = .ok (.iconst 1, 1) := by decide +kernel
theorem dL_isNoted_282 : decode cL_isNoted 282 = .ok (.goto 4, 3) := by decide +kernel
theorem dL_isNoted_285 : decode cL_isNoted 285 = .ok (.iconst 0, 1) := by decide +kernel
theorem dL_isNoted_286 : decode cL_isNoted 286 = .ok (.iadd, 1) := by decide +kernel
theorem dL_isNoted_287 : decode cL_isNoted 287 = .ok (.iastore, 1) := by decide +kernel
theorem dL_isNoted_288 : decode cL_isNoted 288 = .ok (.aload_n 2, 1) := by decide +kernel
theorem dL_isNoted_289 : decode cL_isNoted 289 = .ok (.iload 10, 2) := by decide +kernel
theorem dL_isNoted_291 : decode cL_isNoted 291 = .ok (.iconst 0, 1) := by decide +kernel
theorem dL_isNoted_292 : decode cL_isNoted 292 = .ok (.iastore, 1) := by decide +kernel
theorem dL_isNoted_293 : decode cL_isNoted 293 = .ok (.aload_n 0, 1) := by decide +kernel
theorem dL_isNoted_294 : decode cL_isNoted 294 = .ok (.iload 8, 2) := by decide +kernel
theorem dL_isNoted_296 : decode cL_isNoted 296 = .ok (.iload 9, 2) := by decide +kernel
theorem dL_isNoted_298 : decode cL_isNoted 298 = .ok (.invokevirtual 180, 3) := by decide +kernel
theorem dL_isNoted_301 : decode cL_isNoted 301 = .ok (.iload 12, 2) := by decide +kernel
theorem dL_isNoted_303 : decode cL_isNoted 303 = .ok (.if_icmp .ne 7, 3) := by decide +kernel
theorem dL_isNoted_306 : decode cL_isNoted 306 = .ok (.iconst 1, 1) := by decide +kernel
theorem dL_isNoted_307 : decode cL_isNoted 307 = .ok (.goto 4, 3) := by decide +kernel
theorem dL_isNoted_310 : decode cL_isNoted 310 = .ok (.iconst 0, 1) := by decide +kernel
theorem dL_isNoted_311 : decode cL_isNoted 311 = .ok (.ireturn, 1) := by decide +kernel
theorem dL_isNoted_312 : decode cL_isNoted 312 = .ok (.aload_n 2, 1) := by decide +kernel
theorem dL_isNoted_313 : decode cL_isNoted 313 = .ok (.iload 10, 2) := by decide +kernel
theorem dL_isNoted_315 : decode cL_isNoted 315 = .ok (.iaload, 1) := by decide +kernel
theorem dL_isNoted_316 : decode cL_isNoted 316 = .ok (.ifCond .eq 12, 3) := by decide +kernel
theorem dL_isNoted_319 : decode cL_isNoted 319 = .ok (.aload_n 3, 1) := by decide +kernel
theorem dL_isNoted_320 : decode cL_isNoted 320 = .ok (.iload 10, 2) := by decide +kernel
theorem dL_isNoted_322 : decode cL_isNoted 322 = .ok (.iaload, 1) := by decide +kernel
theorem dL_isNoted_323 : decode cL_isNoted 323 = .ok (.bipush 60, 2) := by decide +kernel
theorem dL_isNoted_325 : decode cL_isNoted 325 = .ok (.if_icmp .lt 24, 3) := by decide +kernel
theorem dL_isNoted_328 : decode cL_isNoted 328 = .ok (.aload_n 0, 1) := by decide +kernel
theorem dL_isNoted_329 : decode cL_isNoted 329 = .ok (.iload 8, 2) := by decide +kernel
theorem dL_isNoted_331 : decode cL_isNoted 331 = .ok (.iload 9, 2) := by decide +kernel
theorem dL_isNoted_333 : decode cL_isNoted 333 = .ok (.invokevirtual 183, 3) := by decide +kernel
theorem dL_isNoted_336 : decode cL_isNoted 336 = .ok (.aload_n 2, 1) := by decide +kernel
theorem dL_isNoted_337 : decode cL_isNoted 337 = .ok (.iload 10, 2) := by decide +kernel
theorem dL_isNoted_339 : decode cL_isNoted 339 = .ok (.iaload, 1) := by decide +kernel
theorem dL_isNoted_340 : decode cL_isNoted 340 = .ok (.if_icmp .ne 7, 3) := by decide +kernel
theorem dL_isNoted_343 : decode cL_isNoted 343 = .ok (.iconst 1, 1) := by decide +kernel
theorem dL_isNoted_344 : decode cL_isNoted 344 = .ok (.goto 4, 3) := by decide +kernel
theorem dL_isNoted_347 : decode cL_isNoted 347 = .ok (.iconst 0, 1) := by decide +kernel
theorem dL_isNoted_348 : decode cL_isNoted 348 = .ok (.ireturn, 1) := by decide +kernel
theorem dL_isNoted_349 : decode cL_isNoted 349 = .ok (.iload 7, 2) := by decide +kernel
theorem dL_isNoted_351 : decode cL_isNoted 351 = .ok (.sipush 210, 3) := by decide +kernel
theorem dL_isNoted_354 : decode cL_isNoted 354 = .ok (.idiv, 1) := by decide +kernel
theorem dL_isNoted_355 : decode cL_isNoted 355 = .ok (.aload_n 2, 1) := by decide +kernel
theorem dL_isNoted_356 : decode cL_isNoted 356 = .ok (.iload 10, 2) := by decide +kernel
theorem dL_isNoted_358 : decode cL_isNoted 358 = .ok (.iaload, 1) := by decide +kernel
theorem dL_isNoted_359 : decode cL_isNoted 359 = .ok (.irem, 1) := by decide +kernel
theorem dL_isNoted_360 : decode cL_isNoted 360 = .ok (.istore 12, 2) := by decide +kernel
theorem dL_isNoted_362 : decode cL_isNoted 362 = .ok (.aload_n 1, 1) := by decide +kernel
theorem dL_isNoted_363 : decode cL_isNoted 363 = .ok (.iload 10, 2) := by decide +kernel
theorem dL_isNoted_365 : decode cL_isNoted 365 = .ok (.iload 12, 2) := by decide +kernel
theorem dL_isNoted_367 : decode cL_isNoted 367 = .ok (.invokestatic 13, 3) := by decide +kernel
theorem dL_isNoted_370 : decode cL_isNoted 370 = .ok (.istore 13, 2) := by decide +kernel
theorem dL_isNoted_372 : decode cL_isNoted 372 = .ok (.aload_n 1, 1) := by decide +kernel
theorem dL_isNoted_373 : decode cL_isNoted 373 = .ok (.iload 10, 2) := by decide +kernel
theorem dL_isNoted_375 : decode cL_isNoted 375 = .ok (.aload_n 1, 1) := by decide +kernel
theorem dL_isNoted_376 : decode cL_isNoted 376 = .ok (.iload 10, 2) := by decide +kernel
theorem dL_isNoted_378 : decode cL_isNoted 378 = .ok (.laload, 1) := by decide +kernel
theorem dL_isNoted_379 : decode cL_isNoted 379 = .ok (.ldc2_w 11, 3) := by decide +kernel
theorem dL_isNoted_382 : decode cL_isNoted 382 = .ok (.bipush 8, 2) := by decide +kernel
theorem dL_isNoted_384 : decode cL_isNoted 384 = .ok (.iload 12, 2) := by decide +kernel
theorem dL_isNoted_386 : decode cL_isNoted 386 = .ok (.imul, 1) := by decide +kernel
theorem dL_isNoted_387 : decode cL_isNoted 387 = .ok (.iconst 5, 1) := by decide +kernel
theorem dL_isNoted_388 : decode cL_isNoted 388 = .ok (.iadd, 1) := by decide +kernel
theorem dL_isNoted_389 : decode cL_isNoted 389 = .ok (.lshl, 1) := by decide +kernel
theorem dL_isNoted_390 : decode cL_isNoted 390 = .ok (.ldc2_w 174, 3) := by decide +kernel
theorem dL_isNoted_393 : decode cL_isNoted 393 = .ok (.lxor, 1) := by decide +kernel
theorem dL_isNoted_394 : decode cL_isNoted 394 = .ok (.land, 1) := by decide +kernel
theorem dL_isNoted_395 : decode cL_isNoted 395 = .ok (.iload 11, 2) := by decide +kernel
theorem dL_isNoted_397 : decode cL_isNoted 397 = .ok (.i2l, 1) := by decide +kernel
theorem dL_isNoted_398 : decode cL_isNoted 398 = .ok (.bipush 8, 2) := by decide +kernel
theorem dL_isNoted_400 : decode cL_isNoted 400 = .ok (.iload 12, 2) := by decide +kernel
theorem dL_isNoted_402 : decode cL_isNoted 402 = .ok (.imul, 1) := by decide +kernel
theorem dL_isNoted_403 : decode cL_isNoted 403 = .ok (.iconst 5, 1) := by decide +kernel
theorem dL_isNoted_404 : decode cL_isNoted 404 = .ok (.iadd, 1) := by decide +kernel
theorem dL_isNoted_405 : decode cL_isNoted 405 = .ok (.lshl, 1) := by decide +kernel
theorem dL_isNoted_406 : decode cL_isNoted 406 = .ok (.lor, 1) := by decide +kernel
theorem dL_isNoted_407 : decode cL_isNoted 407 = .ok (.lastore, 1) := by decide +kernel
theorem dL_isNoted_408 : decode cL_isNoted 408 = .ok (.aload_n 3, 1) := by decide +kernel
theorem dL_isNoted_409 : decode cL_isNoted 409 = .ok (.iload 10, 2) := by decide +kernel
theorem dL_isNoted_411 : decode cL_isNoted 411 = .ok (.dup2, 1) := by decide +kernel
theorem dL_isNoted_412 : decode cL_isNoted 412 = .ok (.iaload, 1) := by decide +kernel
theorem dL_isNoted_413 : decode cL_isNoted 413 = .ok (.iload 13, 2) := by decide +kernel
theorem dL_isNoted_415 : decode cL_isNoted 415 = .ok (.iload 11, 2) := by decide +kernel
theorem dL_isNoted_417 : decode cL_isNoted 417 = .ok (.if_icmp .ne 7, 3) := by decide +kernel
theorem dL_isNoted_420 : decode cL_isNoted 420 = .ok (.iconst 0, 1) := by decide +kernel
theorem dL_isNoted_421 : decode cL_isNoted 421 = .ok (.goto 4, 3) := by decide +kernel
theorem dL_isNoted_424 : decode cL_isNoted 424 = .ok (.iconst 1, 1) := by decide +kernel
theorem dL_isNoted_425 : decode cL_isNoted 425 = .ok (.iadd, 1) := by decide +kernel
theorem dL_isNoted_426 : decode cL_isNoted 426 = .ok (.iastore, 1) := by decide +kernel
theorem dL_isNoted_427 : decode cL_isNoted 427 = .ok (.aload_n 0, 1) := by decide +kernel
theorem dL_isNoted_428 : decode cL_isNoted 428 = .ok (.iload 8, 2) := by decide +kernel
theorem dL_isNoted_430 : decode cL_isNoted 430 = .ok (.iload 9, 2) := by decide +kernel
theorem dL_isNoted_432 : decode cL_isNoted 432 = .ok (.iload 12, 2) := by decide +kernel
theorem dL_isNoted_434 : decode cL_isNoted 434 = .ok (.iload 11, 2) := by decide +kernel
theorem dL_isNoted_436 : decode cL_isNoted 436 = .ok (.invokevirtual 186, 3) := by decide +kernel
theorem dL_isNoted_439 : decode cL_isNoted 439 = .ok (.iload 13, 2) := by decide +kernel
theorem dL_isNoted_441 : decode cL_isNoted 441 = .ok (.if_icmp .ne 49, 3) := by decide +kernel
theorem dL_isNoted_444 : decode cL_isNoted 444 = .ok (.aload_n 0, 1) := by decide +kernel
theorem dL_isNoted_445 : decode cL_isNoted 445 = .ok (.iload 8, 2) := by decide +kernel
theorem dL_isNoted_447 : decode cL_isNoted 447 = .ok (.iload 9, 2) := by decide +kernel
theorem dL_isNoted_449 : decode cL_isNoted 449 = .ok (.iload 12, 2) := by decide +kernel
theorem dL_isNoted_451 : decode cL_isNoted 451 = .ok (.invokevirtual 189, 3) := by decide +kernel
theorem dL_isNoted_454 : decode cL_isNoted 454 = .ok (.bipush 100, 2) := by decide +kernel
theorem dL_isNoted_456 : decode cL_isNoted 456 = .ok (.aload_n 1, 1) := by decide +kernel
theorem dL_isNoted_457 : decode cL_isNoted 457 = .ok (.iload 10, 2) := by decide +kernel
theorem dL_isNoted_459 : decode cL_isNoted 459 = .ok (.iload 12, 2) := by decide +kernel
theorem dL_isNoted_461 : decode cL_isNoted 461 = .ok (.invokestatic 19, 3) := by decide +kernel
theorem dL_isNoted_464 : decode cL_isNoted 464 = .ok (.imul, 1) := by decide +kernel
theorem dL_isNoted_465 : decode cL_isNoted 465 = .ok (.iload 11, 2) := by decide +kernel
theorem dL_isNoted_467 : decode cL_isNoted 467 = .ok (.iadd, 1) := by decide +kernel
theorem dL_isNoted_468 : decode cL_isNoted 468 = .ok (.if_icmp .ne 22, 3) := by decide +kernel
theorem dL_isNoted_471 : decode cL_isNoted 471 = .ok (.aload_n 0, 1) := by decide +kernel
theorem dL_isNoted_472 : decode cL_isNoted 472 = .ok (.iload 8, 2) := by decide +kernel
theorem dL_isNoted_474 : decode cL_isNoted 474 = .ok (.iload 9, 2) := by decide +kernel
theorem dL_isNoted_476 : decode cL_isNoted 476 = .ok (.invokevirtual 192, 3) := by decide +kernel
theorem dL_isNoted_479 : decode cL_isNoted 479 = .ok (.aload_n 3, 1) := by decide +kernel
theorem dL_isNoted_480 : decode cL_isNoted 480 = .ok (.iload 10, 2) := by decide +kernel
theorem dL_isNoted_482 : decode cL_isNoted 482 = .ok (.iaload, 1) := by decide +kernel
theorem dL_isNoted_483 : decode cL_isNoted 483 = .ok (.if_icmp .ne 7, 3) := by decide +kernel
theorem dL_isNoted_486 : decode cL_isNoted 486 = .ok (.iconst 1, 1) := by decide +kernel
theorem dL_isNoted_487 : decode cL_isNoted 487 = .ok (.goto 4, 3) := by decide +kernel
theorem dL_isNoted_490 : decode cL_isNoted 490 = .ok (.iconst 0, 1) := by decide +kernel
theorem dL_isNoted_491 : decode cL_isNoted 491 = .ok (.ireturn, 1) := by decide +kernel
theorem dL_isCopied_0 : decode cL_isCopied 0 = .ok (.iload 7, 2) := by decide +kernel
theorem dL_isCopied_2 : decode cL_isCopied 2 = .ok (.ifCond .ne 12, 3) := by decide +kernel
theorem dL_isCopied_5 : decode cL_isCopied 5 = .ok (.aload 6, 2) := by decide +kernel
theorem dL_isCopied_7 : decode cL_isCopied 7 = .ok (.iconst 3, 1) := by decide +kernel
theorem dL_isCopied_8 : decode cL_isCopied 8 = .ok (.iaload, 1) := by decide +kernel
theorem dL_isCopied_9 : decode cL_isCopied 9 = .ok (.bipush 6, 2) := by decide +kernel
theorem dL_isCopied_11 : decode cL_isCopied 11 = .ok (.if_icmp .lt 10, 3) := by decide +kernel
theorem dL_isCopied_14 : decode cL_isCopied 14 = .ok (.aload 6, 2) := by decide +kernel
theorem dL_isCopied_16 : decode cL_isCopied 16 = .ok (.iconst 3, 1) := by decide +kernel
theorem dL_isCopied_17 : decode cL_isCopied 17 = .ok (.iaload, 1) := by decide +kernel
theorem dL_isCopied_18 : decode cL_isCopied 18 = .ok (.ifCond .ne 59, 3) := by decide +kernel
theorem dL_isCopied_21 : decode cL_isCopied 21 = .ok (.aload_n 3, 1) := by decide +kernel
theorem dL_isCopied_22 : decode cL_isCopied 22 = .ok (.bipush 8, 2) := by decide +kernel
theorem dL_isCopied_24 : decode cL_isCopied 24 = .ok (.aload 6, 2) := by decide +kernel
theorem dL_isCopied_26 : decode cL_isCopied 26 = .ok (.iconst 3, 1) := by decide +kernel
theorem dL_isCopied_27 : decode cL_isCopied 27 = .ok (.iaload, 1) := by decide +kernel
theorem dL_isCopied_28 : decode cL_isCopied 28 = .ok (.imul, 1) := by decide +kernel
theorem dL_isCopied_29 : decode cL_isCopied 29 = .ok (.iload 8, 2) := by decide +kernel
theorem dL_isCopied_31 : decode cL_isCopied 31 = .ok (.iconst 3, 1) := by decide +kernel
theorem dL_isCopied_32 : decode cL_isCopied 32 = .ok (.irem, 1) := by decide +kernel
theorem dL_isCopied_33 : decode cL_isCopied 33 = .ok (.iastore, 1) := by decide +kernel
theorem dL_isCopied_34 : decode cL_isCopied 34 = .ok (.aload_n 3, 1) := by decide +kernel
theorem dL_isCopied_35 : decode cL_isCopied 35 = .ok (.bipush 8, 2) := by decide +kernel
theorem dL_isCopied_37 : decode cL_isCopied 37 = .ok (.aload 6, 2) := by decide +kernel
theorem dL_isCopied_39 : decode cL_isCopied 39 = .ok (.iconst 3, 1) := by decide +kernel
theorem dL_isCopied_40 : decode cL_isCopied 40 = .ok (.iaload, 1) := by decide +kernel
theorem dL_isCopied_41 : decode cL_isCopied 41 = .ok (.imul, 1) := by decide +kernel
theorem dL_isCopied_42 : decode cL_isCopied 42 = .ok (.iconst 1, 1) := by decide +kernel
theorem dL_isCopied_43 : decode cL_isCopied 43 = .ok (.iadd, 1) := by decide +kernel
theorem dL_isCopied_44 : decode cL_isCopied 44 = .ok (.iconst (-1), 1) := by decide +kernel
theorem dL_isCopied_45 : decode cL_isCopied 45 = .ok (.iastore, 1) := by decide +kernel
theorem dL_isCopied_46 : decode cL_isCopied 46 = .ok (.aload 6, 2) := by decide +kernel
theorem dL_isCopied_48 : decode cL_isCopied 48 = .ok (.iconst 3, 1) := by decide +kernel
theorem dL_isCopied_49 : decode cL_isCopied 49 = .ok (.dup2, 1) := by decide +kernel
theorem dL_isCopied_50 : decode cL_isCopied 50 = .ok (.iaload, 1) := by decide +kernel
theorem dL_isCopied_51 : decode cL_isCopied 51 = .ok (.iconst 1, 1) := by decide +kernel
theorem dL_isCopied_52 : decode cL_isCopied 52 = .ok (.iadd, 1) := by decide +kernel
theorem dL_isCopied_53 : decode cL_isCopied 53 = .ok (.iastore, 1) := by decide +kernel
theorem dL_isCopied_54 : decode cL_isCopied 54 = .ok (.aload_n 0, 1) := by decide +kernel
theorem dL_isCopied_55 : decode cL_isCopied 55 = .ok (.iload 8, 2) := by decide +kernel
theorem dL_isCopied_57 : decode cL_isCopied 57 = .ok (.iconst 3, 1) := by decide +kernel
theorem dL_isCopied_58 : decode cL_isCopied 58 = .ok (.irem, 1) := by decide +kernel
theorem dL_isCopied_59 : decode cL_isCopied 59 = .ok (.invokevirtual 195, 3) := by decide +kernel
theorem dL_isCopied_62 : decode cL_isCopied 62 = .ok (.aload 6, 2) := by decide +kernel
theorem dL_isCopied_64 : decode cL_isCopied 64 = .ok (.iconst 3, 1) := by decide +kernel
theorem dL_isCopied_65 : decode cL_isCopied 65 = .ok (.iaload, 1) := by decide +kernel
theorem dL_isCopied_66 : decode cL_isCopied 66 = .ok (.iconst 1, 1) := by decide +kernel
theorem dL_isCopied_67 : decode cL_isCopied 67 = .ok (.isub, 1) := by decide +kernel
theorem dL_isCopied_68 : decode cL_isCopied 68 = .ok (.if_icmp .ne 7, 3) := by decide +kernel
theorem dL_isCopied_71 : decode cL_isCopied 71 = .ok (.iconst 1, 1) := by decide +kernel
theorem dL_isCopied_72 : decode cL_isCopied 72 = .ok (.goto 4, 3) := by decide +kernel
theorem dL_isCopied_75 : decode cL_isCopied 75 = .ok (.iconst 0, 1) := by decide +kernel
theorem dL_isCopied_76 : decode cL_isCopied 76 = .ok (.ireturn, 1) := by decide +kernel
theorem dL_isCopied_77 : decode cL_isCopied 77 = .ok (.iload 8, 2) := by decide +kernel
theorem dL_isCopied_79 : decode cL_isCopied 79 = .ok (.aload 6, 2) := by decide +kernel
theorem dL_isCopied_81 : decode cL_isCopied 81 = .ok (.iconst 3, 1) := by decide +kernel
theorem dL_isCopied_82 : decode cL_isCopied 82 = .ok (.iaload, 1) := by decide +kernel
theorem dL_isCopied_83 : decode cL_isCopied 83 = .ok (.irem, 1) := by decide +kernel
theorem dL_isCopied_84 : decode cL_isCopied 84 = .ok (.istore 9, 2) := by decide +kernel
theorem dL_isCopied_86 : decode cL_isCopied 86 = .ok (.bipush 8, 2) := by decide +kernel
theorem dL_isCopied_88 : decode cL_isCopied 88 = .ok (.iload 9, 2) := by decide +kernel
theorem dL_isCopied_90 : decode cL_isCopied 90 = .ok (.imul, 1) := by decide +kernel
theorem dL_isCopied_91 : decode cL_isCopied 91 = .ok (.istore 10, 2) := by decide +kernel
theorem dL_isCopied_93 : decode cL_isCopied 93 = .ok (.bipush 6, 2) := by decide +kernel
theorem dL_isCopied_95 : decode cL_isCopied 95 = .ok (.aload_n 3, 1) := by decide +kernel
theorem dL_isCopied_96 : decode cL_isCopied 96 = .ok (.iload 10, 2) := by decide +kernel
theorem dL_isCopied_98 : decode cL_isCopied 98 = .ok (.iaload, 1) := by decide +kernel
theorem dL_isCopied_99 : decode cL_isCopied 99 = .ok (.imul, 1) := by decide +kernel
theorem dL_isCopied_100 : decode cL_isCopied 100 = .ok (.istore 11, 2) := by decide +kernel
theorem dL_isCopied_102 : decode cL_isCopied 102 = .ok (.aload_n 3, 1) := by decide +kernel
theorem dL_isCopied_103 : decode cL_isCopied 103 = .ok (.iload 10, 2) := by decide +kernel
theorem dL_isCopied_105 : decode cL_isCopied 105 = .ok (.iconst 1, 1) := by decide +kernel
theorem dL_isCopied_106 : decode cL_isCopied 106 = .ok (.iadd, 1) := by decide +kernel
theorem dL_isCopied_107 : decode cL_isCopied 107 = .ok (.iaload, 1) := by decide +kernel
theorem dL_isCopied_108 : decode cL_isCopied 108 = .ok (.ifCond .lt 7, 3) := by decide +kernel
theorem dL_isCopied_111 : decode cL_isCopied 111 = .ok (.iconst 1, 1) := by decide +kernel
theorem dL_isCopied_112 : decode cL_isCopied 112 = .ok (.goto 4, 3) := by decide +kernel
theorem dL_isCopied_115 : decode cL_isCopied 115 = .ok (.iconst 0, 1) := by decide +kernel
theorem dL_isCopied_116 : decode cL_isCopied 116 = .ok (.istore 12, 2) := by decide +kernel
theorem dL_isCopied_118 : decode cL_isCopied 118 = .ok (.iload 7, 2) := by decide +kernel
theorem dL_isCopied_120 : decode cL_isCopied 120 = .ok (.iconst 3, 1) := by decide +kernel
theorem dL_isCopied_121 : decode cL_isCopied 121 = .ok (.if_icmp .ge 209, 3) := by decide +kernel
theorem dL_isCopied_124 : decode cL_isCopied 124 = .ok (.iload 8, 2) := by decide +kernel
theorem dL_isCopied_126 : decode cL_isCopied 126 = .ok (.bipush 6, 2) := by decide +kernel
theorem dL_isCopied_128 : decode cL_isCopied 128 = .ok (.idiv, 1) := by decide +kernel
theorem dL_isCopied_129 : decode cL_isCopied 129 = .ok (.bipush 6, 2) := by decide +kernel
theorem dL_isCopied_131 : decode cL_isCopied 131 = .ok (.irem, 1) := by decide +kernel
theorem dL_isCopied_132 : decode cL_isCopied 132 = .ok (.istore 13, 2) := by decide +kernel
theorem dL_isCopied_134 : decode cL_isCopied 134 = .ok (.iconst 1, 1) := by decide +kernel
theorem dL_isCopied_135 : decode cL_isCopied 135 = .ok (.istore 14, 2) := by decide +kernel
theorem dL_isCopied_137 : decode cL_isCopied 137 = .ok (.iload 12, 2) := by decide +kernel
theorem dL_isCopied_139 : decode cL_isCopied 139 = .ok (.ifCond .ne 7, 3) := by decide +kernel
theorem dL_isCopied_142 : decode cL_isCopied 142 = .ok (.iconst 1, 1) := by decide +kernel
theorem dL_isCopied_143 : decode cL_isCopied 143 = .ok (.goto 4, 3) := by decide +kernel
theorem dL_isCopied_146 : decode cL_isCopied 146 = .ok (.iconst 0, 1) := by decide +kernel
theorem dL_isCopied_147 : decode cL_isCopied 147 = .ok (.istore 15, 2) := by decide +kernel
theorem dL_isCopied_149 : decode cL_isCopied 149 = .ok (.iconst 0, 1) := by decide +kernel
theorem dL_isCopied_150 : decode cL_isCopied 150 = .ok (.istore 16, 2) := by decide +kernel
theorem dL_isCopied_152 : decode cL_isCopied 152 = .ok (.iload 16, 2) := by decide +kernel
theorem dL_isCopied_154 : decode cL_isCopied 154 = .ok (.aload 6, 2) := by decide +kernel
theorem dL_isCopied_156 : decode cL_isCopied 156 = .ok (.iconst 3, 1) := by decide +kernel
theorem dL_isCopied_157 : decode cL_isCopied 157 = .ok (.iaload, 1) := by decide +kernel
theorem dL_isCopied_158 : decode cL_isCopied 158 = .ok (.if_icmp .ge 71, 3) := by decide +kernel
theorem dL_isCopied_161 : decode cL_isCopied 161 = .ok (.iload 15, 2) := by decide +kernel
theorem dL_isCopied_163 : decode cL_isCopied 163 = .ok (.ifCond .eq 35, 3) := by decide +kernel
theorem dL_isCopied_166 : decode cL_isCopied 166 = .ok (.aload_n 3, 1) := by decide +kernel
theorem dL_isCopied_167 : decode cL_isCopied 167 = .ok (.bipush 8, 2) := by decide +kernel
theorem dL_isCopied_169 : decode cL_isCopied 169 = .ok (.iload 16, 2) := by decide +kernel
theorem dL_isCopied_171 : decode cL_isCopied 171 = .ok (.imul, 1) := by decide +kernel
theorem dL_isCopied_172 : decode cL_isCopied 172 = .ok (.iconst 1, 1) := by decide +kernel
theorem dL_isCopied_173 : decode cL_isCopied 173 = .ok (.iadd, 1) := by decide +kernel
theorem dL_isCopied_174 : decode cL_isCopied 174 = .ok (.iaload, 1) := by decide +kernel
theorem dL_isCopied_175 : decode cL_isCopied 175 = .ok (.iload 13, 2) := by decide +kernel
theorem dL_isCopied_177 : decode cL_isCopied 177 = .ok (.if_icmp .ne 17, 3) := by decide +kernel
theorem dL_isCopied_180 : decode cL_isCopied 180 = .ok (.aload_n 3, 1) := by decide +kernel
theorem dL_isCopied_181 : decode cL_isCopied 181 = .ok (.bipush 8, 2) := by decide +kernel
theorem dL_isCopied_183 : decode cL_isCopied 183 = .ok (.iload 16, 2) := by decide +kernel
theorem dL_isCopied_185 : decode cL_isCopied 185 = .ok (.imul, 1) := by decide +kernel
theorem dL_isCopied_186 : decode cL_isCopied 186 = .ok (.iaload, 1) := by decide +kernel
theorem dL_isCopied_187 : decode cL_isCopied 187 = .ok (.aload_n 3, 1) := by decide +kernel
theorem dL_isCopied_188 : decode cL_isCopied 188 = .ok (.iload 10, 2) := by decide +kernel
theorem dL_isCopied_190 : decode cL_isCopied 190 = .ok (.iaload, 1) := by decide +kernel
theorem dL_isCopied_191 : decode cL_isCopied 191 = .ok (.if_icmp .eq 7, 3) := by decide +kernel
theorem dL_isCopied_194 : decode cL_isCopied 194 = .ok (.iconst 1, 1) := by decide +kernel
theorem dL_isCopied_195 : decode cL_isCopied 195 = .ok (.goto 4, 3) := by decide +kernel
theorem dL_isCopied_198 : decode cL_isCopied 198 = .ok (.iconst 0, 1) := by decide +kernel
theorem dL_isCopied_199 : decode cL_isCopied 199 = .ok (.istore 15, 2) := by decide +kernel
theorem dL_isCopied_201 : decode cL_isCopied 201 = .ok (.iload 14, 2) := by decide +kernel
theorem dL_isCopied_203 : decode cL_isCopied 203 = .ok (.aload_n 3, 1) := by decide +kernel
theorem dL_isCopied_204 : decode cL_isCopied 204 = .ok (.bipush 8, 2) := by decide +kernel
theorem dL_isCopied_206 : decode cL_isCopied 206 = .ok (.iload 16, 2) := by decide +kernel
theorem dL_isCopied_208 : decode cL_isCopied 208 = .ok (.imul, 1) := by decide +kernel
theorem dL_isCopied_209 : decode cL_isCopied 209 = .ok (.iconst 1, 1) := by decide +kernel
theorem dL_isCopied_210 : decode cL_isCopied 210 = .ok (.iadd, 1) := by decide +kernel
theorem dL_isCopied_211 : decode cL_isCopied 211 = .ok (.iaload, 1) := by decide +kernel
theorem dL_isCopied_212 : decode cL_isCopied 212 = .ok (.ifCond .lt 7, 3) := by decide +kernel
theorem dL_isCopied_215 : decode cL_isCopied 215 = .ok (.iconst 1, 1) := by decide +kernel
theorem dL_isCopied_216 : decode cL_isCopied 216 = .ok (.goto 4, 3) := by decide +kernel
theorem dL_isCopied_219 : decode cL_isCopied 219 = .ok (.iconst 0, 1) := by decide +kernel
theorem dL_isCopied_220 : decode cL_isCopied 220 = .ok (.iadd, 1) := by decide +kernel
theorem dL_isCopied_221 : decode cL_isCopied 221 = .ok (.istore 14, 2) := by decide +kernel
theorem dL_isCopied_223 : decode cL_isCopied 223 = .ok (.iinc 16 1, 3) := by decide +kernel
theorem dL_isCopied_226 : decode cL_isCopied 226 = .ok (.goto (-74), 3) := by decide +kernel
theorem dL_isCopied_229 : decode cL_isCopied 229 = .ok (.iconst 0, 1) := by decide +kernel
theorem dL_isCopied_230 : decode cL_isCopied 230 = .ok (.istore 16, 2) := by decide +kernel
theorem dL_isCopied_232 : decode cL_isCopied 232 = .ok (.iload 16, 2) := by decide +kernel
theorem dL_isCopied_234 : decode cL_isCopied 234 = .ok (.bipush 6, 2) := by decide +kernel
theorem dL_isCopied_236 : decode cL_isCopied 236 = .ok (.if_icmp .ge 43, 3) := by decide +kernel
theorem dL_isCopied_239 : decode cL_isCopied 239 = .ok (.iload 15, 2) := by decide +kernel
theorem dL_isCopied_241 : decode cL_isCopied 241 = .ok (.ifCond .eq 38, 3) := by decide +kernel
theorem dL_isCopied_244 : decode cL_isCopied 244 = .ok (.aload_n 3, 1) := by decide +kernel
