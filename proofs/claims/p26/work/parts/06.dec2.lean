set_option maxRecDepth 20000 in
theorem ggL_same_X4_count : GoodIn wsL_same wsX4_count := goodIn_r _ [191, 22, 23, 192, 193, 30, 31, 32, 33, 34, 35, 36, 37, 38, 39, 40, 41, 42, 28, 20, 29, 43, 44, 45, 46, 47, 48, 49, 50, 51, 52, 53, 54, 55, 56, 57, 58, 59, 60, 61, 62, 63, 64, 65, 66, 67, 68, 69, 70, 71, 72, 73, 74, 75, 76, 77, 78, 79, 80, 81, 82, 83, 84, 85, 86, 87, 27, 25, 26, 88, 89, 90, 91, 92, 93, 94, 95, 96, 97, 98, 99, 100, 101, 102, 103, 104, 105, 187, 194, 195, 196, 197, 198, 199, 200, 201, 202, 203, 204, 205, 206, 207, 208, 209, 121, 122, 123, 124, 117, 118, 119, 210, 211, 212, 213, 214, 215, 216, 217, 218, 219, 220, 221, 222, 223, 224, 170, 171, 172, 173, 174, 153, 154, 155, 156, 108, 109, 110, 225, 226, 227, 228, 148, 149, 150, 151, 134, 135, 133, 152, 229, 230, 231, 232, 147, 233, 234, 235, 236, 237, 238, 239, 240, 241, 242, 243, 244, 245, 246, 247, 248, 249, 250, 251, 252, 253, 254, 255, 256, 257, 258, 259, 260, 261, 262, 263, 264, 265, 266, 267, 268, 269, 270, 271, 272, 273] (by decide +kernel) (by decide +kernel)
set_option maxRecDepth 20000 in
theorem gL_same_X4_count : GoodIn wsL_same (wsV RL 51 RX4 yX4_count wsX4_count) := goodIn_app (goodIn_of _ (by decide +kernel)) ggL_same_X4_count
theorem dL_same_0 : decode cL_same 0 = .ok (.aload_n 2, 1) := by decide +kernel
theorem dL_same_1 : decode cL_same 1 = .ok (.aload_n 3, 1) := by decide +kernel
theorem dL_same_2 : decode cL_same 2 = .ok (.aload 4, 2) := by decide +kernel
theorem dL_same_4 : decode cL_same 4 = .ok (.invokestatic 24, 3) := by decide +kernel
theorem dL_same_7 : decode cL_same 7 = .ok (.istore 5, 2) := by decide +kernel
theorem dL_same_9 : decode cL_same 9 = .ok (.iconst 0, 1) := by decide +kernel
theorem dL_same_10 : decode cL_same 10 = .ok (.istore 6, 2) := by decide +kernel
theorem dL_same_12 : decode cL_same 12 = .ok (.bipush (-6), 2) := by decide +kernel
theorem dL_same_14 : decode cL_same 14 = .ok (.istore 7, 2) := by decide +kernel
theorem dL_same_16 : decode cL_same 16 = .ok (.iconst 0, 1) := by decide +kernel
theorem dL_same_17 : decode cL_same 17 = .ok (.istore 8, 2) := by decide +kernel
theorem dL_same_19 : decode cL_same 19 = .ok (.iconst 0, 1) := by decide +kernel
theorem dL_same_20 : decode cL_same 20 = .ok (.istore 9, 2) := by decide +kernel
theorem dL_same_22 : decode cL_same 22 = .ok (.bipush (-6), 2) := by decide +kernel
theorem dL_same_24 : decode cL_same 24 = .ok (.istore 10, 2) := by decide +kernel
theorem dL_same_26 : decode cL_same 26 = .ok (.iconst 0, 1) := by decide +kernel
theorem dL_same_27 : decode cL_same 27 = .ok (.istore 11, 2) := by decide +kernel
theorem dL_same_29 : decode cL_same 29 = .ok (.iload 11, 2) := by decide +kernel
theorem dL_same_31 : decode cL_same 31 = .ok (.bipush 64, 2) := by decide +kernel
theorem dL_same_33 : decode cL_same 33 = .ok (.if_icmp .ge 279, 3) := by decide +kernel
theorem dL_same_36 : decode cL_same 36 = .ok (.iconst 0, 1) := by decide +kernel
theorem dL_same_37 : decode cL_same 37 = .ok (.istore 12, 2) := by decide +kernel
theorem dL_same_39 : decode cL_same 39 = .ok (.iload 11, 2) := by decide +kernel
theorem dL_same_41 : decode cL_same 41 = .ok (.aload_n 2, 1) := by decide +kernel
theorem dL_same_42 : decode cL_same 42 = .ok (.aload 4, 2) := by decide +kernel
theorem dL_same_44 : decode cL_same 44 = .ok (.invokestatic 28, 3) := by decide +kernel
theorem dL_same_47 : decode cL_same 47 = .ok (.istore 13, 2) := by decide +kernel
theorem dL_same_49 : decode cL_same 49 = .ok (.iload 13, 2) := by decide +kernel
theorem dL_same_51 : decode cL_same 51 = .ok (.iload 11, 2) := by decide +kernel
theorem dL_same_53 : decode cL_same 53 = .ok (.ifCond .ne 7, 3) := by decide +kernel
theorem dL_same_56 : decode cL_same 56 = .ok (.iconst 0, 1) := by decide +kernel
theorem dL_same_57 : decode cL_same 57 = .ok (.goto 13, 3) := by decide +kernel
theorem dL_same_60 : decode cL_same 60 = .ok (.iload 11, 2) := by decide +kernel
theorem dL_same_62 : decode cL_same 62 = .ok (.iconst 1, 1) := by decide +kernel
theorem dL_same_63 : decode cL_same 63 = .ok (.isub, 1) := by decide +kernel
theorem dL_same_64 : decode cL_same 64 = .ok (.aload_n 2, 1) := by decide +kernel
theorem dL_same_65 : decode cL_same 65 = .ok (.aload 4, 2) := by decide +kernel
theorem dL_same_67 : decode cL_same 67 = .ok (.invokestatic 28, 3) := by decide +kernel
theorem dL_same_70 : decode cL_same 70 = .ok (.iconst (-1), 1) := by decide +kernel
theorem dL_same_71 : decode cL_same 71 = .ok (.ixor, 1) := by decide +kernel
theorem dL_same_72 : decode cL_same 72 = .ok (.iand, 1) := by decide +kernel
theorem dL_same_73 : decode cL_same 73 = .ok (.istore 14, 2) := by decide +kernel
theorem dL_same_75 : decode cL_same 75 = .ok (.iconst 0, 1) := by decide +kernel
theorem dL_same_76 : decode cL_same 76 = .ok (.istore 15, 2) := by decide +kernel
theorem dL_same_78 : decode cL_same 78 = .ok (.iload 15, 2) := by decide +kernel
theorem dL_same_80 : decode cL_same 80 = .ok (.aload_n 2, 1) := by decide +kernel
theorem dL_same_81 : decode cL_same 81 = .ok (.iconst 4, 1) := by decide +kernel
theorem dL_same_82 : decode cL_same 82 = .ok (.iaload, 1) := by decide +kernel
theorem dL_same_83 : decode cL_same 83 = .ok (.if_icmp .ge 56, 3) := by decide +kernel
theorem dL_same_86 : decode cL_same 86 = .ok (.iload 12, 2) := by decide +kernel
theorem dL_same_88 : decode cL_same 88 = .ok (.aload_n 3, 1) := by decide +kernel
theorem dL_same_89 : decode cL_same 89 = .ok (.iconst 5, 1) := by decide +kernel
theorem dL_same_90 : decode cL_same 90 = .ok (.iload 15, 2) := by decide +kernel
theorem dL_same_92 : decode cL_same 92 = .ok (.imul, 1) := by decide +kernel
theorem dL_same_93 : decode cL_same 93 = .ok (.iaload, 1) := by decide +kernel
theorem dL_same_94 : decode cL_same 94 = .ok (.bipush 100, 2) := by decide +kernel
theorem dL_same_96 : decode cL_same 96 = .ok (.idiv, 1) := by decide +kernel
theorem dL_same_97 : decode cL_same 97 = .ok (.iload 11, 2) := by decide +kernel
theorem dL_same_99 : decode cL_same 99 = .ok (.if_icmp .gt 30, 3) := by decide +kernel
theorem dL_same_102 : decode cL_same 102 = .ok (.iload 11, 2) := by decide +kernel
theorem dL_same_104 : decode cL_same 104 = .ok (.aload_n 3, 1) := by decide +kernel
theorem dL_same_105 : decode cL_same 105 = .ok (.iconst 5, 1) := by decide +kernel
theorem dL_same_106 : decode cL_same 106 = .ok (.iload 15, 2) := by decide +kernel
theorem dL_same_108 : decode cL_same 108 = .ok (.imul, 1) := by decide +kernel
theorem dL_same_109 : decode cL_same 109 = .ok (.iconst 1, 1) := by decide +kernel
theorem dL_same_110 : decode cL_same 110 = .ok (.iadd, 1) := by decide +kernel
theorem dL_same_111 : decode cL_same 111 = .ok (.iaload, 1) := by decide +kernel
theorem dL_same_112 : decode cL_same 112 = .ok (.if_icmp .gt 17, 3) := by decide +kernel
theorem dL_same_115 : decode cL_same 115 = .ok (.iconst 1, 1) := by decide +kernel
theorem dL_same_116 : decode cL_same 116 = .ok (.aload_n 3, 1) := by decide +kernel
theorem dL_same_117 : decode cL_same 117 = .ok (.iconst 5, 1) := by decide +kernel
theorem dL_same_118 : decode cL_same 118 = .ok (.iload 15, 2) := by decide +kernel
theorem dL_same_120 : decode cL_same 120 = .ok (.imul, 1) := by decide +kernel
theorem dL_same_121 : decode cL_same 121 = .ok (.iaload, 1) := by decide +kernel
theorem dL_same_122 : decode cL_same 122 = .ok (.bipush 100, 2) := by decide +kernel
theorem dL_same_124 : decode cL_same 124 = .ok (.irem, 1) := by decide +kernel
theorem dL_same_125 : decode cL_same 125 = .ok (.ishl, 1) := by decide +kernel
theorem dL_same_126 : decode cL_same 126 = .ok (.goto 4, 3) := by decide +kernel
theorem dL_same_129 : decode cL_same 129 = .ok (.iconst 0, 1) := by decide +kernel
theorem dL_same_130 : decode cL_same 130 = .ok (.ior, 1) := by decide +kernel
theorem dL_same_131 : decode cL_same 131 = .ok (.istore 12, 2) := by decide +kernel
theorem dL_same_133 : decode cL_same 133 = .ok (.iinc 15 1, 3) := by decide +kernel
theorem dL_same_136 : decode cL_same 136 = .ok (.goto (-58), 3) := by decide +kernel
theorem dL_same_139 : decode cL_same 139 = .ok (.aload 4, 2) := by decide +kernel
theorem dL_same_141 : decode cL_same 141 = .ok (.iload 11, 2) := by decide +kernel
theorem dL_same_143 : decode cL_same 143 = .ok (.iaload, 1) := by decide +kernel
theorem dL_same_144 : decode cL_same 144 = .ok (.istore 15, 2) := by decide +kernel
theorem dL_same_146 : decode cL_same 146 = .ok (.iload 15, 2) := by decide +kernel
theorem dL_same_148 : decode cL_same 148 = .ok (.ifCond .eq 18, 3) := by decide +kernel
theorem dL_same_151 : decode cL_same 151 = .ok (.iinc 6 1, 3) := by decide +kernel
theorem dL_same_154 : decode cL_same 154 = .ok (.iload 15, 2) := by decide +kernel
theorem dL_same_156 : decode cL_same 156 = .ok (.iload 15, 2) := by decide +kernel
theorem dL_same_158 : decode cL_same 158 = .ok (.iconst 1, 1) := by decide +kernel
theorem dL_same_159 : decode cL_same 159 = .ok (.isub, 1) := by decide +kernel
theorem dL_same_160 : decode cL_same 160 = .ok (.iand, 1) := by decide +kernel
theorem dL_same_161 : decode cL_same 161 = .ok (.istore 15, 2) := by decide +kernel
theorem dL_same_163 : decode cL_same 163 = .ok (.goto (-17), 3) := by decide +kernel
theorem dL_same_166 : decode cL_same 166 = .ok (.iload 14, 2) := by decide +kernel
theorem dL_same_168 : decode cL_same 168 = .ok (.istore 15, 2) := by decide +kernel
theorem dL_same_170 : decode cL_same 170 = .ok (.iload 15, 2) := by decide +kernel
theorem dL_same_172 : decode cL_same 172 = .ok (.ifCond .eq 18, 3) := by decide +kernel
theorem dL_same_175 : decode cL_same 175 = .ok (.iinc 8 1, 3) := by decide +kernel
theorem dL_same_178 : decode cL_same 178 = .ok (.iload 15, 2) := by decide +kernel
theorem dL_same_180 : decode cL_same 180 = .ok (.iload 15, 2) := by decide +kernel
theorem dL_same_182 : decode cL_same 182 = .ok (.iconst 1, 1) := by decide +kernel
theorem dL_same_183 : decode cL_same 183 = .ok (.isub, 1) := by decide +kernel
theorem dL_same_184 : decode cL_same 184 = .ok (.iand, 1) := by decide +kernel
theorem dL_same_185 : decode cL_same 185 = .ok (.istore 15, 2) := by decide +kernel
theorem dL_same_187 : decode cL_same 187 = .ok (.goto (-17), 3) := by decide +kernel
theorem dL_same_190 : decode cL_same 190 = .ok (.iload 7, 2) := by decide +kernel
theorem dL_same_192 : decode cL_same 192 = .ok (.ifCond .ge 22, 3) := by decide +kernel
theorem dL_same_195 : decode cL_same 195 = .ok (.aload 4, 2) := by decide +kernel
theorem dL_same_197 : decode cL_same 197 = .ok (.iload 11, 2) := by decide +kernel
theorem dL_same_199 : decode cL_same 199 = .ok (.iaload, 1) := by decide +kernel
theorem dL_same_200 : decode cL_same 200 = .ok (.invokestatic 20, 3) := by decide +kernel
theorem dL_same_203 : decode cL_same 203 = .ok (.aload_n 2, 1) := by decide +kernel
theorem dL_same_204 : decode cL_same 204 = .ok (.iconst 3, 1) := by decide +kernel
theorem dL_same_205 : decode cL_same 205 = .ok (.iaload, 1) := by decide +kernel
theorem dL_same_206 : decode cL_same 206 = .ok (.if_icmp .lt 8, 3) := by decide +kernel
theorem dL_same_209 : decode cL_same 209 = .ok (.iload 11, 2) := by decide +kernel
theorem dL_same_211 : decode cL_same 211 = .ok (.goto 5, 3) := by decide +kernel
theorem dL_same_214 : decode cL_same 214 = .ok (.iload 7, 2) := by decide +kernel
theorem dL_same_216 : decode cL_same 216 = .ok (.istore 7, 2) := by decide +kernel
theorem dL_same_218 : decode cL_same 218 = .ok (.aload_n 0, 1) := by decide +kernel
theorem dL_same_219 : decode cL_same 219 = .ok (.iload 11, 2) := by decide +kernel
theorem dL_same_221 : decode cL_same 221 = .ok (.iconst 0, 1) := by decide +kernel
theorem dL_same_222 : decode cL_same 222 = .ok (.invokevirtual 32, 3) := by decide +kernel
theorem dL_same_225 : decode cL_same 225 = .ok (.aload 4, 2) := by decide +kernel
theorem dL_same_227 : decode cL_same 227 = .ok (.iload 11, 2) := by decide +kernel
theorem dL_same_229 : decode cL_same 229 = .ok (.iaload, 1) := by decide +kernel
theorem dL_same_230 : decode cL_same 230 = .ok (.if_icmp .ne 74, 3) := by decide +kernel
theorem dL_same_233 : decode cL_same 233 = .ok (.aload_n 0, 1) := by decide +kernel
theorem dL_same_234 : decode cL_same 234 = .ok (.iload 11, 2) := by decide +kernel
theorem dL_same_236 : decode cL_same 236 = .ok (.iconst 1, 1) := by decide +kernel
theorem dL_same_237 : decode cL_same 237 = .ok (.invokevirtual 32, 3) := by decide +kernel
theorem dL_same_240 : decode cL_same 240 = .ok (.iload 13, 2) := by decide +kernel
theorem dL_same_242 : decode cL_same 242 = .ok (.if_icmp .ne 62, 3) := by decide +kernel
theorem dL_same_245 : decode cL_same 245 = .ok (.aload_n 0, 1) := by decide +kernel
theorem dL_same_246 : decode cL_same 246 = .ok (.iload 11, 2) := by decide +kernel
theorem dL_same_248 : decode cL_same 248 = .ok (.iconst 2, 1) := by decide +kernel
theorem dL_same_249 : decode cL_same 249 = .ok (.invokevirtual 32, 3) := by decide +kernel
theorem dL_same_252 : decode cL_same 252 = .ok (.iload 12, 2) := by decide +kernel
theorem dL_same_254 : decode cL_same 254 = .ok (.if_icmp .ne 50, 3) := by decide +kernel
theorem dL_same_257 : decode cL_same 257 = .ok (.aload_n 0, 1) := by decide +kernel
theorem dL_same_258 : decode cL_same 258 = .ok (.iload 11, 2) := by decide +kernel
theorem dL_same_260 : decode cL_same 260 = .ok (.iconst 3, 1) := by decide +kernel
theorem dL_same_261 : decode cL_same 261 = .ok (.invokevirtual 32, 3) := by decide +kernel
theorem dL_same_264 : decode cL_same 264 = .ok (.aload 4, 2) := by decide +kernel
theorem dL_same_266 : decode cL_same 266 = .ok (.iload 11, 2) := by decide +kernel
theorem dL_same_268 : decode cL_same 268 = .ok (.iaload, 1) := by decide +kernel
theorem dL_same_269 : decode cL_same 269 = .ok (.invokestatic 20, 3) := by decide +kernel
theorem dL_same_272 : decode cL_same 272 = .ok (.if_icmp .ne 32, 3) := by decide +kernel
theorem dL_same_275 : decode cL_same 275 = .ok (.aload_n 0, 1) := by decide +kernel
theorem dL_same_276 : decode cL_same 276 = .ok (.iload 11, 2) := by decide +kernel
theorem dL_same_278 : decode cL_same 278 = .ok (.iconst 4, 1) := by decide +kernel
theorem dL_same_279 : decode cL_same 279 = .ok (.invokevirtual 32, 3) := by decide +kernel
theorem dL_same_282 : decode cL_same 282 = .ok (.aload 4, 2) := by decide +kernel
theorem dL_same_284 : decode cL_same 284 = .ok (.iload 11, 2) := by decide +kernel
theorem dL_same_286 : decode cL_same 286 = .ok (.iaload, 1) := by decide +kernel
theorem dL_same_287 : decode cL_same 287 = .ok (.invokestatic 20, 3) := by decide +kernel
theorem dL_same_290 : decode cL_same 290 = .ok (.aload_n 2, 1) := by decide +kernel
theorem dL_same_291 : decode cL_same 291 = .ok (.iconst 3, 1) := by decide +kernel
theorem dL_same_292 : decode cL_same 292 = .ok (.iaload, 1) := by decide +kernel
theorem dL_same_293 : decode cL_same 293 = .ok (.if_icmp .lt 7, 3) := by decide +kernel
theorem dL_same_296 : decode cL_same 296 = .ok (.iconst 1, 1) := by decide +kernel
theorem dL_same_297 : decode cL_same 297 = .ok (.goto 4, 3) := by decide +kernel
theorem dL_same_300 : decode cL_same 300 = .ok (.iconst 0, 1) := by decide +kernel
theorem dL_same_301 : decode cL_same 301 = .ok (.if_icmp .eq 5, 3) := by decide +kernel
theorem dL_same_304 : decode cL_same 304 = .ok (.iconst 0, 1) := by decide +kernel
theorem dL_same_305 : decode cL_same 305 = .ok (.ireturn, 1) := by decide +kernel
theorem dL_same_306 : decode cL_same 306 = .ok (.iinc 11 1, 3) := by decide +kernel
theorem dL_same_309 : decode cL_same 309 = .ok (.goto (-280), 3) := by decide +kernel
theorem dL_same_312 : decode cL_same 312 = .ok (.iconst 0, 1) := by decide +kernel
theorem dL_same_313 : decode cL_same 313 = .ok (.istore 11, 2) := by decide +kernel
theorem dL_same_315 : decode cL_same 315 = .ok (.iload 11, 2) := by decide +kernel
theorem dL_same_317 : decode cL_same 317 = .ok (.aload_n 2, 1) := by decide +kernel
theorem dL_same_318 : decode cL_same 318 = .ok (.iconst 4, 1) := by decide +kernel
theorem dL_same_319 : decode cL_same 319 = .ok (.iaload, 1) := by decide +kernel
theorem dL_same_320 : decode cL_same 320 = .ok (.if_icmp .ge 324, 3) := by decide +kernel
theorem dL_same_323 : decode cL_same 323 = .ok (.aload_n 3, 1) := by decide +kernel
theorem dL_same_324 : decode cL_same 324 = .ok (.iconst 5, 1) := by decide +kernel
theorem dL_same_325 : decode cL_same 325 = .ok (.iload 11, 2) := by decide +kernel
theorem dL_same_327 : decode cL_same 327 = .ok (.imul, 1) := by decide +kernel
theorem dL_same_328 : decode cL_same 328 = .ok (.iaload, 1) := by decide +kernel
theorem dL_same_329 : decode cL_same 329 = .ok (.bipush 100, 2) := by decide +kernel
theorem dL_same_331 : decode cL_same 331 = .ok (.irem, 1) := by decide +kernel
theorem dL_same_332 : decode cL_same 332 = .ok (.istore 12, 2) := by decide +kernel
theorem dL_same_334 : decode cL_same 334 = .ok (.iconst 0, 1) := by decide +kernel
theorem dL_same_335 : decode cL_same 335 = .ok (.istore 13, 2) := by decide +kernel
theorem dL_same_337 : decode cL_same 337 = .ok (.iconst 0, 1) := by decide +kernel
theorem dL_same_338 : decode cL_same 338 = .ok (.istore 14, 2) := by decide +kernel
theorem dL_same_340 : decode cL_same 340 = .ok (.iconst 0, 1) := by decide +kernel
theorem dL_same_341 : decode cL_same 341 = .ok (.istore 15, 2) := by decide +kernel
theorem dL_same_343 : decode cL_same 343 = .ok (.iconst 1, 1) := by decide +kernel
theorem dL_same_344 : decode cL_same 344 = .ok (.istore 16, 2) := by decide +kernel
theorem dL_same_346 : decode cL_same 346 = .ok (.aload_n 3, 1) := by decide +kernel
theorem dL_same_347 : decode cL_same 347 = .ok (.iconst 5, 1) := by decide +kernel
theorem dL_same_348 : decode cL_same 348 = .ok (.iload 11, 2) := by decide +kernel
theorem dL_same_350 : decode cL_same 350 = .ok (.imul, 1) := by decide +kernel
theorem dL_same_351 : decode cL_same 351 = .ok (.iaload, 1) := by decide +kernel
theorem dL_same_352 : decode cL_same 352 = .ok (.bipush 100, 2) := by decide +kernel
theorem dL_same_354 : decode cL_same 354 = .ok (.idiv, 1) := by decide +kernel
theorem dL_same_355 : decode cL_same 355 = .ok (.istore 17, 2) := by decide +kernel
theorem dL_same_357 : decode cL_same 357 = .ok (.iload 17, 2) := by decide +kernel
theorem dL_same_359 : decode cL_same 359 = .ok (.aload_n 3, 1) := by decide +kernel
theorem dL_same_360 : decode cL_same 360 = .ok (.iconst 5, 1) := by decide +kernel
theorem dL_same_361 : decode cL_same 361 = .ok (.iload 11, 2) := by decide +kernel
theorem dL_same_363 : decode cL_same 363 = .ok (.imul, 1) := by decide +kernel
theorem dL_same_364 : decode cL_same 364 = .ok (.iconst 1, 1) := by decide +kernel
theorem dL_same_365 : decode cL_same 365 = .ok (.iadd, 1) := by decide +kernel
theorem dL_same_366 : decode cL_same 366 = .ok (.iaload, 1) := by decide +kernel
theorem dL_same_367 : decode cL_same 367 = .ok (.if_icmp .gt 95, 3) := by decide +kernel
theorem dL_same_370 : decode cL_same 370 = .ok (.iload 11, 2) := by decide +kernel
theorem dL_same_372 : decode cL_same 372 = .ok (.iload 17, 2) := by decide +kernel
theorem dL_same_374 : decode cL_same 374 = .ok (.aload_n 2, 1) := by decide +kernel
theorem dL_same_375 : decode cL_same 375 = .ok (.aload_n 3, 1) := by decide +kernel
theorem dL_same_376 : decode cL_same 376 = .ok (.invokestatic 10, 3) := by decide +kernel
theorem dL_same_379 : decode cL_same 379 = .ok (.istore 18, 2) := by decide +kernel
theorem dL_same_381 : decode cL_same 381 = .ok (.iload 13, 2) := by decide +kernel
theorem dL_same_383 : decode cL_same 383 = .ok (.iload 18, 2) := by decide +kernel
theorem dL_same_385 : decode cL_same 385 = .ok (.ifCond .eq 7, 3) := by decide +kernel
theorem dL_same_388 : decode cL_same 388 = .ok (.iconst 0, 1) := by decide +kernel
theorem dL_same_389 : decode cL_same 389 = .ok (.goto 4, 3) := by decide +kernel
theorem dL_same_392 : decode cL_same 392 = .ok (.iconst 1, 1) := by decide +kernel
theorem dL_same_393 : decode cL_same 393 = .ok (.iadd, 1) := by decide +kernel
theorem dL_same_394 : decode cL_same 394 = .ok (.istore 13, 2) := by decide +kernel
theorem dL_same_396 : decode cL_same 396 = .ok (.iload 18, 2) := by decide +kernel
theorem dL_same_398 : decode cL_same 398 = .ok (.ifCond .eq 7, 3) := by decide +kernel
theorem dL_same_401 : decode cL_same 401 = .ok (.iconst 0, 1) := by decide +kernel
theorem dL_same_402 : decode cL_same 402 = .ok (.goto 7, 3) := by decide +kernel
theorem dL_same_405 : decode cL_same 405 = .ok (.iload 14, 2) := by decide +kernel
theorem dL_same_407 : decode cL_same 407 = .ok (.iconst 1, 1) := by decide +kernel
theorem dL_same_408 : decode cL_same 408 = .ok (.iadd, 1) := by decide +kernel
theorem dL_same_409 : decode cL_same 409 = .ok (.istore 14, 2) := by decide +kernel
theorem dL_same_411 : decode cL_same 411 = .ok (.iload 14, 2) := by decide +kernel
theorem dL_same_413 : decode cL_same 413 = .ok (.iload 15, 2) := by decide +kernel
theorem dL_same_415 : decode cL_same 415 = .ok (.if_icmp .le 8, 3) := by decide +kernel
theorem dL_same_418 : decode cL_same 418 = .ok (.iload 14, 2) := by decide +kernel
theorem dL_same_420 : decode cL_same 420 = .ok (.goto 5, 3) := by decide +kernel
theorem dL_same_423 : decode cL_same 423 = .ok (.iload 15, 2) := by decide +kernel
theorem dL_same_425 : decode cL_same 425 = .ok (.istore 15, 2) := by decide +kernel
theorem dL_same_427 : decode cL_same 427 = .ok (.iload 16, 2) := by decide +kernel
theorem dL_same_429 : decode cL_same 429 = .ok (.ifCond .eq 24, 3) := by decide +kernel
theorem dL_same_432 : decode cL_same 432 = .ok (.iload 17, 2) := by decide +kernel
theorem dL_same_434 : decode cL_same 434 = .ok (.aload_n 2, 1) := by decide +kernel
theorem dL_same_435 : decode cL_same 435 = .ok (.aload 4, 2) := by decide +kernel
theorem dL_same_437 : decode cL_same 437 = .ok (.invokestatic 28, 3) := by decide +kernel
theorem dL_same_440 : decode cL_same 440 = .ok (.iload 12, 2) := by decide +kernel
theorem dL_same_442 : decode cL_same 442 = .ok (.ishr, 1) := by decide +kernel
theorem dL_same_443 : decode cL_same 443 = .ok (.iconst 1, 1) := by decide +kernel
theorem dL_same_444 : decode cL_same 444 = .ok (.iand, 1) := by decide +kernel
theorem dL_same_445 : decode cL_same 445 = .ok (.iconst 1, 1) := by decide +kernel
theorem dL_same_446 : decode cL_same 446 = .ok (.if_icmp .ne 7, 3) := by decide +kernel
theorem dL_same_449 : decode cL_same 449 = .ok (.iconst 1, 1) := by decide +kernel
theorem dL_same_450 : decode cL_same 450 = .ok (.goto 4, 3) := by decide +kernel
theorem dL_same_453 : decode cL_same 453 = .ok (.iconst 0, 1) := by decide +kernel
theorem dL_same_454 : decode cL_same 454 = .ok (.istore 16, 2) := by decide +kernel
theorem dL_same_456 : decode cL_same 456 = .ok (.iinc 17 1, 3) := by decide +kernel
theorem dL_same_459 : decode cL_same 459 = .ok (.goto (-102), 3) := by decide +kernel
theorem dL_same_462 : decode cL_same 462 = .ok (.iload 9, 2) := by decide +kernel
theorem dL_same_464 : decode cL_same 464 = .ok (.iload 16, 2) := by decide +kernel
theorem dL_same_466 : decode cL_same 466 = .ok (.ifCond .eq 7, 3) := by decide +kernel
theorem dL_same_469 : decode cL_same 469 = .ok (.iconst 0, 1) := by decide +kernel
theorem dL_same_470 : decode cL_same 470 = .ok (.goto 4, 3) := by decide +kernel
theorem dL_same_473 : decode cL_same 473 = .ok (.iconst 1, 1) := by decide +kernel
theorem dL_same_474 : decode cL_same 474 = .ok (.iadd, 1) := by decide +kernel
theorem dL_same_475 : decode cL_same 475 = .ok (.istore 9, 2) := by decide +kernel
theorem dL_same_477 : decode cL_same 477 = .ok (.aload_n 3, 1) := by decide +kernel
theorem dL_same_478 : decode cL_same 478 = .ok (.iconst 5, 1) := by decide +kernel
theorem dL_same_479 : decode cL_same 479 = .ok (.iload 11, 2) := by decide +kernel
theorem dL_same_481 : decode cL_same 481 = .ok (.imul, 1) := by decide +kernel
theorem dL_same_482 : decode cL_same 482 = .ok (.iconst 1, 1) := by decide +kernel
theorem dL_same_483 : decode cL_same 483 = .ok (.iadd, 1) := by decide +kernel
theorem dL_same_484 : decode cL_same 484 = .ok (.iaload, 1) := by decide +kernel
theorem dL_same_485 : decode cL_same 485 = .ok (.iload 10, 2) := by decide +kernel
theorem dL_same_487 : decode cL_same 487 = .ok (.if_icmp .le 14, 3) := by decide +kernel
theorem dL_same_490 : decode cL_same 490 = .ok (.aload_n 3, 1) := by decide +kernel
theorem dL_same_491 : decode cL_same 491 = .ok (.iconst 5, 1) := by decide +kernel
theorem dL_same_492 : decode cL_same 492 = .ok (.iload 11, 2) := by decide +kernel
theorem dL_same_494 : decode cL_same 494 = .ok (.imul, 1) := by decide +kernel
theorem dL_same_495 : decode cL_same 495 = .ok (.iconst 1, 1) := by decide +kernel
theorem dL_same_496 : decode cL_same 496 = .ok (.iadd, 1) := by decide +kernel
theorem dL_same_497 : decode cL_same 497 = .ok (.iaload, 1) := by decide +kernel
theorem dL_same_498 : decode cL_same 498 = .ok (.goto 5, 3) := by decide +kernel
theorem dL_same_501 : decode cL_same 501 = .ok (.iload 10, 2) := by decide +kernel
theorem dL_same_503 : decode cL_same 503 = .ok (.istore 10, 2) := by decide +kernel
theorem dL_same_505 : decode cL_same 505 = .ok (.aload_n 0, 1) := by decide +kernel
theorem dL_same_506 : decode cL_same 506 = .ok (.iload 11, 2) := by decide +kernel
theorem dL_same_508 : decode cL_same 508 = .ok (.iconst 0, 1) := by decide +kernel
theorem dL_same_509 : decode cL_same 509 = .ok (.invokevirtual 38, 3) := by decide +kernel
theorem dL_same_512 : decode cL_same 512 = .ok (.iload 12, 2) := by decide +kernel
theorem dL_same_514 : decode cL_same 514 = .ok (.if_icmp .ne 122, 3) := by decide +kernel
theorem dL_same_517 : decode cL_same 517 = .ok (.aload_n 0, 1) := by decide +kernel
theorem dL_same_518 : decode cL_same 518 = .ok (.iload 11, 2) := by decide +kernel
theorem dL_same_520 : decode cL_same 520 = .ok (.iconst 1, 1) := by decide +kernel
theorem dL_same_521 : decode cL_same 521 = .ok (.invokevirtual 38, 3) := by decide +kernel
theorem dL_same_524 : decode cL_same 524 = .ok (.aload_n 3, 1) := by decide +kernel
theorem dL_same_525 : decode cL_same 525 = .ok (.iconst 5, 1) := by decide +kernel
theorem dL_same_526 : decode cL_same 526 = .ok (.iload 11, 2) := by decide +kernel
theorem dL_same_528 : decode cL_same 528 = .ok (.imul, 1) := by decide +kernel
theorem dL_same_529 : decode cL_same 529 = .ok (.iaload, 1) := by decide +kernel
theorem dL_same_530 : decode cL_same 530 = .ok (.bipush 100, 2) := by decide +kernel
theorem dL_same_532 : decode cL_same 532 = .ok (.idiv, 1) := by decide +kernel
theorem dL_same_533 : decode cL_same 533 = .ok (.if_icmp .ne 103, 3) := by decide +kernel
theorem dL_same_536 : decode cL_same 536 = .ok (.aload_n 0, 1) := by decide +kernel
theorem dL_same_537 : decode cL_same 537 = .ok (.iload 11, 2) := by decide +kernel
theorem dL_same_539 : decode cL_same 539 = .ok (.iconst 2, 1) := by decide +kernel
theorem dL_same_540 : decode cL_same 540 = .ok (.invokevirtual 38, 3) := by decide +kernel
theorem dL_same_543 : decode cL_same 543 = .ok (.aload_n 3, 1) := by decide +kernel
theorem dL_same_544 : decode cL_same 544 = .ok (.iconst 5, 1) := by decide +kernel
theorem dL_same_545 : decode cL_same 545 = .ok (.iload 11, 2) := by decide +kernel
theorem dL_same_547 : decode cL_same 547 = .ok (.imul, 1) := by decide +kernel
theorem dL_same_548 : decode cL_same 548 = .ok (.iconst 1, 1) := by decide +kernel
theorem dL_same_549 : decode cL_same 549 = .ok (.iadd, 1) := by decide +kernel
theorem dL_same_550 : decode cL_same 550 = .ok (.iaload, 1) := by decide +kernel
theorem dL_same_551 : decode cL_same 551 = .ok (.if_icmp .ne 85, 3) := by decide +kernel
theorem dL_same_554 : decode cL_same 554 = .ok (.aload_n 0, 1) := by decide +kernel
theorem dL_same_555 : decode cL_same 555 = .ok (.iload 11, 2) := by decide +kernel
theorem dL_same_557 : decode cL_same 557 = .ok (.iconst 3, 1) := by decide +kernel
theorem dL_same_558 : decode cL_same 558 = .ok (.invokevirtual 38, 3) := by decide +kernel
theorem dL_same_561 : decode cL_same 561 = .ok (.aload_n 3, 1) := by decide +kernel
theorem dL_same_562 : decode cL_same 562 = .ok (.iconst 5, 1) := by decide +kernel
theorem dL_same_563 : decode cL_same 563 = .ok (.iload 11, 2) := by decide +kernel
theorem dL_same_565 : decode cL_same 565 = .ok (.imul, 1) := by decide +kernel
theorem dL_same_566 : decode cL_same 566 = .ok (.iconst 2, 1) := by decide +kernel
theorem dL_same_567 : decode cL_same 567 = .ok (.iadd, 1) := by decide +kernel
theorem dL_same_568 : decode cL_same 568 = .ok (.iaload, 1) := by decide +kernel
theorem dL_same_569 : decode cL_same 569 = .ok (.if_icmp .ne 67, 3) := by decide +kernel
theorem dL_same_572 : decode cL_same 572 = .ok (.aload_n 0, 1) := by decide +kernel
theorem dL_same_573 : decode cL_same 573 = .ok (.iload 11, 2) := by decide +kernel
theorem dL_same_575 : decode cL_same 575 = .ok (.iconst 4, 1) := by decide +kernel
theorem dL_same_576 : decode cL_same 576 = .ok (.invokevirtual 38, 3) := by decide +kernel
theorem dL_same_579 : decode cL_same 579 = .ok (.aload_n 3, 1) := by decide +kernel
theorem dL_same_580 : decode cL_same 580 = .ok (.iconst 5, 1) := by decide +kernel
theorem dL_same_581 : decode cL_same 581 = .ok (.iload 11, 2) := by decide +kernel
theorem dL_same_583 : decode cL_same 583 = .ok (.imul, 1) := by decide +kernel
theorem dL_same_584 : decode cL_same 584 = .ok (.iconst 3, 1) := by decide +kernel
theorem dL_same_585 : decode cL_same 585 = .ok (.iadd, 1) := by decide +kernel
theorem dL_same_586 : decode cL_same 586 = .ok (.iaload, 1) := by decide +kernel
theorem dL_same_587 : decode cL_same 587 = .ok (.if_icmp .ne 49, 3) := by decide +kernel
theorem dL_same_590 : decode cL_same 590 = .ok (.aload_n 0, 1) := by decide +kernel
theorem dL_same_591 : decode cL_same 591 = .ok (.iload 11, 2) := by decide +kernel
theorem dL_same_593 : decode cL_same 593 = .ok (.iconst 5, 1) := by decide +kernel
theorem dL_same_594 : decode cL_same 594 = .ok (.invokevirtual 38, 3) := by decide +kernel
theorem dL_same_597 : decode cL_same 597 = .ok (.iload 13, 2) := by decide +kernel
theorem dL_same_599 : decode cL_same 599 = .ok (.if_icmp .ne 37, 3) := by decide +kernel
theorem dL_same_602 : decode cL_same 602 = .ok (.aload_n 0, 1) := by decide +kernel
theorem dL_same_603 : decode cL_same 603 = .ok (.iload 11, 2) := by decide +kernel
theorem dL_same_605 : decode cL_same 605 = .ok (.bipush 6, 2) := by decide +kernel
theorem dL_same_607 : decode cL_same 607 = .ok (.invokevirtual 38, 3) := by decide +kernel
theorem dL_same_610 : decode cL_same 610 = .ok (.iload 15, 2) := by decide +kernel
theorem dL_same_612 : decode cL_same 612 = .ok (.if_icmp .ne 24, 3) := by decide +kernel
theorem dL_same_615 : decode cL_same 615 = .ok (.aload_n 0, 1) := by decide +kernel
theorem dL_same_616 : decode cL_same 616 = .ok (.iload 11, 2) := by decide +kernel
theorem dL_same_618 : decode cL_same 618 = .ok (.bipush 7, 2) := by decide +kernel
theorem dL_same_620 : decode cL_same 620 = .ok (.invokevirtual 38, 3) := by decide +kernel
theorem dL_same_623 : decode cL_same 623 = .ok (.iload 16, 2) := by decide +kernel
theorem dL_same_625 : decode cL_same 625 = .ok (.ifCond .eq 7, 3) := by decide +kernel
theorem dL_same_628 : decode cL_same 628 = .ok (.iconst 1, 1) := by decide +kernel
theorem dL_same_629 : decode cL_same 629 = .ok (.goto 4, 3) := by decide +kernel
theorem dL_same_632 : decode cL_same 632 = .ok (.iconst 0, 1) := by decide +kernel
theorem dL_same_633 : decode cL_same 633 = .ok (.if_icmp .eq 5, 3) := by decide +kernel
theorem dL_same_636 : decode cL_same 636 = .ok (.iconst 0, 1) := by decide +kernel
theorem dL_same_637 : decode cL_same 637 = .ok (.ireturn, 1) := by decide +kernel
theorem dL_same_638 : decode cL_same 638 = .ok (.iinc 11 1, 3) := by decide +kernel
theorem dL_same_641 : decode cL_same 641 = .ok (.goto (-326), 3) := by decide +kernel
theorem dL_same_644 : decode cL_same 644 = .ok (.iload_n 1, 1) := by decide +kernel
theorem dL_same_645 : decode cL_same 645 = .ok (.bipush 12, 2) := by decide +kernel
theorem dL_same_647 : decode cL_same 647 = .ok (.invokestatic 41, 3) := by decide +kernel
theorem dL_same_650 : decode cL_same 650 = .ok (.istore 11, 2) := by decide +kernel
theorem dL_same_652 : decode cL_same 652 = .ok (.iconst 0, 1) := by decide +kernel
theorem dL_same_653 : decode cL_same 653 = .ok (.istore 12, 2) := by decide +kernel
theorem dL_same_655 : decode cL_same 655 = .ok (.iconst 0, 1) := by decide +kernel
theorem dL_same_656 : decode cL_same 656 = .ok (.istore 13, 2) := by decide +kernel
theorem dL_same_658 : decode cL_same 658 = .ok (.iconst 0, 1) := by decide +kernel
theorem dL_same_659 : decode cL_same 659 = .ok (.istore 14, 2) := by decide +kernel
theorem dL_same_661 : decode cL_same 661 = .ok (.iload 14, 2) := by decide +kernel
theorem dL_same_663 : decode cL_same 663 = .ok (.bipush 64, 2) := by decide +kernel
theorem dL_same_665 : decode cL_same 665 = .ok (.if_icmp .ge 280, 3) := by decide +kernel
theorem dL_same_668 : decode cL_same 668 = .ok (.iload 14, 2) := by decide +kernel
theorem dL_same_670 : decode cL_same 670 = .ok (.aload_n 2, 1) := by decide +kernel
theorem dL_same_671 : decode cL_same 671 = .ok (.aload 4, 2) := by decide +kernel
theorem dL_same_673 : decode cL_same 673 = .ok (.invokestatic 28, 3) := by decide +kernel
theorem dL_same_676 : decode cL_same 676 = .ok (.iload 11, 2) := by decide +kernel
theorem dL_same_678 : decode cL_same 678 = .ok (.ishr, 1) := by decide +kernel
theorem dL_same_679 : decode cL_same 679 = .ok (.iconst 1, 1) := by decide +kernel
theorem dL_same_680 : decode cL_same 680 = .ok (.iand, 1) := by decide +kernel
theorem dL_same_681 : decode cL_same 681 = .ok (.iconst 1, 1) := by decide +kernel
theorem dL_same_682 : decode cL_same 682 = .ok (.if_icmp .ne 7, 3) := by decide +kernel
theorem dL_same_685 : decode cL_same 685 = .ok (.iconst 1, 1) := by decide +kernel
theorem dL_same_686 : decode cL_same 686 = .ok (.goto 4, 3) := by decide +kernel
theorem dL_same_689 : decode cL_same 689 = .ok (.iconst 0, 1) := by decide +kernel
theorem dL_same_690 : decode cL_same 690 = .ok (.istore 15, 2) := by decide +kernel
theorem dL_same_692 : decode cL_same 692 = .ok (.iload 14, 2) := by decide +kernel
theorem dL_same_694 : decode cL_same 694 = .ok (.ifCond .le 26, 3) := by decide +kernel
theorem dL_same_697 : decode cL_same 697 = .ok (.iload 14, 2) := by decide +kernel
theorem dL_same_699 : decode cL_same 699 = .ok (.iconst 1, 1) := by decide +kernel
theorem dL_same_700 : decode cL_same 700 = .ok (.isub, 1) := by decide +kernel
theorem dL_same_701 : decode cL_same 701 = .ok (.aload_n 2, 1) := by decide +kernel
theorem dL_same_702 : decode cL_same 702 = .ok (.aload 4, 2) := by decide +kernel
theorem dL_same_704 : decode cL_same 704 = .ok (.invokestatic 28, 3) := by decide +kernel
theorem dL_same_707 : decode cL_same 707 = .ok (.iload 11, 2) := by decide +kernel
theorem dL_same_709 : decode cL_same 709 = .ok (.ishr, 1) := by decide +kernel
theorem dL_same_710 : decode cL_same 710 = .ok (.iconst 1, 1) := by decide +kernel
theorem dL_same_711 : decode cL_same 711 = .ok (.iand, 1) := by decide +kernel
theorem dL_same_712 : decode cL_same 712 = .ok (.iconst 1, 1) := by decide +kernel
theorem dL_same_713 : decode cL_same 713 = .ok (.if_icmp .ne 7, 3) := by decide +kernel
theorem dL_same_716 : decode cL_same 716 = .ok (.iconst 1, 1) := by decide +kernel
theorem dL_same_717 : decode cL_same 717 = .ok (.goto 4, 3) := by decide +kernel
theorem dL_same_720 : decode cL_same 720 = .ok (.iconst 0, 1) := by decide +kernel
theorem dL_same_721 : decode cL_same 721 = .ok (.istore 16, 2) := by decide +kernel
theorem dL_same_723 : decode cL_same 723 = .ok (.iconst 0, 1) := by decide +kernel
theorem dL_same_724 : decode cL_same 724 = .ok (.istore 17, 2) := by decide +kernel
theorem dL_same_726 : decode cL_same 726 = .ok (.iload 17, 2) := by decide +kernel
theorem dL_same_728 : decode cL_same 728 = .ok (.aload_n 2, 1) := by decide +kernel
theorem dL_same_729 : decode cL_same 729 = .ok (.iconst 4, 1) := by decide +kernel
theorem dL_same_730 : decode cL_same 730 = .ok (.iaload, 1) := by decide +kernel
theorem dL_same_731 : decode cL_same 731 = .ok (.if_icmp .ge 41, 3) := by decide +kernel
theorem dL_same_734 : decode cL_same 734 = .ok (.iload 13, 2) := by decide +kernel
theorem dL_same_736 : decode cL_same 736 = .ok (.aload_n 3, 1) := by decide +kernel
theorem dL_same_737 : decode cL_same 737 = .ok (.iconst 5, 1) := by decide +kernel
theorem dL_same_738 : decode cL_same 738 = .ok (.iload 17, 2) := by decide +kernel
theorem dL_same_740 : decode cL_same 740 = .ok (.imul, 1) := by decide +kernel
theorem dL_same_741 : decode cL_same 741 = .ok (.iaload, 1) := by decide +kernel
theorem dL_same_742 : decode cL_same 742 = .ok (.bipush 100, 2) := by decide +kernel
theorem dL_same_744 : decode cL_same 744 = .ok (.iload 14, 2) := by decide +kernel
theorem dL_same_746 : decode cL_same 746 = .ok (.imul, 1) := by decide +kernel
theorem dL_same_747 : decode cL_same 747 = .ok (.iload 11, 2) := by decide +kernel
theorem dL_same_749 : decode cL_same 749 = .ok (.iadd, 1) := by decide +kernel
theorem dL_same_750 : decode cL_same 750 = .ok (.if_icmp .ne 12, 3) := by decide +kernel
theorem dL_same_753 : decode cL_same 753 = .ok (.iload 16, 2) := by decide +kernel
theorem dL_same_755 : decode cL_same 755 = .ok (.ifCond .eq 7, 3) := by decide +kernel
theorem dL_same_758 : decode cL_same 758 = .ok (.iconst 1, 1) := by decide +kernel
theorem dL_same_759 : decode cL_same 759 = .ok (.goto 4, 3) := by decide +kernel
theorem dL_same_762 : decode cL_same 762 = .ok (.iconst 0, 1) := by decide +kernel
theorem dL_same_763 : decode cL_same 763 = .ok (.iadd, 1) := by decide +kernel
theorem dL_same_764 : decode cL_same 764 = .ok (.istore 13, 2) := by decide +kernel
theorem dL_same_766 : decode cL_same 766 = .ok (.iinc 17 1, 3) := by decide +kernel
theorem dL_same_769 : decode cL_same 769 = .ok (.goto (-43), 3) := by decide +kernel
theorem dL_same_772 : decode cL_same 772 = .ok (.iload 15, 2) := by decide +kernel
theorem dL_same_774 : decode cL_same 774 = .ok (.ifCond .eq 165, 3) := by decide +kernel
theorem dL_same_777 : decode cL_same 777 = .ok (.iload 16, 2) := by decide +kernel
theorem dL_same_779 : decode cL_same 779 = .ok (.ifCond .eq 6, 3) := by decide +kernel
theorem dL_same_782 : decode cL_same 782 = .ok (.goto 157, 3) := by decide +kernel
theorem dL_same_785 : decode cL_same 785 = .ok (.iload 14, 2) := by decide +kernel
theorem dL_same_787 : decode cL_same 787 = .ok (.istore 17, 2) := by decide +kernel
theorem dL_same_789 : decode cL_same 789 = .ok (.iload 17, 2) := by decide +kernel
theorem dL_same_791 : decode cL_same 791 = .ok (.bipush 63, 2) := by decide +kernel
theorem dL_same_793 : decode cL_same 793 = .ok (.if_icmp .ge 28, 3) := by decide +kernel
theorem dL_same_796 : decode cL_same 796 = .ok (.iload 17, 2) := by decide +kernel
theorem dL_same_798 : decode cL_same 798 = .ok (.iconst 1, 1) := by decide +kernel
theorem dL_same_799 : decode cL_same 799 = .ok (.iadd, 1) := by decide +kernel
theorem dL_same_800 : decode cL_same 800 = .ok (.aload_n 2, 1) := by decide +kernel
theorem dL_same_801 : decode cL_same 801 = .ok (.aload 4, 2) := by decide +kernel
theorem dL_same_803 : decode cL_same 803 = .ok (.invokestatic 28, 3) := by decide +kernel
theorem dL_same_806 : decode cL_same 806 = .ok (.iload 11, 2) := by decide +kernel
theorem dL_same_808 : decode cL_same 808 = .ok (.ishr, 1) := by decide +kernel
theorem dL_same_809 : decode cL_same 809 = .ok (.iconst 1, 1) := by decide +kernel
theorem dL_same_810 : decode cL_same 810 = .ok (.iand, 1) := by decide +kernel
theorem dL_same_811 : decode cL_same 811 = .ok (.iconst 1, 1) := by decide +kernel
theorem dL_same_812 : decode cL_same 812 = .ok (.if_icmp .ne 9, 3) := by decide +kernel
theorem dL_same_815 : decode cL_same 815 = .ok (.iinc 17 1, 3) := by decide +kernel
theorem dL_same_818 : decode cL_same 818 = .ok (.goto (-29), 3) := by decide +kernel
theorem dL_same_821 : decode cL_same 821 = .ok (.iconst 0, 1) := by decide +kernel
theorem dL_same_822 : decode cL_same 822 = .ok (.istore 18, 2) := by decide +kernel
theorem dL_same_824 : decode cL_same 824 = .ok (.iconst 0, 1) := by decide +kernel
theorem dL_same_825 : decode cL_same 825 = .ok (.istore 19, 2) := by decide +kernel
theorem dL_same_827 : decode cL_same 827 = .ok (.iload 19, 2) := by decide +kernel
theorem dL_same_829 : decode cL_same 829 = .ok (.aload_n 2, 1) := by decide +kernel
theorem dL_same_830 : decode cL_same 830 = .ok (.iconst 4, 1) := by decide +kernel
theorem dL_same_831 : decode cL_same 831 = .ok (.iaload, 1) := by decide +kernel
theorem dL_same_832 : decode cL_same 832 = .ok (.if_icmp .ge 60, 3) := by decide +kernel
theorem dL_same_835 : decode cL_same 835 = .ok (.iload 18, 2) := by decide +kernel
theorem dL_same_837 : decode cL_same 837 = .ok (.aload_n 3, 1) := by decide +kernel
theorem dL_same_838 : decode cL_same 838 = .ok (.iconst 5, 1) := by decide +kernel
theorem dL_same_839 : decode cL_same 839 = .ok (.iload 19, 2) := by decide +kernel
theorem dL_same_841 : decode cL_same 841 = .ok (.imul, 1) := by decide +kernel
theorem dL_same_842 : decode cL_same 842 = .ok (.iaload, 1) := by decide +kernel
theorem dL_same_843 : decode cL_same 843 = .ok (.bipush 100, 2) := by decide +kernel
theorem dL_same_845 : decode cL_same 845 = .ok (.irem, 1) := by decide +kernel
theorem dL_same_846 : decode cL_same 846 = .ok (.iload 11, 2) := by decide +kernel
theorem dL_same_848 : decode cL_same 848 = .ok (.if_icmp .ne 34, 3) := by decide +kernel
theorem dL_same_851 : decode cL_same 851 = .ok (.aload_n 3, 1) := by decide +kernel
theorem dL_same_852 : decode cL_same 852 = .ok (.iconst 5, 1) := by decide +kernel
theorem dL_same_853 : decode cL_same 853 = .ok (.iload 19, 2) := by decide +kernel
theorem dL_same_855 : decode cL_same 855 = .ok (.imul, 1) := by decide +kernel
theorem dL_same_856 : decode cL_same 856 = .ok (.iaload, 1) := by decide +kernel
theorem dL_same_857 : decode cL_same 857 = .ok (.bipush 100, 2) := by decide +kernel
theorem dL_same_859 : decode cL_same 859 = .ok (.idiv, 1) := by decide +kernel
theorem dL_same_860 : decode cL_same 860 = .ok (.iload 17, 2) := by decide +kernel
theorem dL_same_862 : decode cL_same 862 = .ok (.if_icmp .gt 20, 3) := by decide +kernel
theorem dL_same_865 : decode cL_same 865 = .ok (.aload_n 3, 1) := by decide +kernel
theorem dL_same_866 : decode cL_same 866 = .ok (.iconst 5, 1) := by decide +kernel
theorem dL_same_867 : decode cL_same 867 = .ok (.iload 19, 2) := by decide +kernel
theorem dL_same_869 : decode cL_same 869 = .ok (.imul, 1) := by decide +kernel
theorem dL_same_870 : decode cL_same 870 = .ok (.iconst 1, 1) := by decide +kernel
theorem dL_same_871 : decode cL_same 871 = .ok (.iadd, 1) := by decide +kernel
theorem dL_same_872 : decode cL_same 872 = .ok (.iaload, 1) := by decide +kernel
theorem dL_same_873 : decode cL_same 873 = .ok (.iload 14, 2) := by decide +kernel
theorem dL_same_875 : decode cL_same 875 = .ok (.if_icmp .lt 7, 3) := by decide +kernel
theorem dL_same_878 : decode cL_same 878 = .ok (.iconst 1, 1) := by decide +kernel
theorem dL_same_879 : decode cL_same 879 = .ok (.goto 4, 3) := by decide +kernel
theorem dL_same_882 : decode cL_same 882 = .ok (.iconst 0, 1) := by decide +kernel
theorem dL_same_883 : decode cL_same 883 = .ok (.iadd, 1) := by decide +kernel
theorem dL_same_884 : decode cL_same 884 = .ok (.istore 18, 2) := by decide +kernel
theorem dL_same_886 : decode cL_same 886 = .ok (.iinc 19 1, 3) := by decide +kernel
theorem dL_same_889 : decode cL_same 889 = .ok (.goto (-62), 3) := by decide +kernel
theorem dL_same_892 : decode cL_same 892 = .ok (.aload_n 0, 1) := by decide +kernel
theorem dL_same_893 : decode cL_same 893 = .ok (.iload 11, 2) := by decide +kernel
theorem dL_same_895 : decode cL_same 895 = .ok (.iload 12, 2) := by decide +kernel
theorem dL_same_897 : decode cL_same 897 = .ok (.iconst 0, 1) := by decide +kernel
theorem dL_same_898 : decode cL_same 898 = .ok (.invokevirtual 44, 3) := by decide +kernel
theorem dL_same_901 : decode cL_same 901 = .ok (.iload 14, 2) := by decide +kernel
theorem dL_same_903 : decode cL_same 903 = .ok (.if_icmp .ne 31, 3) := by decide +kernel
theorem dL_same_906 : decode cL_same 906 = .ok (.aload_n 0, 1) := by decide +kernel
theorem dL_same_907 : decode cL_same 907 = .ok (.iload 11, 2) := by decide +kernel
theorem dL_same_909 : decode cL_same 909 = .ok (.iload 12, 2) := by decide +kernel
theorem dL_same_911 : decode cL_same 911 = .ok (.iconst 1, 1) := by decide +kernel
theorem dL_same_912 : decode cL_same 912 = .ok (.invokevirtual 44, 3) := by decide +kernel
theorem dL_same_915 : decode cL_same 915 = .ok (.iload 17, 2) := by decide +kernel
theorem dL_same_917 : decode cL_same 917 = .ok (.if_icmp .ne 17, 3) := by decide +kernel
theorem dL_same_920 : decode cL_same 920 = .ok (.aload_n 0, 1) := by decide +kernel
theorem dL_same_921 : decode cL_same 921 = .ok (.iload 11, 2) := by decide +kernel
theorem dL_same_923 : decode cL_same 923 = .ok (.iload 12, 2) := by decide +kernel
theorem dL_same_925 : decode cL_same 925 = .ok (.iconst 2, 1) := by decide +kernel
theorem dL_same_926 : decode cL_same 926 = .ok (.invokevirtual 44, 3) := by decide +kernel
theorem dL_same_929 : decode cL_same 929 = .ok (.iload 18, 2) := by decide +kernel
theorem dL_same_931 : decode cL_same 931 = .ok (.if_icmp .eq 5, 3) := by decide +kernel
theorem dL_same_934 : decode cL_same 934 = .ok (.iconst 0, 1) := by decide +kernel
theorem dL_same_935 : decode cL_same 935 = .ok (.ireturn, 1) := by decide +kernel
theorem dL_same_936 : decode cL_same 936 = .ok (.iinc 12 1, 3) := by decide +kernel
theorem dL_same_939 : decode cL_same 939 = .ok (.iinc 14 1, 3) := by decide +kernel
theorem dL_same_942 : decode cL_same 942 = .ok (.goto (-281), 3) := by decide +kernel
theorem dL_same_945 : decode cL_same 945 = .ok (.aload_n 0, 1) := by decide +kernel
theorem dL_same_946 : decode cL_same 946 = .ok (.iload 11, 2) := by decide +kernel
theorem dL_same_948 : decode cL_same 948 = .ok (.iload 12, 2) := by decide +kernel
theorem dL_same_950 : decode cL_same 950 = .ok (.iconst 0, 1) := by decide +kernel
theorem dL_same_951 : decode cL_same 951 = .ok (.invokevirtual 44, 3) := by decide +kernel
theorem dL_same_954 : decode cL_same 954 = .ok (.iconst (-1), 1) := by decide +kernel
theorem dL_same_955 : decode cL_same 955 = .ok (.if_icmp .ne 138, 3) := by decide +kernel
theorem dL_same_958 : decode cL_same 958 = .ok (.aload_n 0, 1) := by decide +kernel
theorem dL_same_959 : decode cL_same 959 = .ok (.iload 11, 2) := by decide +kernel
theorem dL_same_961 : decode cL_same 961 = .ok (.invokevirtual 48, 3) := by decide +kernel
theorem dL_same_964 : decode cL_same 964 = .ok (.iload 13, 2) := by decide +kernel
theorem dL_same_966 : decode cL_same 966 = .ok (.if_icmp .ne 127, 3) := by decide +kernel
theorem dL_same_969 : decode cL_same 969 = .ok (.aload_n 0, 1) := by decide +kernel
theorem dL_same_970 : decode cL_same 970 = .ok (.iconst 0, 1) := by decide +kernel
theorem dL_same_971 : decode cL_same 971 = .ok (.invokevirtual 51, 3) := by decide +kernel
theorem dL_same_974 : decode cL_same 974 = .ok (.aload_n 2, 1) := by decide +kernel
theorem dL_same_975 : decode cL_same 975 = .ok (.iconst 4, 1) := by decide +kernel
theorem dL_same_976 : decode cL_same 976 = .ok (.iaload, 1) := by decide +kernel
theorem dL_same_977 : decode cL_same 977 = .ok (.if_icmp .ne 116, 3) := by decide +kernel
theorem dL_same_980 : decode cL_same 980 = .ok (.aload_n 0, 1) := by decide +kernel
theorem dL_same_981 : decode cL_same 981 = .ok (.iconst 1, 1) := by decide +kernel
theorem dL_same_982 : decode cL_same 982 = .ok (.invokevirtual 51, 3) := by decide +kernel
theorem dL_same_985 : decode cL_same 985 = .ok (.iload 6, 2) := by decide +kernel
theorem dL_same_987 : decode cL_same 987 = .ok (.if_icmp .ne 106, 3) := by decide +kernel
theorem dL_same_990 : decode cL_same 990 = .ok (.aload_n 0, 1) := by decide +kernel
theorem dL_same_991 : decode cL_same 991 = .ok (.iconst 2, 1) := by decide +kernel
theorem dL_same_992 : decode cL_same 992 = .ok (.invokevirtual 51, 3) := by decide +kernel
theorem dL_same_995 : decode cL_same 995 = .ok (.iload 5, 2) := by decide +kernel
theorem dL_same_997 : decode cL_same 997 = .ok (.if_icmp .ne 96, 3) := by decide +kernel
theorem dL_same_1000 : decode cL_same 1000 = .ok (.aload_n 0, 1) := by decide +kernel
theorem dL_same_1001 : decode cL_same 1001 = .ok (.iconst 3, 1) := by decide +kernel
theorem dL_same_1002 : decode cL_same 1002 = .ok (.invokevirtual 51, 3) := by decide +kernel
theorem dL_same_1005 : decode cL_same 1005 = .ok (.iload 7, 2) := by decide +kernel
theorem dL_same_1007 : decode cL_same 1007 = .ok (.if_icmp .ne 86, 3) := by decide +kernel
theorem dL_same_1010 : decode cL_same 1010 = .ok (.aload_n 0, 1) := by decide +kernel
theorem dL_same_1011 : decode cL_same 1011 = .ok (.iconst 4, 1) := by decide +kernel
theorem dL_same_1012 : decode cL_same 1012 = .ok (.invokevirtual 51, 3) := by decide +kernel
theorem dL_same_1015 : decode cL_same 1015 = .ok (.iload 8, 2) := by decide +kernel
theorem dL_same_1017 : decode cL_same 1017 = .ok (.if_icmp .ne 76, 3) := by decide +kernel
theorem dL_same_1020 : decode cL_same 1020 = .ok (.aload_n 0, 1) := by decide +kernel
theorem dL_same_1021 : decode cL_same 1021 = .ok (.iconst 5, 1) := by decide +kernel
theorem dL_same_1022 : decode cL_same 1022 = .ok (.invokevirtual 51, 3) := by decide +kernel
theorem dL_same_1025 : decode cL_same 1025 = .ok (.iload 9, 2) := by decide +kernel
theorem dL_same_1027 : decode cL_same 1027 = .ok (.if_icmp .ne 66, 3) := by decide +kernel
theorem dL_same_1030 : decode cL_same 1030 = .ok (.aload_n 0, 1) := by decide +kernel
theorem dL_same_1031 : decode cL_same 1031 = .ok (.bipush 6, 2) := by decide +kernel
theorem dL_same_1033 : decode cL_same 1033 = .ok (.invokevirtual 51, 3) := by decide +kernel
theorem dL_same_1036 : decode cL_same 1036 = .ok (.iload 10, 2) := by decide +kernel
theorem dL_same_1038 : decode cL_same 1038 = .ok (.if_icmp .ne 55, 3) := by decide +kernel
theorem dL_same_1041 : decode cL_same 1041 = .ok (.aload_n 0, 1) := by decide +kernel
theorem dL_same_1042 : decode cL_same 1042 = .ok (.bipush 7, 2) := by decide +kernel
theorem dL_same_1044 : decode cL_same 1044 = .ok (.invokevirtual 51, 3) := by decide +kernel
theorem dL_same_1047 : decode cL_same 1047 = .ok (.aload_n 2, 1) := by decide +kernel
theorem dL_same_1048 : decode cL_same 1048 = .ok (.iconst 0, 1) := by decide +kernel
theorem dL_same_1049 : decode cL_same 1049 = .ok (.iaload, 1) := by decide +kernel
theorem dL_same_1050 : decode cL_same 1050 = .ok (.if_icmp .ne 43, 3) := by decide +kernel
theorem dL_same_1053 : decode cL_same 1053 = .ok (.aload_n 0, 1) := by decide +kernel
theorem dL_same_1054 : decode cL_same 1054 = .ok (.bipush 8, 2) := by decide +kernel
theorem dL_same_1056 : decode cL_same 1056 = .ok (.invokevirtual 51, 3) := by decide +kernel
theorem dL_same_1059 : decode cL_same 1059 = .ok (.aload_n 2, 1) := by decide +kernel
theorem dL_same_1060 : decode cL_same 1060 = .ok (.iconst 1, 1) := by decide +kernel
theorem dL_same_1061 : decode cL_same 1061 = .ok (.iaload, 1) := by decide +kernel
theorem dL_same_1062 : decode cL_same 1062 = .ok (.if_icmp .ne 31, 3) := by decide +kernel
theorem dL_same_1065 : decode cL_same 1065 = .ok (.aload_n 0, 1) := by decide +kernel
theorem dL_same_1066 : decode cL_same 1066 = .ok (.bipush 9, 2) := by decide +kernel
theorem dL_same_1068 : decode cL_same 1068 = .ok (.invokevirtual 51, 3) := by decide +kernel
theorem dL_same_1071 : decode cL_same 1071 = .ok (.aload_n 2, 1) := by decide +kernel
theorem dL_same_1072 : decode cL_same 1072 = .ok (.iconst 2, 1) := by decide +kernel
theorem dL_same_1073 : decode cL_same 1073 = .ok (.iaload, 1) := by decide +kernel
theorem dL_same_1074 : decode cL_same 1074 = .ok (.if_icmp .ne 19, 3) := by decide +kernel
theorem dL_same_1077 : decode cL_same 1077 = .ok (.aload_n 0, 1) := by decide +kernel
theorem dL_same_1078 : decode cL_same 1078 = .ok (.bipush 10, 2) := by decide +kernel
theorem dL_same_1080 : decode cL_same 1080 = .ok (.invokevirtual 51, 3) := by decide +kernel
theorem dL_same_1083 : decode cL_same 1083 = .ok (.aload_n 2, 1) := by decide +kernel
theorem dL_same_1084 : decode cL_same 1084 = .ok (.iconst 3, 1) := by decide +kernel
theorem dL_same_1085 : decode cL_same 1085 = .ok (.iaload, 1) := by decide +kernel
theorem dL_same_1086 : decode cL_same 1086 = .ok (.if_icmp .ne 7, 3) := by decide +kernel
theorem dL_same_1089 : decode cL_same 1089 = .ok (.iconst 1, 1) := by decide +kernel
theorem dL_same_1090 : decode cL_same 1090 = .ok (.goto 4, 3) := by decide +kernel
theorem dL_same_1093 : decode cL_same 1093 = .ok (.iconst 0, 1) := by decide +kernel
theorem dL_same_1094 : decode cL_same 1094 = .ok (.ireturn, 1) := by decide +kernel
set_option maxRecDepth 20000 in
theorem ggL_would_L_weak : GoodIn wsL_would wsL_weak := goodIn_r _ [4, 5, 6, 3, 7, 8, 9, 10, 11, 12, 13] (by decide +kernel) (by decide +kernel)
set_option maxRecDepth 20000 in
theorem gL_would_L_weak : GoodIn wsL_would (va_wsS RL 24 yL_weak wsL_weak) := goodIn_app (goodIn_of _ (by decide +kernel)) ggL_would_L_weak
set_option maxRecDepth 20000 in
theorem ggL_would_X4_greatestRun : GoodIn wsL_would wsX4_greatestRun := goodIn_r _ [18, 19, 20, 21, 22, 23, 24, 25, 26, 27, 28, 29, 30, 31, 32, 33, 34, 35, 36, 37, 38, 39, 40, 41, 42, 43, 44, 45, 46, 47, 48, 17, 49, 50, 51, 52, 53, 54, 55, 56, 57, 58, 59, 60, 61, 62, 63, 64, 65, 66, 67, 68, 69, 70, 71, 72, 73, 74, 75, 76, 77, 78, 79, 80, 81, 82, 83, 84, 85, 86, 87, 88, 89, 90, 91, 92, 93, 94, 95, 96, 97, 98, 99, 100, 101, 102, 103, 104, 105, 106, 107, 108, 109, 110, 111, 112, 113, 114, 115, 116, 117, 118, 119, 120, 121, 122, 123, 124, 125, 126, 127, 128, 129, 130, 131, 132, 146, 147, 148, 149, 150, 151, 152, 153, 154, 155, 156, 157, 158, 159, 160, 161, 162] (by decide +kernel) (by decide +kernel)
set_option maxRecDepth 20000 in
theorem gL_would_X4_greatestRun : GoodIn wsL_would (wsV RL 54 RX4 yX4_greatestRun wsX4_greatestRun) := goodIn_app (goodIn_of _ (by decide +kernel)) ggL_would_X4_greatestRun
set_option maxRecDepth 20000 in
theorem ggL_would_L_low : GoodIn wsL_would wsL_low := goodIn_r _ [135, 136] (by decide +kernel) (by decide +kernel)
set_option maxRecDepth 20000 in
theorem gL_would_L_low : GoodIn wsL_would (va_wsS RL 41 yL_low wsL_low) := goodIn_app (goodIn_of _ (by decide +kernel)) ggL_would_L_low
set_option maxRecDepth 20000 in
theorem ggL_would_X4_bestShift : GoodIn wsL_would wsX4_bestShift := goodIn_r _ [140, 20, 19, 23, 141, 74, 75, 27, 76, 29, 101, 48, 17, 49, 24, 25, 26, 28, 30, 31, 32, 33, 34, 35, 36, 37, 38, 39, 40, 41, 42, 43, 142, 143, 144, 145, 73, 50, 51, 52, 53, 54, 55, 56, 57, 58, 59, 60, 61, 62, 63, 64, 65, 66, 67, 68, 69, 70, 71, 72, 77, 78, 79, 80, 81, 82, 83, 84, 85, 86, 87, 88, 89, 90, 91, 92, 93, 94, 95, 96, 97, 98, 99, 100, 102, 103, 104, 105, 106, 107, 108, 109, 110, 111, 112, 113, 114, 115, 116, 117, 118, 119, 120, 121, 122, 123, 124, 125, 126, 127, 128, 129, 130, 131, 132, 146, 147, 148, 149, 150, 151, 152, 153, 154, 155, 156, 157, 158, 159, 160, 161, 162] (by decide +kernel) (by decide +kernel)
set_option maxRecDepth 20000 in
theorem gL_would_X4_bestShift : GoodIn wsL_would (wsV RL 58 RX4 yX4_bestShift wsX4_bestShift) := goodIn_app (goodIn_of _ (by decide +kernel)) ggL_would_X4_bestShift
theorem dL_would_0 : decode cL_would 0 = .ok (.aload_n 2, 1) := by decide +kernel
theorem dL_would_1 : decode cL_would 1 = .ok (.iconst 0, 1) := by decide +kernel
theorem dL_would_2 : decode cL_would 2 = .ok (.iaload, 1) := by decide +kernel
theorem dL_would_3 : decode cL_would 3 = .ok (.istore 5, 2) := by decide +kernel
theorem dL_would_5 : decode cL_would 5 = .ok (.bipush (-6), 2) := by decide +kernel
theorem dL_would_7 : decode cL_would 7 = .ok (.istore 6, 2) := by decide +kernel
theorem dL_would_9 : decode cL_would 9 = .ok (.iconst 1, 1) := by decide +kernel
theorem dL_would_10 : decode cL_would 10 = .ok (.istore 7, 2) := by decide +kernel
theorem dL_would_12 : decode cL_would 12 = .ok (.iload 7, 2) := by decide +kernel
theorem dL_would_14 : decode cL_would 14 = .ok (.bipush 10, 2) := by decide +kernel
theorem dL_would_16 : decode cL_would 16 = .ok (.if_icmp .ge 33, 3) := by decide +kernel
theorem dL_would_19 : decode cL_would 19 = .ok (.aload_n 2, 1) := by decide +kernel
theorem dL_would_20 : decode cL_would 20 = .ok (.iconst 0, 1) := by decide +kernel
theorem dL_would_21 : decode cL_would 21 = .ok (.iload 7, 2) := by decide +kernel
theorem dL_would_23 : decode cL_would 23 = .ok (.iastore, 1) := by decide +kernel
theorem dL_would_24 : decode cL_would 24 = .ok (.aload_n 2, 1) := by decide +kernel
theorem dL_would_25 : decode cL_would 25 = .ok (.aload_n 3, 1) := by decide +kernel
theorem dL_would_26 : decode cL_would 26 = .ok (.aload 4, 2) := by decide +kernel
theorem dL_would_28 : decode cL_would 28 = .ok (.invokestatic 24, 3) := by decide +kernel
theorem dL_would_31 : decode cL_would 31 = .ok (.ifCond .ne 8, 3) := by decide +kernel
theorem dL_would_34 : decode cL_would 34 = .ok (.iload 7, 2) := by decide +kernel
theorem dL_would_36 : decode cL_would 36 = .ok (.goto 5, 3) := by decide +kernel
theorem dL_would_39 : decode cL_would 39 = .ok (.iload 6, 2) := by decide +kernel
theorem dL_would_41 : decode cL_would 41 = .ok (.istore 6, 2) := by decide +kernel
theorem dL_would_43 : decode cL_would 43 = .ok (.iinc 7 1, 3) := by decide +kernel
theorem dL_would_46 : decode cL_would 46 = .ok (.goto (-34), 3) := by decide +kernel
theorem dL_would_49 : decode cL_would 49 = .ok (.aload_n 2, 1) := by decide +kernel
theorem dL_would_50 : decode cL_would 50 = .ok (.iconst 0, 1) := by decide +kernel
theorem dL_would_51 : decode cL_would 51 = .ok (.iload 5, 2) := by decide +kernel
theorem dL_would_53 : decode cL_would 53 = .ok (.iastore, 1) := by decide +kernel
theorem dL_would_54 : decode cL_would 54 = .ok (.aload_n 0, 1) := by decide +kernel
theorem dL_would_55 : decode cL_would 55 = .ok (.invokevirtual 54, 3) := by decide +kernel
theorem dL_would_58 : decode cL_would 58 = .ok (.iload 6, 2) := by decide +kernel
theorem dL_would_60 : decode cL_would 60 = .ok (.if_icmp .eq 5, 3) := by decide +kernel
theorem dL_would_63 : decode cL_would 63 = .ok (.iconst 0, 1) := by decide +kernel
theorem dL_would_64 : decode cL_would 64 = .ok (.ireturn, 1) := by decide +kernel
theorem dL_would_65 : decode cL_would 65 = .ok (.aload_n 2, 1) := by decide +kernel
theorem dL_would_66 : decode cL_would 66 = .ok (.iconst 4, 1) := by decide +kernel
theorem dL_would_67 : decode cL_would 67 = .ok (.iaload, 1) := by decide +kernel
theorem dL_would_68 : decode cL_would 68 = .ok (.ifCond .ne 5, 3) := by decide +kernel
theorem dL_would_71 : decode cL_would 71 = .ok (.iconst 1, 1) := by decide +kernel
theorem dL_would_72 : decode cL_would 72 = .ok (.ireturn, 1) := by decide +kernel
theorem dL_would_73 : decode cL_would 73 = .ok (.iload_n 1, 1) := by decide +kernel
theorem dL_would_74 : decode cL_would 74 = .ok (.aload_n 2, 1) := by decide +kernel
theorem dL_would_75 : decode cL_would 75 = .ok (.iconst 4, 1) := by decide +kernel
theorem dL_would_76 : decode cL_would 76 = .ok (.iaload, 1) := by decide +kernel
theorem dL_would_77 : decode cL_would 77 = .ok (.invokestatic 41, 3) := by decide +kernel
theorem dL_would_80 : decode cL_would 80 = .ok (.istore 7, 2) := by decide +kernel
theorem dL_would_82 : decode cL_would 82 = .ok (.aload_n 3, 1) := by decide +kernel
theorem dL_would_83 : decode cL_would 83 = .ok (.iconst 5, 1) := by decide +kernel
theorem dL_would_84 : decode cL_would 84 = .ok (.iload 7, 2) := by decide +kernel
theorem dL_would_86 : decode cL_would 86 = .ok (.imul, 1) := by decide +kernel
theorem dL_would_87 : decode cL_would 87 = .ok (.iconst 2, 1) := by decide +kernel
theorem dL_would_88 : decode cL_would 88 = .ok (.iadd, 1) := by decide +kernel
theorem dL_would_89 : decode cL_would 89 = .ok (.iaload, 1) := by decide +kernel
theorem dL_would_90 : decode cL_would 90 = .ok (.istore 8, 2) := by decide +kernel
theorem dL_would_92 : decode cL_would 92 = .ok (.iconst (-1), 1) := by decide +kernel
theorem dL_would_93 : decode cL_would 93 = .ok (.istore 9, 2) := by decide +kernel
theorem dL_would_95 : decode cL_would 95 = .ok (.sipush 999, 3) := by decide +kernel
theorem dL_would_98 : decode cL_would 98 = .ok (.istore 10, 2) := by decide +kernel
theorem dL_would_100 : decode cL_would 100 = .ok (.bipush 12, 2) := by decide +kernel
theorem dL_would_102 : decode cL_would 102 = .ok (.istore 11, 2) := by decide +kernel
theorem dL_would_104 : decode cL_would 104 = .ok (.iload 11, 2) := by decide +kernel
theorem dL_would_106 : decode cL_would 106 = .ok (.ifCond .lt 60, 3) := by decide +kernel
theorem dL_would_109 : decode cL_would 109 = .ok (.aload_n 3, 1) := by decide +kernel
theorem dL_would_110 : decode cL_would 110 = .ok (.iconst 5, 1) := by decide +kernel
theorem dL_would_111 : decode cL_would 111 = .ok (.iload 7, 2) := by decide +kernel
theorem dL_would_113 : decode cL_would 113 = .ok (.imul, 1) := by decide +kernel
theorem dL_would_114 : decode cL_would 114 = .ok (.iconst 2, 1) := by decide +kernel
theorem dL_would_115 : decode cL_would 115 = .ok (.iadd, 1) := by decide +kernel
theorem dL_would_116 : decode cL_would 116 = .ok (.iload 11, 2) := by decide +kernel
theorem dL_would_118 : decode cL_would 118 = .ok (.iastore, 1) := by decide +kernel
theorem dL_would_119 : decode cL_would 119 = .ok (.aload_n 2, 1) := by decide +kernel
theorem dL_would_120 : decode cL_would 120 = .ok (.aload_n 3, 1) := by decide +kernel
theorem dL_would_121 : decode cL_would 121 = .ok (.aload 4, 2) := by decide +kernel
theorem dL_would_123 : decode cL_would 123 = .ok (.invokestatic 24, 3) := by decide +kernel
theorem dL_would_126 : decode cL_would 126 = .ok (.istore 12, 2) := by decide +kernel
theorem dL_would_128 : decode cL_would 128 = .ok (.iload 12, 2) := by decide +kernel
theorem dL_would_130 : decode cL_would 130 = .ok (.iload 10, 2) := by decide +kernel
theorem dL_would_132 : decode cL_would 132 = .ok (.if_icmp .gt 8, 3) := by decide +kernel
theorem dL_would_135 : decode cL_would 135 = .ok (.iload 11, 2) := by decide +kernel
theorem dL_would_137 : decode cL_would 137 = .ok (.goto 5, 3) := by decide +kernel
theorem dL_would_140 : decode cL_would 140 = .ok (.iload 9, 2) := by decide +kernel
theorem dL_would_142 : decode cL_would 142 = .ok (.istore 9, 2) := by decide +kernel
theorem dL_would_144 : decode cL_would 144 = .ok (.iload 12, 2) := by decide +kernel
theorem dL_would_146 : decode cL_would 146 = .ok (.iload 10, 2) := by decide +kernel
theorem dL_would_148 : decode cL_would 148 = .ok (.if_icmp .gt 8, 3) := by decide +kernel
theorem dL_would_151 : decode cL_would 151 = .ok (.iload 12, 2) := by decide +kernel
theorem dL_would_153 : decode cL_would 153 = .ok (.goto 5, 3) := by decide +kernel
theorem dL_would_156 : decode cL_would 156 = .ok (.iload 10, 2) := by decide +kernel
theorem dL_would_158 : decode cL_would 158 = .ok (.istore 10, 2) := by decide +kernel
theorem dL_would_160 : decode cL_would 160 = .ok (.iinc 11 (-1), 3) := by decide +kernel
theorem dL_would_163 : decode cL_would 163 = .ok (.goto (-59), 3) := by decide +kernel
theorem dL_would_166 : decode cL_would 166 = .ok (.aload_n 3, 1) := by decide +kernel
theorem dL_would_167 : decode cL_would 167 = .ok (.iconst 5, 1) := by decide +kernel
theorem dL_would_168 : decode cL_would 168 = .ok (.iload 7, 2) := by decide +kernel
theorem dL_would_170 : decode cL_would 170 = .ok (.imul, 1) := by decide +kernel
theorem dL_would_171 : decode cL_would 171 = .ok (.iconst 2, 1) := by decide +kernel
theorem dL_would_172 : decode cL_would 172 = .ok (.iadd, 1) := by decide +kernel
theorem dL_would_173 : decode cL_would 173 = .ok (.iload 8, 2) := by decide +kernel
theorem dL_would_175 : decode cL_would 175 = .ok (.iastore, 1) := by decide +kernel
theorem dL_would_176 : decode cL_would 176 = .ok (.aload_n 0, 1) := by decide +kernel
theorem dL_would_177 : decode cL_would 177 = .ok (.iload 7, 2) := by decide +kernel
theorem dL_would_179 : decode cL_would 179 = .ok (.iconst 0, 1) := by decide +kernel
theorem dL_would_180 : decode cL_would 180 = .ok (.invokevirtual 58, 3) := by decide +kernel
theorem dL_would_183 : decode cL_would 183 = .ok (.iload 9, 2) := by decide +kernel
theorem dL_would_185 : decode cL_would 185 = .ok (.if_icmp .ne 19, 3) := by decide +kernel
theorem dL_would_188 : decode cL_would 188 = .ok (.aload_n 0, 1) := by decide +kernel
theorem dL_would_189 : decode cL_would 189 = .ok (.iload 7, 2) := by decide +kernel
theorem dL_would_191 : decode cL_would 191 = .ok (.iconst 1, 1) := by decide +kernel
theorem dL_would_192 : decode cL_would 192 = .ok (.invokevirtual 58, 3) := by decide +kernel
theorem dL_would_195 : decode cL_would 195 = .ok (.iload 10, 2) := by decide +kernel
theorem dL_would_197 : decode cL_would 197 = .ok (.if_icmp .ne 7, 3) := by decide +kernel
theorem dL_would_200 : decode cL_would 200 = .ok (.iconst 1, 1) := by decide +kernel
theorem dL_would_201 : decode cL_would 201 = .ok (.goto 4, 3) := by decide +kernel
theorem dL_would_204 : decode cL_would 204 = .ok (.iconst 0, 1) := by decide +kernel
theorem dL_would_205 : decode cL_would 205 = .ok (.ireturn, 1) := by decide +kernel
set_option maxRecDepth 20000 in
theorem ggL_law_X4_init : GoodIn wsL_law wsX4_init := goodIn_r _ [6, 7, 8, 9, 10, 11, 12, 13, 14, 15, 16, 17, 18, 19, 20, 21, 22, 23, 24, 25, 26, 27, 28, 29, 30, 31, 32, 33, 3, 34, 35, 36, 37, 38, 39, 40, 41, 42, 43, 44, 45, 46, 47, 48, 49, 50, 51, 52, 53, 54, 55, 56, 57, 58, 59, 60, 61, 62, 63, 64, 452, 453, 454, 455, 456, 457, 458, 445, 446, 447, 448, 449, 450, 451, 459, 460, 461, 462, 463, 464, 465, 466, 467, 468, 469, 470, 471, 472] (by decide +kernel) (by decide +kernel)
set_option maxRecDepth 20000 in
theorem gL_law_X4_init : GoodIn wsL_law (wsX4_init) := ggL_law_X4_init
set_option maxRecDepth 20000 in
theorem ggL_law_L_cell : GoodIn wsL_law wsL_cell := goodIn_r _ [68, 69, 70] (by decide +kernel) (by decide +kernel)
set_option maxRecDepth 20000 in
theorem gL_law_L_cell : GoodIn wsL_law (va_wsS RL 62 yL_cell wsL_cell) := goodIn_app (goodIn_of _ (by decide +kernel)) ggL_law_L_cell
set_option maxRecDepth 20000 in
theorem ggL_law_L_low : GoodIn wsL_law wsL_low := goodIn_r _ [73, 74] (by decide +kernel) (by decide +kernel)
set_option maxRecDepth 20000 in
theorem gL_law_L_low : GoodIn wsL_law (va_wsS RL 41 yL_low wsL_low) := goodIn_app (goodIn_of _ (by decide +kernel)) ggL_law_L_low
set_option maxRecDepth 20000 in
theorem ggL_law_L_taken : GoodIn wsL_law wsL_taken := goodIn_r _ [77] (by decide +kernel) (by decide +kernel)
set_option maxRecDepth 20000 in
theorem gL_law_L_taken : GoodIn wsL_law (va_wsS RL 66 yL_taken wsL_taken) := goodIn_app (goodIn_of _ (by decide +kernel)) ggL_law_L_taken
set_option maxRecDepth 20000 in
theorem ggL_law_X4_note : GoodIn wsL_law wsX4_note := goodIn_r _ [81, 13, 26, 82, 83, 2, 84, 85, 86, 87, 88, 89, 90, 91, 92, 93, 12, 94, 95, 96, 97, 98, 99, 100, 101, 102, 103, 104, 105, 106, 107, 35, 108, 109, 110, 111, 112, 113, 114, 115, 36, 116, 117, 118, 119, 37, 120, 121, 122, 25, 123, 63, 124, 125, 126, 127, 128, 129, 130, 131, 132, 133, 134, 135, 136, 137, 38, 39, 138, 139, 140, 141, 34, 40, 41, 42, 43, 142, 143, 144, 145, 146, 147, 148, 149, 150, 151, 152, 153, 445, 446, 447, 448, 449, 450, 451, 452, 453, 454, 455, 456, 457, 458, 470, 471, 472] (by decide +kernel) (by decide +kernel)
set_option maxRecDepth 20000 in
theorem gL_law_X4_note : GoodIn wsL_law (wsV RL 70 RX4 yX4_note wsX4_note) := goodIn_app (goodIn_of _ (by decide +kernel)) ggL_law_X4_note
set_option maxRecDepth 20000 in
theorem ggL_law_L_add : GoodIn wsL_law wsL_add := goodIn_r _ [156] (by decide +kernel) (by decide +kernel)
set_option maxRecDepth 20000 in
theorem gL_law_L_add : GoodIn wsL_law (va_wsS RL 73 yL_add wsL_add) := goodIn_app (goodIn_of _ (by decide +kernel)) ggL_law_L_add
set_option maxRecDepth 20000 in
theorem ggL_law_L_sort : GoodIn wsL_law wsL_sort := goodIn_r _ [159] (by decide +kernel) (by decide +kernel)
set_option maxRecDepth 20000 in
theorem gL_law_L_sort : GoodIn wsL_law (va_wsS RL 77 yL_sort wsL_sort) := goodIn_app (goodIn_of _ (by decide +kernel)) ggL_law_L_sort
set_option maxRecDepth 20000 in
theorem ggL_law_X4_drop : GoodIn wsL_law wsX4_drop := goodIn_r _ [163, 13, 26, 164, 109, 110, 12, 111, 95, 120, 121, 122, 25, 123, 63, 124, 125, 126, 127, 128, 129, 130, 131, 132, 133, 134, 135, 136, 137, 35, 36, 37, 38, 39, 138, 139, 140, 141, 34, 40, 41, 42, 43, 165, 166, 167, 168, 108, 150, 151, 152, 153, 86, 2, 87, 91, 92, 93, 94, 445, 446, 447, 448, 449, 450, 451, 452, 453, 454, 455, 456, 457, 458, 470, 471, 472] (by decide +kernel) (by decide +kernel)
set_option maxRecDepth 20000 in
theorem gL_law_X4_drop : GoodIn wsL_law (wsV RL 81 RX4 yX4_drop wsX4_drop) := goodIn_app (goodIn_of _ (by decide +kernel)) ggL_law_X4_drop
set_option maxRecDepth 20000 in
theorem ggL_law_X4_shift : GoodIn wsL_law wsX4_shift := goodIn_r _ [172, 13, 26, 164, 109, 110, 12, 111, 95, 85, 86, 2, 87, 173, 174, 175, 176, 38, 108, 120, 121, 122, 25, 123, 63, 124, 125, 126, 127, 128, 129, 130, 131, 132, 133, 134, 135, 136, 137, 35, 36, 37, 39, 138, 139, 140, 141, 34, 40, 41, 42, 43, 177, 178, 179, 180, 445, 446, 447, 448, 449, 450, 451, 452, 453, 454, 455, 456, 457, 458, 470, 471, 472] (by decide +kernel) (by decide +kernel)
set_option maxRecDepth 20000 in
theorem gL_law_X4_shift : GoodIn wsL_law (wsV RL 84 RX4 yX4_shift wsX4_shift) := goodIn_app (goodIn_of _ (by decide +kernel)) ggL_law_X4_shift
set_option maxRecDepth 20000 in
theorem ggL_law_X4_accent : GoodIn wsL_law wsX4_accent := goodIn_r _ [184, 13, 26, 164, 109, 110, 12, 111, 95, 185, 186, 187, 188, 39, 108, 120, 121, 122, 25, 123, 63, 124, 125, 126, 127, 128, 129, 130, 131, 132, 133, 134, 135, 136, 137, 35, 36, 37, 38, 138, 139, 140, 141, 34, 40, 41, 42, 43, 189, 190, 191, 192, 193, 194, 2, 195, 445, 446, 447, 448, 449, 450, 451, 452, 453, 454, 455, 456, 457, 458, 470, 471, 472] (by decide +kernel) (by decide +kernel)
set_option maxRecDepth 20000 in
theorem gL_law_X4_accent : GoodIn wsL_law (wsV RL 87 RX4 yX4_accent wsX4_accent) := goodIn_app (goodIn_of _ (by decide +kernel)) ggL_law_X4_accent
set_option maxRecDepth 20000 in
theorem ggL_law_X4_insert : GoodIn wsL_law wsX4_insert := goodIn_r _ [199, 13, 26, 88, 89, 2, 90, 85, 86, 87, 200, 201, 202, 12, 203, 95, 204, 205, 206, 207, 116, 117, 118, 119, 37, 108, 109, 110, 111, 120, 121, 122, 25, 123, 63, 124, 125, 126, 127, 128, 129, 130, 131, 132, 133, 134, 135, 136, 137, 35, 36, 38, 39, 138, 139, 140, 141, 34, 40, 41, 42, 43, 208, 209, 210, 211, 445, 446, 447, 448, 449, 450, 451, 452, 453, 454, 455, 456, 457, 458, 470, 471, 472] (by decide +kernel) (by decide +kernel)
set_option maxRecDepth 20000 in
theorem gL_law_X4_insert : GoodIn wsL_law (wsV RL 91 RX4 yX4_insert wsX4_insert) := goodIn_app (goodIn_of _ (by decide +kernel)) ggL_law_X4_insert
set_option maxRecDepth 20000 in
theorem ggL_law_X4_cut : GoodIn wsL_law wsX4_cut := goodIn_r _ [215, 13, 26, 14, 88, 89, 2, 90, 85, 86, 87, 91, 92, 93, 12, 94, 95, 120, 121, 122, 25, 123, 63, 124, 125, 126, 127, 128, 129, 130, 131, 132, 133, 134, 135, 136, 137, 35, 36, 37, 38, 39, 138, 139, 140, 141, 34, 40, 41, 42, 43, 216, 217, 218, 219, 220, 204, 205, 206, 207, 221, 222, 223, 224, 112, 113, 114, 115, 108, 109, 110, 111, 116, 117, 118, 119, 104, 105, 106, 107, 225, 174, 175, 176, 226, 186, 187, 188, 227, 143, 144, 145, 146, 147, 148, 149, 150, 151, 152, 153, 228, 445, 446, 447, 448, 449, 450, 451, 452, 453, 454, 455, 456, 457, 458, 470, 471, 472] (by decide +kernel) (by decide +kernel)
set_option maxRecDepth 20000 in
theorem gL_law_X4_cut : GoodIn wsL_law (wsV RL 94 RX4 yX4_cut wsX4_cut) := goodIn_app (goodIn_of _ (by decide +kernel)) ggL_law_X4_cut
set_option maxRecDepth 20000 in
theorem ggL_law_X4_copy : GoodIn wsL_law wsX4_copy := goodIn_r _ [232, 13, 26, 14, 233, 234, 2, 235, 88, 89, 90, 85, 86, 87, 236, 237, 238, 12, 239, 95, 240, 241, 242, 243, 108, 109, 110, 111, 112, 113, 114, 115, 36, 116, 117, 118, 119, 37, 91, 92, 93, 94, 244, 245, 246, 247, 248, 249, 250, 251, 105, 106, 107, 35, 96, 97, 98, 99, 100, 101, 102, 103, 104, 120, 121, 122, 25, 123, 63, 124, 125, 126, 127, 128, 129, 130, 131, 132, 133, 134, 135, 136, 137, 38, 39, 138, 139, 140, 141, 34, 40, 41, 42, 43, 228, 252, 253, 254, 255, 224, 225, 174, 175, 176, 226, 186, 187, 188, 227, 143, 144, 145, 146, 147, 148, 149, 150, 151, 152, 153, 445, 446, 447, 448, 449, 450, 451, 452, 453, 454, 455, 456, 457, 458, 470, 471, 472] (by decide +kernel) (by decide +kernel)
set_option maxRecDepth 20000 in
theorem gL_law_X4_copy : GoodIn wsL_law (wsV RL 97 RX4 yX4_copy wsX4_copy) := goodIn_app (goodIn_of _ (by decide +kernel)) ggL_law_X4_copy
set_option maxRecDepth 20000 in
theorem ggL_law_X4_set : GoodIn wsL_law wsX4_set := goodIn_r _ [259, 260, 261, 13, 26, 85, 86, 2, 87, 262, 263, 264, 12, 265, 34, 120, 121, 122, 25, 123, 63, 124, 125, 126, 127, 128, 129, 130, 131, 132, 133, 134, 135, 136, 137, 95, 35, 36, 37, 38, 39, 138, 139, 140, 141, 40, 41, 42, 43, 266, 267, 268, 269, 445, 446, 447, 448, 449, 450, 451, 452, 453, 454, 455, 456, 457, 458, 470, 471, 472] (by decide +kernel) (by decide +kernel)
set_option maxRecDepth 20000 in
theorem gL_law_X4_set : GoodIn wsL_law (wsV RL 100 RX4 yX4_set wsX4_set) := goodIn_app (goodIn_of _ (by decide +kernel)) ggL_law_X4_set
set_option maxRecDepth 20000 in
theorem jin_w_same : Cond.code yL_same cL_same 20 (some .boolean) ∈ wsL_law := List.mem_of_getElem? (i := 272) rfl
set_option maxRecDepth 20000 in
theorem ggL_law_L_same_t : GoodIn wsL_law wsL_same.tail := goodIn_r _ [273, 274, 67, 275, 276, 277, 278, 279, 280, 281, 282, 283, 284, 285, 286, 287, 288, 289, 290, 2, 291, 18, 13, 88, 89, 90, 85, 86, 87, 292, 293, 294, 17, 295, 296, 47, 297, 263, 264, 12, 265, 34, 298, 299, 300, 301, 302, 92, 93, 94, 95, 303, 105, 106, 107, 35, 108, 109, 110, 111, 304, 113, 114, 115, 36, 305, 117, 118, 119, 37, 306, 307, 308, 309, 112, 116, 225, 174, 175, 176, 38, 310, 311, 312, 313, 83, 84, 314, 186, 187, 188, 39, 315, 316, 317, 318, 319, 205, 206, 207, 48, 320, 321, 322, 323, 324, 325, 326, 327, 328, 329, 330, 331, 332, 104, 333, 334, 335, 336, 337, 338, 339, 340, 341, 193, 194, 195, 342, 343, 344, 345, 164, 251, 249, 250, 173, 185, 346, 347, 348, 349, 350, 351, 352, 353, 354, 204, 355, 356, 357, 358, 359, 360, 361, 362, 363, 71, 72, 73, 74, 364, 365, 366, 367, 82, 368, 369, 370, 371, 372, 373, 374, 375, 376, 377, 378, 379, 380, 381, 101, 102, 103, 382, 383, 384, 385, 91, 386, 387, 388, 389, 22, 26, 390, 391, 392, 393, 394, 395, 396, 397, 398, 399, 400, 401, 402, 403, 404, 405, 406, 407, 408, 409, 410, 411, 412, 413, 414, 415, 416, 417, 418, 419, 420, 421, 422, 423, 424, 200, 201, 202, 203, 262, 425, 426, 427, 21, 428, 429, 430, 431, 432, 25, 433, 124, 445, 446, 447, 448, 449, 450, 451, 459, 460, 461, 452, 453, 454, 455, 456, 457, 458, 462, 463, 464, 465, 466, 467, 468, 469, 470, 471, 472] (by decide +kernel) (by decide +kernel)
theorem ggL_law_L_same : GoodIn wsL_law wsL_same := fun w h => ((List.mem_cons (a := w) (b := Cond.code yL_same cL_same 20 (some .boolean)) (l := wsL_same.tail)).mp h).elim (fun e => e ▸ ⟨jin_w_same, Or.inl rfl⟩) (ggL_law_L_same_t w)
set_option maxRecDepth 20000 in
theorem gL_law_L_same : GoodIn wsL_law (va_wsS RL 103 yL_same wsL_same) := goodIn_app (goodIn_of _ (by decide +kernel)) ggL_law_L_same
set_option maxRecDepth 20000 in
theorem ggL_law_L_would : GoodIn wsL_law wsL_would := goodIn_r _ [436, 273, 274, 67, 275, 276, 277, 278, 279, 280, 281, 282, 283, 284, 437, 438, 439, 2, 440, 14, 13, 261, 260, 18, 228, 135, 136, 12, 137, 95, 35, 36, 37, 38, 39, 138, 139, 140, 141, 34, 40, 41, 42, 43, 266, 267, 268, 269, 86, 87, 292, 293, 294, 17, 295, 296, 47, 297, 263, 264, 265, 298, 299, 300, 301, 302, 92, 93, 94, 303, 105, 106, 107, 108, 109, 110, 111, 304, 113, 114, 115, 305, 117, 118, 119, 306, 307, 308, 309, 112, 116, 225, 174, 175, 176, 310, 311, 312, 313, 83, 84, 85, 89, 90, 314, 186, 187, 188, 315, 316, 317, 318, 319, 205, 206, 207, 48, 320, 321, 322, 323, 401, 402, 403, 404, 405, 338, 339, 340, 341, 334, 335, 336, 71, 72, 73, 74, 441, 442, 443, 444, 164, 177, 178, 179, 180, 445, 446, 447, 448, 449, 450, 451, 452, 453, 454, 455, 456, 457, 458, 459, 460, 461] (by decide +kernel) (by decide +kernel)
set_option maxRecDepth 20000 in
theorem gL_law_L_would : GoodIn wsL_law (va_wsS RL 107 yL_would wsL_would) := goodIn_app (goodIn_of _ (by decide +kernel)) ggL_law_L_would
theorem dL_law_0 : decode cL_law 0 = .ok (.new 33, 3) := by decide +kernel
theorem dL_law_3 : decode cL_law 3 = .ok (.dup, 1) := by decide +kernel
theorem dL_law_4 : decode cL_law 4 = .ok (.invokespecial 61, 3) := by decide +kernel
theorem dL_law_7 : decode cL_law 7 = .ok (.astore_n 1, 1) := by decide +kernel
theorem dL_law_8 : decode cL_law 8 = .ok (.iconst 5, 1) := by decide +kernel
theorem dL_law_9 : decode cL_law 9 = .ok (.newarray .int, 2) := by decide +kernel
theorem dL_law_11 : decode cL_law 11 = .ok (.astore_n 2, 1) := by decide +kernel
theorem dL_law_12 : decode cL_law 12 = .ok (.bipush 64, 2) := by decide +kernel
theorem dL_law_14 : decode cL_law 14 = .ok (.newarray .int, 2) := by decide +kernel
theorem dL_law_16 : decode cL_law 16 = .ok (.astore_n 3, 1) := by decide +kernel
theorem dL_law_17 : decode cL_law 17 = .ok (.bipush 64, 2) := by decide +kernel
theorem dL_law_19 : decode cL_law 19 = .ok (.newarray .int, 2) := by decide +kernel
theorem dL_law_21 : decode cL_law 21 = .ok (.astore 4, 2) := by decide +kernel
theorem dL_law_23 : decode cL_law 23 = .ok (.aload_n 2, 1) := by decide +kernel
theorem dL_law_24 : decode cL_law 24 = .ok (.iconst 0, 1) := by decide +kernel
theorem dL_law_25 : decode cL_law 25 = .ok (.iconst 3, 1) := by decide +kernel
theorem dL_law_26 : decode cL_law 26 = .ok (.iastore, 1) := by decide +kernel
theorem dL_law_27 : decode cL_law 27 = .ok (.aload_n 2, 1) := by decide +kernel
theorem dL_law_28 : decode cL_law 28 = .ok (.iconst 1, 1) := by decide +kernel
theorem dL_law_29 : decode cL_law 29 = .ok (.iconst 1, 1) := by decide +kernel
theorem dL_law_30 : decode cL_law 30 = .ok (.iastore, 1) := by decide +kernel
theorem dL_law_31 : decode cL_law 31 = .ok (.aload_n 2, 1) := by decide +kernel
theorem dL_law_32 : decode cL_law 32 = .ok (.iconst 2, 1) := by decide +kernel
theorem dL_law_33 : decode cL_law 33 = .ok (.iconst 1, 1) := by decide +kernel
theorem dL_law_34 : decode cL_law 34 = .ok (.iastore, 1) := by decide +kernel
theorem dL_law_35 : decode cL_law 35 = .ok (.aload_n 2, 1) := by decide +kernel
theorem dL_law_36 : decode cL_law 36 = .ok (.iconst 3, 1) := by decide +kernel
theorem dL_law_37 : decode cL_law 37 = .ok (.iconst 4, 1) := by decide +kernel
theorem dL_law_38 : decode cL_law 38 = .ok (.iastore, 1) := by decide +kernel
theorem dL_law_39 : decode cL_law 39 = .ok (.iconst 0, 1) := by decide +kernel
theorem dL_law_40 : decode cL_law 40 = .ok (.istore 5, 2) := by decide +kernel
theorem dL_law_42 : decode cL_law 42 = .ok (.iload 5, 2) := by decide +kernel
theorem dL_law_44 : decode cL_law 44 = .ok (.bipush 28, 2) := by decide +kernel
theorem dL_law_46 : decode cL_law 46 = .ok (.if_icmp .ge 1394, 3) := by decide +kernel
theorem dL_law_49 : decode cL_law 49 = .ok (.aload_n 0, 1) := by decide +kernel
theorem dL_law_50 : decode cL_law 50 = .ok (.iload 5, 2) := by decide +kernel
theorem dL_law_52 : decode cL_law 52 = .ok (.invokestatic 62, 3) := by decide +kernel
theorem dL_law_55 : decode cL_law 55 = .ok (.istore 6, 2) := by decide +kernel
theorem dL_law_57 : decode cL_law 57 = .ok (.iload 5, 2) := by decide +kernel
theorem dL_law_59 : decode cL_law 59 = .ok (.iconst 4, 1) := by decide +kernel
theorem dL_law_60 : decode cL_law 60 = .ok (.if_icmp .ge 7, 3) := by decide +kernel
theorem dL_law_63 : decode cL_law 63 = .ok (.iconst 0, 1) := by decide +kernel
theorem dL_law_64 : decode cL_law 64 = .ok (.goto 10, 3) := by decide +kernel
theorem dL_law_67 : decode cL_law 67 = .ok (.iload 6, 2) := by decide +kernel
theorem dL_law_69 : decode cL_law 69 = .ok (.bipush 11, 2) := by decide +kernel
theorem dL_law_71 : decode cL_law 71 = .ok (.invokestatic 41, 3) := by decide +kernel
theorem dL_law_74 : decode cL_law 74 = .ok (.istore 7, 2) := by decide +kernel
theorem dL_law_76 : decode cL_law 76 = .ok (.aload_n 2, 1) := by decide +kernel
theorem dL_law_77 : decode cL_law 77 = .ok (.iconst 4, 1) := by decide +kernel
theorem dL_law_78 : decode cL_law 78 = .ok (.iaload, 1) := by decide +kernel
theorem dL_law_79 : decode cL_law 79 = .ok (.ifCond .ne 7, 3) := by decide +kernel
theorem dL_law_82 : decode cL_law 82 = .ok (.iconst 0, 1) := by decide +kernel
theorem dL_law_83 : decode cL_law 83 = .ok (.goto 13, 3) := by decide +kernel
theorem dL_law_86 : decode cL_law 86 = .ok (.iload 6, 2) := by decide +kernel
theorem dL_law_88 : decode cL_law 88 = .ok (.iconst 4, 1) := by decide +kernel
theorem dL_law_89 : decode cL_law 89 = .ok (.ishr, 1) := by decide +kernel
theorem dL_law_90 : decode cL_law 90 = .ok (.aload_n 2, 1) := by decide +kernel
theorem dL_law_91 : decode cL_law 91 = .ok (.iconst 4, 1) := by decide +kernel
theorem dL_law_92 : decode cL_law 92 = .ok (.iaload, 1) := by decide +kernel
theorem dL_law_93 : decode cL_law 93 = .ok (.invokestatic 41, 3) := by decide +kernel
theorem dL_law_96 : decode cL_law 96 = .ok (.istore 8, 2) := by decide +kernel
theorem dL_law_98 : decode cL_law 98 = .ok (.iload 6, 2) := by decide +kernel
theorem dL_law_100 : decode cL_law 100 = .ok (.bipush 6, 2) := by decide +kernel
theorem dL_law_102 : decode cL_law 102 = .ok (.ishr, 1) := by decide +kernel
theorem dL_law_103 : decode cL_law 103 = .ok (.bipush 60, 2) := by decide +kernel
theorem dL_law_105 : decode cL_law 105 = .ok (.invokestatic 41, 3) := by decide +kernel
theorem dL_law_108 : decode cL_law 108 = .ok (.istore 9, 2) := by decide +kernel
theorem dL_law_110 : decode cL_law 110 = .ok (.iload 7, 2) := by decide +kernel
theorem dL_law_112 : decode cL_law 112 = .ok (.iconst 4, 1) := by decide +kernel
theorem dL_law_113 : decode cL_law 113 = .ok (.if_icmp .ge 200, 3) := by decide +kernel
theorem dL_law_116 : decode cL_law 116 = .ok (.iconst 0, 1) := by decide +kernel
theorem dL_law_117 : decode cL_law 117 = .ok (.istore 10, 2) := by decide +kernel
theorem dL_law_119 : decode cL_law 119 = .ok (.iload 10, 2) := by decide +kernel
theorem dL_law_121 : decode cL_law 121 = .ok (.iconst 2, 1) := by decide +kernel
theorem dL_law_122 : decode cL_law 122 = .ok (.if_icmp .ge 188, 3) := by decide +kernel
theorem dL_law_125 : decode cL_law 125 = .ok (.aload_n 2, 1) := by decide +kernel
theorem dL_law_126 : decode cL_law 126 = .ok (.iconst 4, 1) := by decide +kernel
theorem dL_law_127 : decode cL_law 127 = .ok (.iaload, 1) := by decide +kernel
theorem dL_law_128 : decode cL_law 128 = .ok (.bipush 12, 2) := by decide +kernel
theorem dL_law_130 : decode cL_law 130 = .ok (.if_icmp .ge 180, 3) := by decide +kernel
theorem dL_law_133 : decode cL_law 133 = .ok (.iload 6, 2) := by decide +kernel
theorem dL_law_135 : decode cL_law 135 = .ok (.iconst 4, 1) := by decide +kernel
theorem dL_law_136 : decode cL_law 136 = .ok (.iconst 3, 1) := by decide +kernel
theorem dL_law_137 : decode cL_law 137 = .ok (.iload 10, 2) := by decide +kernel
theorem dL_law_139 : decode cL_law 139 = .ok (.imul, 1) := by decide +kernel
theorem dL_law_140 : decode cL_law 140 = .ok (.iadd, 1) := by decide +kernel
theorem dL_law_141 : decode cL_law 141 = .ok (.ishr, 1) := by decide +kernel
theorem dL_law_142 : decode cL_law 142 = .ok (.bipush 12, 2) := by decide +kernel
theorem dL_law_144 : decode cL_law 144 = .ok (.invokestatic 41, 3) := by decide +kernel
theorem dL_law_147 : decode cL_law 147 = .ok (.istore 11, 2) := by decide +kernel
theorem dL_law_149 : decode cL_law 149 = .ok (.iload 6, 2) := by decide +kernel
theorem dL_law_151 : decode cL_law 151 = .ok (.bipush 7, 2) := by decide +kernel
theorem dL_law_153 : decode cL_law 153 = .ok (.iconst 3, 1) := by decide +kernel
theorem dL_law_154 : decode cL_law 154 = .ok (.iload 10, 2) := by decide +kernel
theorem dL_law_156 : decode cL_law 156 = .ok (.imul, 1) := by decide +kernel
theorem dL_law_157 : decode cL_law 157 = .ok (.iadd, 1) := by decide +kernel
theorem dL_law_158 : decode cL_law 158 = .ok (.ishr, 1) := by decide +kernel
theorem dL_law_159 : decode cL_law 159 = .ok (.bipush 44, 2) := by decide +kernel
theorem dL_law_161 : decode cL_law 161 = .ok (.invokestatic 41, 3) := by decide +kernel
theorem dL_law_164 : decode cL_law 164 = .ok (.istore 12, 2) := by decide +kernel
theorem dL_law_166 : decode cL_law 166 = .ok (.iload 12, 2) := by decide +kernel
theorem dL_law_168 : decode cL_law 168 = .ok (.iload 6, 2) := by decide +kernel
theorem dL_law_170 : decode cL_law 170 = .ok (.bipush 9, 2) := by decide +kernel
theorem dL_law_172 : decode cL_law 172 = .ok (.iconst 3, 1) := by decide +kernel
theorem dL_law_173 : decode cL_law 173 = .ok (.iload 10, 2) := by decide +kernel
theorem dL_law_175 : decode cL_law 175 = .ok (.imul, 1) := by decide +kernel
theorem dL_law_176 : decode cL_law 176 = .ok (.iadd, 1) := by decide +kernel
theorem dL_law_177 : decode cL_law 177 = .ok (.ishr, 1) := by decide +kernel
theorem dL_law_178 : decode cL_law 178 = .ok (.bipush 12, 2) := by decide +kernel
theorem dL_law_180 : decode cL_law 180 = .ok (.invokestatic 41, 3) := by decide +kernel
theorem dL_law_183 : decode cL_law 183 = .ok (.iadd, 1) := by decide +kernel
theorem dL_law_184 : decode cL_law 184 = .ok (.istore 13, 2) := by decide +kernel
theorem dL_law_186 : decode cL_law 186 = .ok (.iload 11, 2) := by decide +kernel
theorem dL_law_188 : decode cL_law 188 = .ok (.iload 12, 2) := by decide +kernel
theorem dL_law_190 : decode cL_law 190 = .ok (.iload 13, 2) := by decide +kernel
theorem dL_law_192 : decode cL_law 192 = .ok (.aload_n 2, 1) := by decide +kernel
theorem dL_law_193 : decode cL_law 193 = .ok (.aload_n 3, 1) := by decide +kernel
theorem dL_law_194 : decode cL_law 194 = .ok (.invokestatic 66, 3) := by decide +kernel
theorem dL_law_197 : decode cL_law 197 = .ok (.ifCond .ne 7, 3) := by decide +kernel
theorem dL_law_200 : decode cL_law 200 = .ok (.iconst 1, 1) := by decide +kernel
theorem dL_law_201 : decode cL_law 201 = .ok (.goto 4, 3) := by decide +kernel
theorem dL_law_204 : decode cL_law 204 = .ok (.iconst 0, 1) := by decide +kernel
theorem dL_law_205 : decode cL_law 205 = .ok (.istore 14, 2) := by decide +kernel
theorem dL_law_207 : decode cL_law 207 = .ok (.iconst 0, 1) := by decide +kernel
theorem dL_law_208 : decode cL_law 208 = .ok (.istore 15, 2) := by decide +kernel
theorem dL_law_210 : decode cL_law 210 = .ok (.iconst 0, 1) := by decide +kernel
theorem dL_law_211 : decode cL_law 211 = .ok (.istore 16, 2) := by decide +kernel
theorem dL_law_213 : decode cL_law 213 = .ok (.iload 16, 2) := by decide +kernel
theorem dL_law_215 : decode cL_law 215 = .ok (.aload_n 2, 1) := by decide +kernel
theorem dL_law_216 : decode cL_law 216 = .ok (.iconst 4, 1) := by decide +kernel
theorem dL_law_217 : decode cL_law 217 = .ok (.iaload, 1) := by decide +kernel
theorem dL_law_218 : decode cL_law 218 = .ok (.if_icmp .ge 36, 3) := by decide +kernel
theorem dL_law_221 : decode cL_law 221 = .ok (.iload 15, 2) := by decide +kernel
theorem dL_law_223 : decode cL_law 223 = .ok (.aload_n 3, 1) := by decide +kernel
theorem dL_law_224 : decode cL_law 224 = .ok (.iconst 5, 1) := by decide +kernel
theorem dL_law_225 : decode cL_law 225 = .ok (.iload 16, 2) := by decide +kernel
theorem dL_law_227 : decode cL_law 227 = .ok (.imul, 1) := by decide +kernel
theorem dL_law_228 : decode cL_law 228 = .ok (.iaload, 1) := by decide +kernel
theorem dL_law_229 : decode cL_law 229 = .ok (.bipush 100, 2) := by decide +kernel
theorem dL_law_231 : decode cL_law 231 = .ok (.iload 12, 2) := by decide +kernel
theorem dL_law_233 : decode cL_law 233 = .ok (.imul, 1) := by decide +kernel
theorem dL_law_234 : decode cL_law 234 = .ok (.iload 11, 2) := by decide +kernel
theorem dL_law_236 : decode cL_law 236 = .ok (.iadd, 1) := by decide +kernel
theorem dL_law_237 : decode cL_law 237 = .ok (.if_icmp .ge 7, 3) := by decide +kernel
theorem dL_law_240 : decode cL_law 240 = .ok (.iconst 1, 1) := by decide +kernel
theorem dL_law_241 : decode cL_law 241 = .ok (.goto 4, 3) := by decide +kernel
theorem dL_law_244 : decode cL_law 244 = .ok (.iconst 0, 1) := by decide +kernel
theorem dL_law_245 : decode cL_law 245 = .ok (.iadd, 1) := by decide +kernel
theorem dL_law_246 : decode cL_law 246 = .ok (.istore 15, 2) := by decide +kernel
theorem dL_law_248 : decode cL_law 248 = .ok (.iinc 16 1, 3) := by decide +kernel
theorem dL_law_251 : decode cL_law 251 = .ok (.goto (-38), 3) := by decide +kernel
theorem dL_law_254 : decode cL_law 254 = .ok (.aload_n 1, 1) := by decide +kernel
theorem dL_law_255 : decode cL_law 255 = .ok (.iload 11, 2) := by decide +kernel
theorem dL_law_257 : decode cL_law 257 = .ok (.iload 12, 2) := by decide +kernel
theorem dL_law_259 : decode cL_law 259 = .ok (.iload 13, 2) := by decide +kernel
theorem dL_law_261 : decode cL_law 261 = .ok (.invokevirtual 70, 3) := by decide +kernel
theorem dL_law_264 : decode cL_law 264 = .ok (.iload 14, 2) := by decide +kernel
theorem dL_law_266 : decode cL_law 266 = .ok (.ifCond .eq 8, 3) := by decide +kernel
theorem dL_law_269 : decode cL_law 269 = .ok (.iload 15, 2) := by decide +kernel
theorem dL_law_271 : decode cL_law 271 = .ok (.goto 5, 3) := by decide +kernel
theorem dL_law_274 : decode cL_law 274 = .ok (.bipush (-5), 2) := by decide +kernel
theorem dL_law_276 : decode cL_law 276 = .ok (.if_icmp .eq 5, 3) := by decide +kernel
theorem dL_law_279 : decode cL_law 279 = .ok (.iconst 0, 1) := by decide +kernel
theorem dL_law_280 : decode cL_law 280 = .ok (.ireturn, 1) := by decide +kernel
theorem dL_law_281 : decode cL_law 281 = .ok (.iload 14, 2) := by decide +kernel
theorem dL_law_283 : decode cL_law 283 = .ok (.ifCond .eq 16, 3) := by decide +kernel
theorem dL_law_286 : decode cL_law 286 = .ok (.iload 11, 2) := by decide +kernel
theorem dL_law_288 : decode cL_law 288 = .ok (.iload 12, 2) := by decide +kernel
theorem dL_law_290 : decode cL_law 290 = .ok (.iload 13, 2) := by decide +kernel
theorem dL_law_292 : decode cL_law 292 = .ok (.iconst 0, 1) := by decide +kernel
theorem dL_law_293 : decode cL_law 293 = .ok (.iconst 0, 1) := by decide +kernel
theorem dL_law_294 : decode cL_law 294 = .ok (.aload_n 2, 1) := by decide +kernel
theorem dL_law_295 : decode cL_law 295 = .ok (.aload_n 3, 1) := by decide +kernel
theorem dL_law_296 : decode cL_law 296 = .ok (.invokestatic 73, 3) := by decide +kernel
theorem dL_law_299 : decode cL_law 299 = .ok (.aload_n 2, 1) := by decide +kernel
theorem dL_law_300 : decode cL_law 300 = .ok (.aload_n 3, 1) := by decide +kernel
theorem dL_law_301 : decode cL_law 301 = .ok (.invokestatic 77, 3) := by decide +kernel
theorem dL_law_304 : decode cL_law 304 = .ok (.iinc 10 1, 3) := by decide +kernel
theorem dL_law_307 : decode cL_law 307 = .ok (.goto (-188), 3) := by decide +kernel
theorem dL_law_310 : decode cL_law 310 = .ok (.goto 1080, 3) := by decide +kernel
theorem dL_law_313 : decode cL_law 313 = .ok (.iload 7, 2) := by decide +kernel
theorem dL_law_315 : decode cL_law 315 = .ok (.iconst 4, 1) := by decide +kernel
theorem dL_law_316 : decode cL_law 316 = .ok (.if_icmp .ne 79, 3) := by decide +kernel
theorem dL_law_319 : decode cL_law 319 = .ok (.aload_n 1, 1) := by decide +kernel
theorem dL_law_320 : decode cL_law 320 = .ok (.iload 8, 2) := by decide +kernel
theorem dL_law_322 : decode cL_law 322 = .ok (.invokevirtual 81, 3) := by decide +kernel
theorem dL_law_325 : decode cL_law 325 = .ok (.aload_n 2, 1) := by decide +kernel
theorem dL_law_326 : decode cL_law 326 = .ok (.iconst 4, 1) := by decide +kernel
theorem dL_law_327 : decode cL_law 327 = .ok (.iaload, 1) := by decide +kernel
theorem dL_law_328 : decode cL_law 328 = .ok (.ifCond .ne 7, 3) := by decide +kernel
theorem dL_law_331 : decode cL_law 331 = .ok (.iconst (-1), 1) := by decide +kernel
theorem dL_law_332 : decode cL_law 332 = .ok (.goto 8, 3) := by decide +kernel
theorem dL_law_335 : decode cL_law 335 = .ok (.aload_n 2, 1) := by decide +kernel
theorem dL_law_336 : decode cL_law 336 = .ok (.iconst 4, 1) := by decide +kernel
theorem dL_law_337 : decode cL_law 337 = .ok (.iaload, 1) := by decide +kernel
theorem dL_law_338 : decode cL_law 338 = .ok (.iconst 1, 1) := by decide +kernel
theorem dL_law_339 : decode cL_law 339 = .ok (.isub, 1) := by decide +kernel
theorem dL_law_340 : decode cL_law 340 = .ok (.if_icmp .eq 5, 3) := by decide +kernel
theorem dL_law_343 : decode cL_law 343 = .ok (.iconst 0, 1) := by decide +kernel
theorem dL_law_344 : decode cL_law 344 = .ok (.ireturn, 1) := by decide +kernel
theorem dL_law_345 : decode cL_law 345 = .ok (.aload_n 2, 1) := by decide +kernel
theorem dL_law_346 : decode cL_law 346 = .ok (.iconst 4, 1) := by decide +kernel
theorem dL_law_347 : decode cL_law 347 = .ok (.iaload, 1) := by decide +kernel
theorem dL_law_348 : decode cL_law 348 = .ok (.ifCond .le 1042, 3) := by decide +kernel
theorem dL_law_351 : decode cL_law 351 = .ok (.iconst 5, 1) := by decide +kernel
theorem dL_law_352 : decode cL_law 352 = .ok (.iload 8, 2) := by decide +kernel
theorem dL_law_354 : decode cL_law 354 = .ok (.imul, 1) := by decide +kernel
theorem dL_law_355 : decode cL_law 355 = .ok (.istore 10, 2) := by decide +kernel
theorem dL_law_357 : decode cL_law 357 = .ok (.iload 10, 2) := by decide +kernel
theorem dL_law_359 : decode cL_law 359 = .ok (.iconst 5, 1) := by decide +kernel
theorem dL_law_360 : decode cL_law 360 = .ok (.iadd, 1) := by decide +kernel
theorem dL_law_361 : decode cL_law 361 = .ok (.iconst 5, 1) := by decide +kernel
theorem dL_law_362 : decode cL_law 362 = .ok (.aload_n 2, 1) := by decide +kernel
theorem dL_law_363 : decode cL_law 363 = .ok (.iconst 4, 1) := by decide +kernel
theorem dL_law_364 : decode cL_law 364 = .ok (.iaload, 1) := by decide +kernel
theorem dL_law_365 : decode cL_law 365 = .ok (.imul, 1) := by decide +kernel
theorem dL_law_366 : decode cL_law 366 = .ok (.if_icmp .ge 19, 3) := by decide +kernel
theorem dL_law_369 : decode cL_law 369 = .ok (.aload_n 3, 1) := by decide +kernel
theorem dL_law_370 : decode cL_law 370 = .ok (.iload 10, 2) := by decide +kernel
theorem dL_law_372 : decode cL_law 372 = .ok (.aload_n 3, 1) := by decide +kernel
theorem dL_law_373 : decode cL_law 373 = .ok (.iload 10, 2) := by decide +kernel
theorem dL_law_375 : decode cL_law 375 = .ok (.iconst 5, 1) := by decide +kernel
theorem dL_law_376 : decode cL_law 376 = .ok (.iadd, 1) := by decide +kernel
theorem dL_law_377 : decode cL_law 377 = .ok (.iaload, 1) := by decide +kernel
theorem dL_law_378 : decode cL_law 378 = .ok (.iastore, 1) := by decide +kernel
theorem dL_law_379 : decode cL_law 379 = .ok (.iinc 10 1, 3) := by decide +kernel
theorem dL_law_382 : decode cL_law 382 = .ok (.goto (-25), 3) := by decide +kernel
theorem dL_law_385 : decode cL_law 385 = .ok (.aload_n 2, 1) := by decide +kernel
theorem dL_law_386 : decode cL_law 386 = .ok (.iconst 4, 1) := by decide +kernel
theorem dL_law_387 : decode cL_law 387 = .ok (.dup2, 1) := by decide +kernel
theorem dL_law_388 : decode cL_law 388 = .ok (.iaload, 1) := by decide +kernel
theorem dL_law_389 : decode cL_law 389 = .ok (.iconst 1, 1) := by decide +kernel
theorem dL_law_390 : decode cL_law 390 = .ok (.isub, 1) := by decide +kernel
theorem dL_law_391 : decode cL_law 391 = .ok (.iastore, 1) := by decide +kernel
theorem dL_law_392 : decode cL_law 392 = .ok (.goto 998, 3) := by decide +kernel
theorem dL_law_395 : decode cL_law 395 = .ok (.iload 7, 2) := by decide +kernel
theorem dL_law_397 : decode cL_law 397 = .ok (.iconst 5, 1) := by decide +kernel
theorem dL_law_398 : decode cL_law 398 = .ok (.if_icmp .ne 111, 3) := by decide +kernel
theorem dL_law_401 : decode cL_law 401 = .ok (.aload_n 2, 1) := by decide +kernel
theorem dL_law_402 : decode cL_law 402 = .ok (.iconst 4, 1) := by decide +kernel
theorem dL_law_403 : decode cL_law 403 = .ok (.iaload, 1) := by decide +kernel
theorem dL_law_404 : decode cL_law 404 = .ok (.ifCond .le 105, 3) := by decide +kernel
theorem dL_law_407 : decode cL_law 407 = .ok (.iload 6, 2) := by decide +kernel
theorem dL_law_409 : decode cL_law 409 = .ok (.bipush 8, 2) := by decide +kernel
theorem dL_law_411 : decode cL_law 411 = .ok (.ishr, 1) := by decide +kernel
theorem dL_law_412 : decode cL_law 412 = .ok (.bipush 13, 2) := by decide +kernel
theorem dL_law_414 : decode cL_law 414 = .ok (.invokestatic 41, 3) := by decide +kernel
theorem dL_law_417 : decode cL_law 417 = .ok (.istore 10, 2) := by decide +kernel
theorem dL_law_419 : decode cL_law 419 = .ok (.iload 6, 2) := by decide +kernel
theorem dL_law_421 : decode cL_law 421 = .ok (.bipush 10, 2) := by decide +kernel
theorem dL_law_423 : decode cL_law 423 = .ok (.ishr, 1) := by decide +kernel
theorem dL_law_424 : decode cL_law 424 = .ok (.iconst 2, 1) := by decide +kernel
theorem dL_law_425 : decode cL_law 425 = .ok (.invokestatic 41, 3) := by decide +kernel
theorem dL_law_428 : decode cL_law 428 = .ok (.ifCond .ne 7, 3) := by decide +kernel
theorem dL_law_431 : decode cL_law 431 = .ok (.iconst 1, 1) := by decide +kernel
theorem dL_law_432 : decode cL_law 432 = .ok (.goto 4, 3) := by decide +kernel
theorem dL_law_435 : decode cL_law 435 = .ok (.iconst 0, 1) := by decide +kernel
theorem dL_law_436 : decode cL_law 436 = .ok (.istore 11, 2) := by decide +kernel
theorem dL_law_438 : decode cL_law 438 = .ok (.aload_n 1, 1) := by decide +kernel
theorem dL_law_439 : decode cL_law 439 = .ok (.iload 8, 2) := by decide +kernel
theorem dL_law_441 : decode cL_law 441 = .ok (.iload 10, 2) := by decide +kernel
theorem dL_law_443 : decode cL_law 443 = .ok (.invokevirtual 84, 3) := by decide +kernel
theorem dL_law_446 : decode cL_law 446 = .ok (.aload_n 3, 1) := by decide +kernel
theorem dL_law_447 : decode cL_law 447 = .ok (.iconst 5, 1) := by decide +kernel
theorem dL_law_448 : decode cL_law 448 = .ok (.iload 8, 2) := by decide +kernel
theorem dL_law_450 : decode cL_law 450 = .ok (.imul, 1) := by decide +kernel
theorem dL_law_451 : decode cL_law 451 = .ok (.iconst 2, 1) := by decide +kernel
theorem dL_law_452 : decode cL_law 452 = .ok (.iadd, 1) := by decide +kernel
theorem dL_law_453 : decode cL_law 453 = .ok (.iaload, 1) := by decide +kernel
theorem dL_law_454 : decode cL_law 454 = .ok (.if_icmp .ne 22, 3) := by decide +kernel
theorem dL_law_457 : decode cL_law 457 = .ok (.aload_n 1, 1) := by decide +kernel
theorem dL_law_458 : decode cL_law 458 = .ok (.iload 8, 2) := by decide +kernel
theorem dL_law_460 : decode cL_law 460 = .ok (.iload 11, 2) := by decide +kernel
theorem dL_law_462 : decode cL_law 462 = .ok (.invokevirtual 87, 3) := by decide +kernel
theorem dL_law_465 : decode cL_law 465 = .ok (.aload_n 3, 1) := by decide +kernel
theorem dL_law_466 : decode cL_law 466 = .ok (.iconst 5, 1) := by decide +kernel
theorem dL_law_467 : decode cL_law 467 = .ok (.iload 8, 2) := by decide +kernel
theorem dL_law_469 : decode cL_law 469 = .ok (.imul, 1) := by decide +kernel
theorem dL_law_470 : decode cL_law 470 = .ok (.iconst 3, 1) := by decide +kernel
theorem dL_law_471 : decode cL_law 471 = .ok (.iadd, 1) := by decide +kernel
theorem dL_law_472 : decode cL_law 472 = .ok (.iaload, 1) := by decide +kernel
theorem dL_law_473 : decode cL_law 473 = .ok (.if_icmp .eq 5, 3) := by decide +kernel
theorem dL_law_476 : decode cL_law 476 = .ok (.iconst 0, 1) := by decide +kernel
theorem dL_law_477 : decode cL_law 477 = .ok (.ireturn, 1) := by decide +kernel
theorem dL_law_478 : decode cL_law 478 = .ok (.aload_n 3, 1) := by decide +kernel
theorem dL_law_479 : decode cL_law 479 = .ok (.iconst 5, 1) := by decide +kernel
theorem dL_law_480 : decode cL_law 480 = .ok (.iload 8, 2) := by decide +kernel
theorem dL_law_482 : decode cL_law 482 = .ok (.imul, 1) := by decide +kernel
theorem dL_law_483 : decode cL_law 483 = .ok (.iconst 2, 1) := by decide +kernel
theorem dL_law_484 : decode cL_law 484 = .ok (.iadd, 1) := by decide +kernel
theorem dL_law_485 : decode cL_law 485 = .ok (.iload 10, 2) := by decide +kernel
theorem dL_law_487 : decode cL_law 487 = .ok (.iastore, 1) := by decide +kernel
theorem dL_law_488 : decode cL_law 488 = .ok (.aload_n 3, 1) := by decide +kernel
theorem dL_law_489 : decode cL_law 489 = .ok (.iconst 5, 1) := by decide +kernel
theorem dL_law_490 : decode cL_law 490 = .ok (.iload 8, 2) := by decide +kernel
theorem dL_law_492 : decode cL_law 492 = .ok (.imul, 1) := by decide +kernel
theorem dL_law_493 : decode cL_law 493 = .ok (.iconst 3, 1) := by decide +kernel
theorem dL_law_494 : decode cL_law 494 = .ok (.iadd, 1) := by decide +kernel
theorem dL_law_495 : decode cL_law 495 = .ok (.iload 11, 2) := by decide +kernel
theorem dL_law_497 : decode cL_law 497 = .ok (.ifCond .eq 7, 3) := by decide +kernel
theorem dL_law_500 : decode cL_law 500 = .ok (.iconst 1, 1) := by decide +kernel
theorem dL_law_501 : decode cL_law 501 = .ok (.goto 4, 3) := by decide +kernel
theorem dL_law_504 : decode cL_law 504 = .ok (.iconst 0, 1) := by decide +kernel
theorem dL_law_505 : decode cL_law 505 = .ok (.iastore, 1) := by decide +kernel
theorem dL_law_506 : decode cL_law 506 = .ok (.goto 884, 3) := by decide +kernel
theorem dL_law_509 : decode cL_law 509 = .ok (.iload 7, 2) := by decide +kernel
theorem dL_law_511 : decode cL_law 511 = .ok (.bipush 6, 2) := by decide +kernel
theorem dL_law_513 : decode cL_law 513 = .ok (.if_icmp .ne 186, 3) := by decide +kernel
theorem dL_law_516 : decode cL_law 516 = .ok (.iconst 1, 1) := by decide +kernel
theorem dL_law_517 : decode cL_law 517 = .ok (.iload 6, 2) := by decide +kernel
theorem dL_law_519 : decode cL_law 519 = .ok (.bipush 11, 2) := by decide +kernel
theorem dL_law_521 : decode cL_law 521 = .ok (.ishr, 1) := by decide +kernel
theorem dL_law_522 : decode cL_law 522 = .ok (.iconst 5, 1) := by decide +kernel
theorem dL_law_523 : decode cL_law 523 = .ok (.invokestatic 41, 3) := by decide +kernel
theorem dL_law_526 : decode cL_law 526 = .ok (.iadd, 1) := by decide +kernel
theorem dL_law_527 : decode cL_law 527 = .ok (.istore 10, 2) := by decide +kernel
theorem dL_law_529 : decode cL_law 529 = .ok (.iconst 0, 1) := by decide +kernel
theorem dL_law_530 : decode cL_law 530 = .ok (.istore 11, 2) := by decide +kernel
theorem dL_law_532 : decode cL_law 532 = .ok (.iconst 0, 1) := by decide +kernel
theorem dL_law_533 : decode cL_law 533 = .ok (.istore 12, 2) := by decide +kernel
theorem dL_law_535 : decode cL_law 535 = .ok (.iconst 0, 1) := by decide +kernel
theorem dL_law_536 : decode cL_law 536 = .ok (.istore 13, 2) := by decide +kernel
theorem dL_law_538 : decode cL_law 538 = .ok (.iload 13, 2) := by decide +kernel
theorem dL_law_540 : decode cL_law 540 = .ok (.aload_n 2, 1) := by decide +kernel
theorem dL_law_541 : decode cL_law 541 = .ok (.iconst 4, 1) := by decide +kernel
theorem dL_law_542 : decode cL_law 542 = .ok (.iaload, 1) := by decide +kernel
theorem dL_law_543 : decode cL_law 543 = .ok (.if_icmp .ge 50, 3) := by decide +kernel
theorem dL_law_546 : decode cL_law 546 = .ok (.iload 11, 2) := by decide +kernel
theorem dL_law_548 : decode cL_law 548 = .ok (.ifCond .ne 32, 3) := by decide +kernel
theorem dL_law_551 : decode cL_law 551 = .ok (.aload_n 3, 1) := by decide +kernel
theorem dL_law_552 : decode cL_law 552 = .ok (.iconst 5, 1) := by decide +kernel
theorem dL_law_553 : decode cL_law 553 = .ok (.iload 13, 2) := by decide +kernel
theorem dL_law_555 : decode cL_law 555 = .ok (.imul, 1) := by decide +kernel
theorem dL_law_556 : decode cL_law 556 = .ok (.iconst 1, 1) := by decide +kernel
theorem dL_law_557 : decode cL_law 557 = .ok (.iadd, 1) := by decide +kernel
theorem dL_law_558 : decode cL_law 558 = .ok (.iaload, 1) := by decide +kernel
theorem dL_law_559 : decode cL_law 559 = .ok (.iload 9, 2) := by decide +kernel
theorem dL_law_561 : decode cL_law 561 = .ok (.if_icmp .lt 23, 3) := by decide +kernel
theorem dL_law_564 : decode cL_law 564 = .ok (.aload_n 3, 1) := by decide +kernel
theorem dL_law_565 : decode cL_law 565 = .ok (.iconst 5, 1) := by decide +kernel
theorem dL_law_566 : decode cL_law 566 = .ok (.iload 13, 2) := by decide +kernel
theorem dL_law_568 : decode cL_law 568 = .ok (.imul, 1) := by decide +kernel
theorem dL_law_569 : decode cL_law 569 = .ok (.iconst 1, 1) := by decide +kernel
theorem dL_law_570 : decode cL_law 570 = .ok (.iadd, 1) := by decide +kernel
theorem dL_law_571 : decode cL_law 571 = .ok (.iaload, 1) := by decide +kernel
theorem dL_law_572 : decode cL_law 572 = .ok (.iload 10, 2) := by decide +kernel
theorem dL_law_574 : decode cL_law 574 = .ok (.iadd, 1) := by decide +kernel
theorem dL_law_575 : decode cL_law 575 = .ok (.bipush 59, 2) := by decide +kernel
theorem dL_law_577 : decode cL_law 577 = .ok (.if_icmp .le 7, 3) := by decide +kernel
theorem dL_law_580 : decode cL_law 580 = .ok (.iconst 1, 1) := by decide +kernel
theorem dL_law_581 : decode cL_law 581 = .ok (.goto 4, 3) := by decide +kernel
theorem dL_law_584 : decode cL_law 584 = .ok (.iconst 0, 1) := by decide +kernel
theorem dL_law_585 : decode cL_law 585 = .ok (.istore 11, 2) := by decide +kernel
theorem dL_law_587 : decode cL_law 587 = .ok (.iinc 13 1, 3) := by decide +kernel
theorem dL_law_590 : decode cL_law 590 = .ok (.goto (-52), 3) := by decide +kernel
theorem dL_law_593 : decode cL_law 593 = .ok (.iload 11, 2) := by decide +kernel
theorem dL_law_595 : decode cL_law 595 = .ok (.ifCond .eq 6, 3) := by decide +kernel
theorem dL_law_598 : decode cL_law 598 = .ok (.goto 836, 3) := by decide +kernel
theorem dL_law_601 : decode cL_law 601 = .ok (.iconst 0, 1) := by decide +kernel
theorem dL_law_602 : decode cL_law 602 = .ok (.istore 13, 2) := by decide +kernel
theorem dL_law_604 : decode cL_law 604 = .ok (.iload 13, 2) := by decide +kernel
theorem dL_law_606 : decode cL_law 606 = .ok (.aload_n 2, 1) := by decide +kernel
theorem dL_law_607 : decode cL_law 607 = .ok (.iconst 4, 1) := by decide +kernel
theorem dL_law_608 : decode cL_law 608 = .ok (.iaload, 1) := by decide +kernel
theorem dL_law_609 : decode cL_law 609 = .ok (.if_icmp .ge 72, 3) := by decide +kernel
theorem dL_law_612 : decode cL_law 612 = .ok (.aload_n 3, 1) := by decide +kernel
theorem dL_law_613 : decode cL_law 613 = .ok (.iconst 5, 1) := by decide +kernel
theorem dL_law_614 : decode cL_law 614 = .ok (.iload 13, 2) := by decide +kernel
theorem dL_law_616 : decode cL_law 616 = .ok (.imul, 1) := by decide +kernel
theorem dL_law_617 : decode cL_law 617 = .ok (.iconst 1, 1) := by decide +kernel
theorem dL_law_618 : decode cL_law 618 = .ok (.iadd, 1) := by decide +kernel
theorem dL_law_619 : decode cL_law 619 = .ok (.iaload, 1) := by decide +kernel
theorem dL_law_620 : decode cL_law 620 = .ok (.iload 9, 2) := by decide +kernel
theorem dL_law_622 : decode cL_law 622 = .ok (.if_icmp .ge 6, 3) := by decide +kernel
theorem dL_law_625 : decode cL_law 625 = .ok (.goto 50, 3) := by decide +kernel
theorem dL_law_628 : decode cL_law 628 = .ok (.aload_n 3, 1) := by decide +kernel
theorem dL_law_629 : decode cL_law 629 = .ok (.iconst 5, 1) := by decide +kernel
theorem dL_law_630 : decode cL_law 630 = .ok (.iload 13, 2) := by decide +kernel
theorem dL_law_632 : decode cL_law 632 = .ok (.imul, 1) := by decide +kernel
theorem dL_law_633 : decode cL_law 633 = .ok (.iconst 1, 1) := by decide +kernel
theorem dL_law_634 : decode cL_law 634 = .ok (.iadd, 1) := by decide +kernel
theorem dL_law_635 : decode cL_law 635 = .ok (.dup2, 1) := by decide +kernel
theorem dL_law_636 : decode cL_law 636 = .ok (.iaload, 1) := by decide +kernel
theorem dL_law_637 : decode cL_law 637 = .ok (.iload 10, 2) := by decide +kernel
theorem dL_law_639 : decode cL_law 639 = .ok (.iadd, 1) := by decide +kernel
theorem dL_law_640 : decode cL_law 640 = .ok (.iastore, 1) := by decide +kernel
theorem dL_law_641 : decode cL_law 641 = .ok (.aload_n 3, 1) := by decide +kernel
theorem dL_law_642 : decode cL_law 642 = .ok (.iconst 5, 1) := by decide +kernel
theorem dL_law_643 : decode cL_law 643 = .ok (.iload 13, 2) := by decide +kernel
theorem dL_law_645 : decode cL_law 645 = .ok (.imul, 1) := by decide +kernel
theorem dL_law_646 : decode cL_law 646 = .ok (.iaload, 1) := by decide +kernel
theorem dL_law_647 : decode cL_law 647 = .ok (.bipush 100, 2) := by decide +kernel
theorem dL_law_649 : decode cL_law 649 = .ok (.idiv, 1) := by decide +kernel
theorem dL_law_650 : decode cL_law 650 = .ok (.iload 9, 2) := by decide +kernel
theorem dL_law_652 : decode cL_law 652 = .ok (.if_icmp .lt 20, 3) := by decide +kernel
theorem dL_law_655 : decode cL_law 655 = .ok (.aload_n 3, 1) := by decide +kernel
theorem dL_law_656 : decode cL_law 656 = .ok (.iconst 5, 1) := by decide +kernel
theorem dL_law_657 : decode cL_law 657 = .ok (.iload 13, 2) := by decide +kernel
theorem dL_law_659 : decode cL_law 659 = .ok (.imul, 1) := by decide +kernel
theorem dL_law_660 : decode cL_law 660 = .ok (.dup2, 1) := by decide +kernel
theorem dL_law_661 : decode cL_law 661 = .ok (.iaload, 1) := by decide +kernel
theorem dL_law_662 : decode cL_law 662 = .ok (.bipush 100, 2) := by decide +kernel
theorem dL_law_664 : decode cL_law 664 = .ok (.iload 10, 2) := by decide +kernel
theorem dL_law_666 : decode cL_law 666 = .ok (.imul, 1) := by decide +kernel
theorem dL_law_667 : decode cL_law 667 = .ok (.iadd, 1) := by decide +kernel
theorem dL_law_668 : decode cL_law 668 = .ok (.iastore, 1) := by decide +kernel
theorem dL_law_669 : decode cL_law 669 = .ok (.goto 6, 3) := by decide +kernel
theorem dL_law_672 : decode cL_law 672 = .ok (.iinc 12 1, 3) := by decide +kernel
theorem dL_law_675 : decode cL_law 675 = .ok (.iinc 13 1, 3) := by decide +kernel
theorem dL_law_678 : decode cL_law 678 = .ok (.goto (-74), 3) := by decide +kernel
theorem dL_law_681 : decode cL_law 681 = .ok (.aload_n 1, 1) := by decide +kernel
theorem dL_law_682 : decode cL_law 682 = .ok (.iload 9, 2) := by decide +kernel
theorem dL_law_684 : decode cL_law 684 = .ok (.iload 10, 2) := by decide +kernel
theorem dL_law_686 : decode cL_law 686 = .ok (.invokevirtual 91, 3) := by decide +kernel
theorem dL_law_689 : decode cL_law 689 = .ok (.iload 12, 2) := by decide +kernel
theorem dL_law_691 : decode cL_law 691 = .ok (.if_icmp .eq 5, 3) := by decide +kernel
theorem dL_law_694 : decode cL_law 694 = .ok (.iconst 0, 1) := by decide +kernel
theorem dL_law_695 : decode cL_law 695 = .ok (.ireturn, 1) := by decide +kernel
theorem dL_law_696 : decode cL_law 696 = .ok (.goto 694, 3) := by decide +kernel
theorem dL_law_699 : decode cL_law 699 = .ok (.iload 7, 2) := by decide +kernel
theorem dL_law_701 : decode cL_law 701 = .ok (.bipush 7, 2) := by decide +kernel
theorem dL_law_703 : decode cL_law 703 = .ok (.if_icmp .ne 240, 3) := by decide +kernel
theorem dL_law_706 : decode cL_law 706 = .ok (.iconst 1, 1) := by decide +kernel
theorem dL_law_707 : decode cL_law 707 = .ok (.iload 6, 2) := by decide +kernel
theorem dL_law_709 : decode cL_law 709 = .ok (.bipush 11, 2) := by decide +kernel
theorem dL_law_711 : decode cL_law 711 = .ok (.ishr, 1) := by decide +kernel
theorem dL_law_712 : decode cL_law 712 = .ok (.bipush 8, 2) := by decide +kernel
theorem dL_law_714 : decode cL_law 714 = .ok (.invokestatic 41, 3) := by decide +kernel
theorem dL_law_717 : decode cL_law 717 = .ok (.iadd, 1) := by decide +kernel
theorem dL_law_718 : decode cL_law 718 = .ok (.istore 10, 2) := by decide +kernel
theorem dL_law_720 : decode cL_law 720 = .ok (.iconst 0, 1) := by decide +kernel
theorem dL_law_721 : decode cL_law 721 = .ok (.istore 11, 2) := by decide +kernel
theorem dL_law_723 : decode cL_law 723 = .ok (.iconst 0, 1) := by decide +kernel
theorem dL_law_724 : decode cL_law 724 = .ok (.istore 12, 2) := by decide +kernel
theorem dL_law_726 : decode cL_law 726 = .ok (.iload 12, 2) := by decide +kernel
theorem dL_law_728 : decode cL_law 728 = .ok (.aload_n 2, 1) := by decide +kernel
theorem dL_law_729 : decode cL_law 729 = .ok (.iconst 4, 1) := by decide +kernel
theorem dL_law_730 : decode cL_law 730 = .ok (.iaload, 1) := by decide +kernel
theorem dL_law_731 : decode cL_law 731 = .ok (.if_icmp .ge 180, 3) := by decide +kernel
theorem dL_law_734 : decode cL_law 734 = .ok (.iconst (-1), 1) := by decide +kernel
theorem dL_law_735 : decode cL_law 735 = .ok (.istore 13, 2) := by decide +kernel
theorem dL_law_737 : decode cL_law 737 = .ok (.iconst (-1), 1) := by decide +kernel
theorem dL_law_738 : decode cL_law 738 = .ok (.istore 14, 2) := by decide +kernel
theorem dL_law_740 : decode cL_law 740 = .ok (.aload_n 3, 1) := by decide +kernel
theorem dL_law_741 : decode cL_law 741 = .ok (.iconst 5, 1) := by decide +kernel
theorem dL_law_742 : decode cL_law 742 = .ok (.iload 12, 2) := by decide +kernel
theorem dL_law_744 : decode cL_law 744 = .ok (.imul, 1) := by decide +kernel
theorem dL_law_745 : decode cL_law 745 = .ok (.iaload, 1) := by decide +kernel
theorem dL_law_746 : decode cL_law 746 = .ok (.bipush 100, 2) := by decide +kernel
theorem dL_law_748 : decode cL_law 748 = .ok (.idiv, 1) := by decide +kernel
theorem dL_law_749 : decode cL_law 749 = .ok (.istore 15, 2) := by decide +kernel
theorem dL_law_751 : decode cL_law 751 = .ok (.iload 15, 2) := by decide +kernel
theorem dL_law_753 : decode cL_law 753 = .ok (.aload_n 3, 1) := by decide +kernel
theorem dL_law_754 : decode cL_law 754 = .ok (.iconst 5, 1) := by decide +kernel
theorem dL_law_755 : decode cL_law 755 = .ok (.iload 12, 2) := by decide +kernel
theorem dL_law_757 : decode cL_law 757 = .ok (.imul, 1) := by decide +kernel
theorem dL_law_758 : decode cL_law 758 = .ok (.iconst 1, 1) := by decide +kernel
theorem dL_law_759 : decode cL_law 759 = .ok (.iadd, 1) := by decide +kernel
theorem dL_law_760 : decode cL_law 760 = .ok (.iaload, 1) := by decide +kernel
theorem dL_law_761 : decode cL_law 761 = .ok (.if_icmp .gt 66, 3) := by decide +kernel
theorem dL_law_764 : decode cL_law 764 = .ok (.iload 15, 2) := by decide +kernel
theorem dL_law_766 : decode cL_law 766 = .ok (.iload 9, 2) := by decide +kernel
theorem dL_law_768 : decode cL_law 768 = .ok (.if_icmp .lt 16, 3) := by decide +kernel
theorem dL_law_771 : decode cL_law 771 = .ok (.iload 15, 2) := by decide +kernel
theorem dL_law_773 : decode cL_law 773 = .ok (.iload 9, 2) := by decide +kernel
theorem dL_law_775 : decode cL_law 775 = .ok (.iload 10, 2) := by decide +kernel
theorem dL_law_777 : decode cL_law 777 = .ok (.iadd, 1) := by decide +kernel
theorem dL_law_778 : decode cL_law 778 = .ok (.if_icmp .ge 6, 3) := by decide +kernel
theorem dL_law_781 : decode cL_law 781 = .ok (.goto 40, 3) := by decide +kernel
theorem dL_law_784 : decode cL_law 784 = .ok (.iload 15, 2) := by decide +kernel
theorem dL_law_786 : decode cL_law 786 = .ok (.iload 9, 2) := by decide +kernel
theorem dL_law_788 : decode cL_law 788 = .ok (.if_icmp .ge 8, 3) := by decide +kernel
theorem dL_law_791 : decode cL_law 791 = .ok (.iload 15, 2) := by decide +kernel
theorem dL_law_793 : decode cL_law 793 = .ok (.goto 8, 3) := by decide +kernel
theorem dL_law_796 : decode cL_law 796 = .ok (.iload 15, 2) := by decide +kernel
theorem dL_law_798 : decode cL_law 798 = .ok (.iload 10, 2) := by decide +kernel
theorem dL_law_800 : decode cL_law 800 = .ok (.isub, 1) := by decide +kernel
theorem dL_law_801 : decode cL_law 801 = .ok (.istore 16, 2) := by decide +kernel
theorem dL_law_803 : decode cL_law 803 = .ok (.iload 13, 2) := by decide +kernel
theorem dL_law_805 : decode cL_law 805 = .ok (.ifCond .ge 8, 3) := by decide +kernel
theorem dL_law_808 : decode cL_law 808 = .ok (.iload 16, 2) := by decide +kernel
theorem dL_law_810 : decode cL_law 810 = .ok (.goto 5, 3) := by decide +kernel
theorem dL_law_813 : decode cL_law 813 = .ok (.iload 13, 2) := by decide +kernel
theorem dL_law_815 : decode cL_law 815 = .ok (.istore 13, 2) := by decide +kernel
theorem dL_law_817 : decode cL_law 817 = .ok (.iload 16, 2) := by decide +kernel
theorem dL_law_819 : decode cL_law 819 = .ok (.istore 14, 2) := by decide +kernel
theorem dL_law_821 : decode cL_law 821 = .ok (.iinc 15 1, 3) := by decide +kernel
theorem dL_law_824 : decode cL_law 824 = .ok (.goto (-73), 3) := by decide +kernel
theorem dL_law_827 : decode cL_law 827 = .ok (.iload 13, 2) := by decide +kernel
theorem dL_law_829 : decode cL_law 829 = .ok (.ifCond .ge 6, 3) := by decide +kernel
theorem dL_law_832 : decode cL_law 832 = .ok (.goto 73, 3) := by decide +kernel
theorem dL_law_835 : decode cL_law 835 = .ok (.aload_n 3, 1) := by decide +kernel
theorem dL_law_836 : decode cL_law 836 = .ok (.iconst 5, 1) := by decide +kernel
theorem dL_law_837 : decode cL_law 837 = .ok (.iload 12, 2) := by decide +kernel
theorem dL_law_839 : decode cL_law 839 = .ok (.imul, 1) := by decide +kernel
theorem dL_law_840 : decode cL_law 840 = .ok (.iaload, 1) := by decide +kernel
theorem dL_law_841 : decode cL_law 841 = .ok (.bipush 100, 2) := by decide +kernel
theorem dL_law_843 : decode cL_law 843 = .ok (.irem, 1) := by decide +kernel
theorem dL_law_844 : decode cL_law 844 = .ok (.istore 15, 2) := by decide +kernel
theorem dL_law_846 : decode cL_law 846 = .ok (.aload_n 3, 1) := by decide +kernel
theorem dL_law_847 : decode cL_law 847 = .ok (.iconst 5, 1) := by decide +kernel
theorem dL_law_848 : decode cL_law 848 = .ok (.iload 11, 2) := by decide +kernel
theorem dL_law_850 : decode cL_law 850 = .ok (.imul, 1) := by decide +kernel
theorem dL_law_851 : decode cL_law 851 = .ok (.iconst 2, 1) := by decide +kernel
theorem dL_law_852 : decode cL_law 852 = .ok (.iadd, 1) := by decide +kernel
theorem dL_law_853 : decode cL_law 853 = .ok (.aload_n 3, 1) := by decide +kernel
theorem dL_law_854 : decode cL_law 854 = .ok (.iconst 5, 1) := by decide +kernel
theorem dL_law_855 : decode cL_law 855 = .ok (.iload 12, 2) := by decide +kernel
theorem dL_law_857 : decode cL_law 857 = .ok (.imul, 1) := by decide +kernel
theorem dL_law_858 : decode cL_law 858 = .ok (.iconst 2, 1) := by decide +kernel
theorem dL_law_859 : decode cL_law 859 = .ok (.iadd, 1) := by decide +kernel
theorem dL_law_860 : decode cL_law 860 = .ok (.iaload, 1) := by decide +kernel
theorem dL_law_861 : decode cL_law 861 = .ok (.iastore, 1) := by decide +kernel
theorem dL_law_862 : decode cL_law 862 = .ok (.aload_n 3, 1) := by decide +kernel
theorem dL_law_863 : decode cL_law 863 = .ok (.iconst 5, 1) := by decide +kernel
theorem dL_law_864 : decode cL_law 864 = .ok (.iload 11, 2) := by decide +kernel
theorem dL_law_866 : decode cL_law 866 = .ok (.imul, 1) := by decide +kernel
theorem dL_law_867 : decode cL_law 867 = .ok (.iconst 3, 1) := by decide +kernel
theorem dL_law_868 : decode cL_law 868 = .ok (.iadd, 1) := by decide +kernel
theorem dL_law_869 : decode cL_law 869 = .ok (.aload_n 3, 1) := by decide +kernel
theorem dL_law_870 : decode cL_law 870 = .ok (.iconst 5, 1) := by decide +kernel
theorem dL_law_871 : decode cL_law 871 = .ok (.iload 12, 2) := by decide +kernel
theorem dL_law_873 : decode cL_law 873 = .ok (.imul, 1) := by decide +kernel
theorem dL_law_874 : decode cL_law 874 = .ok (.iconst 3, 1) := by decide +kernel
theorem dL_law_875 : decode cL_law 875 = .ok (.iadd, 1) := by decide +kernel
theorem dL_law_876 : decode cL_law 876 = .ok (.iaload, 1) := by decide +kernel
theorem dL_law_877 : decode cL_law 877 = .ok (.iastore, 1) := by decide +kernel
theorem dL_law_878 : decode cL_law 878 = .ok (.aload_n 3, 1) := by decide +kernel
theorem dL_law_879 : decode cL_law 879 = .ok (.iconst 5, 1) := by decide +kernel
theorem dL_law_880 : decode cL_law 880 = .ok (.iload 11, 2) := by decide +kernel
theorem dL_law_882 : decode cL_law 882 = .ok (.imul, 1) := by decide +kernel
theorem dL_law_883 : decode cL_law 883 = .ok (.bipush 100, 2) := by decide +kernel
theorem dL_law_885 : decode cL_law 885 = .ok (.iload 13, 2) := by decide +kernel
theorem dL_law_887 : decode cL_law 887 = .ok (.imul, 1) := by decide +kernel
theorem dL_law_888 : decode cL_law 888 = .ok (.iload 15, 2) := by decide +kernel
theorem dL_law_890 : decode cL_law 890 = .ok (.iadd, 1) := by decide +kernel
theorem dL_law_891 : decode cL_law 891 = .ok (.iastore, 1) := by decide +kernel
theorem dL_law_892 : decode cL_law 892 = .ok (.aload_n 3, 1) := by decide +kernel
theorem dL_law_893 : decode cL_law 893 = .ok (.iconst 5, 1) := by decide +kernel
theorem dL_law_894 : decode cL_law 894 = .ok (.iload 11, 2) := by decide +kernel
theorem dL_law_896 : decode cL_law 896 = .ok (.iinc 11 1, 3) := by decide +kernel
theorem dL_law_899 : decode cL_law 899 = .ok (.imul, 1) := by decide +kernel
theorem dL_law_900 : decode cL_law 900 = .ok (.iconst 1, 1) := by decide +kernel
theorem dL_law_901 : decode cL_law 901 = .ok (.iadd, 1) := by decide +kernel
theorem dL_law_902 : decode cL_law 902 = .ok (.iload 14, 2) := by decide +kernel
theorem dL_law_904 : decode cL_law 904 = .ok (.iastore, 1) := by decide +kernel
theorem dL_law_905 : decode cL_law 905 = .ok (.iinc 12 1, 3) := by decide +kernel
theorem dL_law_908 : decode cL_law 908 = .ok (.goto (-182), 3) := by decide +kernel
theorem dL_law_911 : decode cL_law 911 = .ok (.aload_n 1, 1) := by decide +kernel
theorem dL_law_912 : decode cL_law 912 = .ok (.iload 9, 2) := by decide +kernel
theorem dL_law_914 : decode cL_law 914 = .ok (.iload 10, 2) := by decide +kernel
theorem dL_law_916 : decode cL_law 916 = .ok (.invokevirtual 94, 3) := by decide +kernel
theorem dL_law_919 : decode cL_law 919 = .ok (.aload_n 2, 1) := by decide +kernel
theorem dL_law_920 : decode cL_law 920 = .ok (.iconst 4, 1) := by decide +kernel
theorem dL_law_921 : decode cL_law 921 = .ok (.iaload, 1) := by decide +kernel
theorem dL_law_922 : decode cL_law 922 = .ok (.iload 11, 2) := by decide +kernel
theorem dL_law_924 : decode cL_law 924 = .ok (.isub, 1) := by decide +kernel
theorem dL_law_925 : decode cL_law 925 = .ok (.if_icmp .eq 5, 3) := by decide +kernel
theorem dL_law_928 : decode cL_law 928 = .ok (.iconst 0, 1) := by decide +kernel
theorem dL_law_929 : decode cL_law 929 = .ok (.ireturn, 1) := by decide +kernel
theorem dL_law_930 : decode cL_law 930 = .ok (.aload_n 2, 1) := by decide +kernel
theorem dL_law_931 : decode cL_law 931 = .ok (.iconst 4, 1) := by decide +kernel
theorem dL_law_932 : decode cL_law 932 = .ok (.iload 11, 2) := by decide +kernel
theorem dL_law_934 : decode cL_law 934 = .ok (.iastore, 1) := by decide +kernel
theorem dL_law_935 : decode cL_law 935 = .ok (.aload_n 2, 1) := by decide +kernel
theorem dL_law_936 : decode cL_law 936 = .ok (.aload_n 3, 1) := by decide +kernel
theorem dL_law_937 : decode cL_law 937 = .ok (.invokestatic 77, 3) := by decide +kernel
theorem dL_law_940 : decode cL_law 940 = .ok (.goto 450, 3) := by decide +kernel
theorem dL_law_943 : decode cL_law 943 = .ok (.iload 7, 2) := by decide +kernel
theorem dL_law_945 : decode cL_law 945 = .ok (.bipush 8, 2) := by decide +kernel
theorem dL_law_947 : decode cL_law 947 = .ok (.if_icmp .ne 339, 3) := by decide +kernel
theorem dL_law_950 : decode cL_law 950 = .ok (.iload 9, 2) := by decide +kernel
theorem dL_law_952 : decode cL_law 952 = .ok (.iload 6, 2) := by decide +kernel
theorem dL_law_954 : decode cL_law 954 = .ok (.bipush 11, 2) := by decide +kernel
theorem dL_law_956 : decode cL_law 956 = .ok (.ishr, 1) := by decide +kernel
theorem dL_law_957 : decode cL_law 957 = .ok (.bipush 20, 2) := by decide +kernel
theorem dL_law_959 : decode cL_law 959 = .ok (.invokestatic 41, 3) := by decide +kernel
theorem dL_law_962 : decode cL_law 962 = .ok (.iadd, 1) := by decide +kernel
theorem dL_law_963 : decode cL_law 963 = .ok (.istore 10, 2) := by decide +kernel
theorem dL_law_965 : decode cL_law 965 = .ok (.iload 6, 2) := by decide +kernel
theorem dL_law_967 : decode cL_law 967 = .ok (.bipush 13, 2) := by decide +kernel
theorem dL_law_969 : decode cL_law 969 = .ok (.ishr, 1) := by decide +kernel
theorem dL_law_970 : decode cL_law 970 = .ok (.bipush 44, 2) := by decide +kernel
theorem dL_law_972 : decode cL_law 972 = .ok (.invokestatic 41, 3) := by decide +kernel
theorem dL_law_975 : decode cL_law 975 = .ok (.istore 11, 2) := by decide +kernel
theorem dL_law_977 : decode cL_law 977 = .ok (.iconst 0, 1) := by decide +kernel
theorem dL_law_978 : decode cL_law 978 = .ok (.istore 12, 2) := by decide +kernel
theorem dL_law_980 : decode cL_law 980 = .ok (.iconst 0, 1) := by decide +kernel
theorem dL_law_981 : decode cL_law 981 = .ok (.istore 13, 2) := by decide +kernel
theorem dL_law_983 : decode cL_law 983 = .ok (.iconst 1, 1) := by decide +kernel
theorem dL_law_984 : decode cL_law 984 = .ok (.istore 14, 2) := by decide +kernel
theorem dL_law_986 : decode cL_law 986 = .ok (.aload_n 2, 1) := by decide +kernel
theorem dL_law_987 : decode cL_law 987 = .ok (.iconst 4, 1) := by decide +kernel
theorem dL_law_988 : decode cL_law 988 = .ok (.iaload, 1) := by decide +kernel
theorem dL_law_989 : decode cL_law 989 = .ok (.istore 15, 2) := by decide +kernel
theorem dL_law_991 : decode cL_law 991 = .ok (.iconst 0, 1) := by decide +kernel
theorem dL_law_992 : decode cL_law 992 = .ok (.istore 16, 2) := by decide +kernel
theorem dL_law_994 : decode cL_law 994 = .ok (.iload 16, 2) := by decide +kernel
theorem dL_law_996 : decode cL_law 996 = .ok (.iload 15, 2) := by decide +kernel
theorem dL_law_998 : decode cL_law 998 = .ok (.if_icmp .ge 131, 3) := by decide +kernel
theorem dL_law_1001 : decode cL_law 1001 = .ok (.aload_n 3, 1) := by decide +kernel
theorem dL_law_1002 : decode cL_law 1002 = .ok (.iconst 5, 1) := by decide +kernel
theorem dL_law_1003 : decode cL_law 1003 = .ok (.iload 16, 2) := by decide +kernel
theorem dL_law_1005 : decode cL_law 1005 = .ok (.imul, 1) := by decide +kernel
theorem dL_law_1006 : decode cL_law 1006 = .ok (.iaload, 1) := by decide +kernel
theorem dL_law_1007 : decode cL_law 1007 = .ok (.bipush 100, 2) := by decide +kernel
theorem dL_law_1009 : decode cL_law 1009 = .ok (.idiv, 1) := by decide +kernel
theorem dL_law_1010 : decode cL_law 1010 = .ok (.iload 9, 2) := by decide +kernel
theorem dL_law_1012 : decode cL_law 1012 = .ok (.if_icmp .lt 111, 3) := by decide +kernel
theorem dL_law_1015 : decode cL_law 1015 = .ok (.aload_n 3, 1) := by decide +kernel
theorem dL_law_1016 : decode cL_law 1016 = .ok (.iconst 5, 1) := by decide +kernel
theorem dL_law_1017 : decode cL_law 1017 = .ok (.iload 16, 2) := by decide +kernel
theorem dL_law_1019 : decode cL_law 1019 = .ok (.imul, 1) := by decide +kernel
theorem dL_law_1020 : decode cL_law 1020 = .ok (.iconst 1, 1) := by decide +kernel
theorem dL_law_1021 : decode cL_law 1021 = .ok (.iadd, 1) := by decide +kernel
theorem dL_law_1022 : decode cL_law 1022 = .ok (.iaload, 1) := by decide +kernel
theorem dL_law_1023 : decode cL_law 1023 = .ok (.iload 10, 2) := by decide +kernel
theorem dL_law_1025 : decode cL_law 1025 = .ok (.if_icmp .le 6, 3) := by decide +kernel
theorem dL_law_1028 : decode cL_law 1028 = .ok (.goto 95, 3) := by decide +kernel
theorem dL_law_1031 : decode cL_law 1031 = .ok (.iinc 12 1, 3) := by decide +kernel
theorem dL_law_1034 : decode cL_law 1034 = .ok (.iload 13, 2) := by decide +kernel
theorem dL_law_1036 : decode cL_law 1036 = .ok (.ifCond .ne 22, 3) := by decide +kernel
theorem dL_law_1039 : decode cL_law 1039 = .ok (.aload_n 3, 1) := by decide +kernel
theorem dL_law_1040 : decode cL_law 1040 = .ok (.iconst 5, 1) := by decide +kernel
theorem dL_law_1041 : decode cL_law 1041 = .ok (.iload 16, 2) := by decide +kernel
theorem dL_law_1043 : decode cL_law 1043 = .ok (.imul, 1) := by decide +kernel
theorem dL_law_1044 : decode cL_law 1044 = .ok (.iconst 1, 1) := by decide +kernel
theorem dL_law_1045 : decode cL_law 1045 = .ok (.iadd, 1) := by decide +kernel
theorem dL_law_1046 : decode cL_law 1046 = .ok (.iaload, 1) := by decide +kernel
theorem dL_law_1047 : decode cL_law 1047 = .ok (.iload 11, 2) := by decide +kernel
theorem dL_law_1049 : decode cL_law 1049 = .ok (.iadd, 1) := by decide +kernel
theorem dL_law_1050 : decode cL_law 1050 = .ok (.iload 9, 2) := by decide +kernel
theorem dL_law_1052 : decode cL_law 1052 = .ok (.isub, 1) := by decide +kernel
theorem dL_law_1053 : decode cL_law 1053 = .ok (.bipush 59, 2) := by decide +kernel
theorem dL_law_1055 : decode cL_law 1055 = .ok (.if_icmp .le 7, 3) := by decide +kernel
theorem dL_law_1058 : decode cL_law 1058 = .ok (.iconst 1, 1) := by decide +kernel
theorem dL_law_1059 : decode cL_law 1059 = .ok (.goto 4, 3) := by decide +kernel
theorem dL_law_1062 : decode cL_law 1062 = .ok (.iconst 0, 1) := by decide +kernel
theorem dL_law_1063 : decode cL_law 1063 = .ok (.istore 13, 2) := by decide +kernel
theorem dL_law_1065 : decode cL_law 1065 = .ok (.iload 14, 2) := by decide +kernel
theorem dL_law_1067 : decode cL_law 1067 = .ok (.ifCond .eq 53, 3) := by decide +kernel
theorem dL_law_1070 : decode cL_law 1070 = .ok (.aload_n 3, 1) := by decide +kernel
theorem dL_law_1071 : decode cL_law 1071 = .ok (.iconst 5, 1) := by decide +kernel
theorem dL_law_1072 : decode cL_law 1072 = .ok (.iload 16, 2) := by decide +kernel
theorem dL_law_1074 : decode cL_law 1074 = .ok (.imul, 1) := by decide +kernel
theorem dL_law_1075 : decode cL_law 1075 = .ok (.iaload, 1) := by decide +kernel
theorem dL_law_1076 : decode cL_law 1076 = .ok (.bipush 100, 2) := by decide +kernel
theorem dL_law_1078 : decode cL_law 1078 = .ok (.irem, 1) := by decide +kernel
theorem dL_law_1079 : decode cL_law 1079 = .ok (.aload_n 3, 1) := by decide +kernel
theorem dL_law_1080 : decode cL_law 1080 = .ok (.iconst 5, 1) := by decide +kernel
theorem dL_law_1081 : decode cL_law 1081 = .ok (.iload 16, 2) := by decide +kernel
theorem dL_law_1083 : decode cL_law 1083 = .ok (.imul, 1) := by decide +kernel
theorem dL_law_1084 : decode cL_law 1084 = .ok (.iaload, 1) := by decide +kernel
theorem dL_law_1085 : decode cL_law 1085 = .ok (.bipush 100, 2) := by decide +kernel
theorem dL_law_1087 : decode cL_law 1087 = .ok (.idiv, 1) := by decide +kernel
theorem dL_law_1088 : decode cL_law 1088 = .ok (.iload 11, 2) := by decide +kernel
theorem dL_law_1090 : decode cL_law 1090 = .ok (.iadd, 1) := by decide +kernel
theorem dL_law_1091 : decode cL_law 1091 = .ok (.iload 9, 2) := by decide +kernel
theorem dL_law_1093 : decode cL_law 1093 = .ok (.isub, 1) := by decide +kernel
theorem dL_law_1094 : decode cL_law 1094 = .ok (.aload_n 3, 1) := by decide +kernel
theorem dL_law_1095 : decode cL_law 1095 = .ok (.iconst 5, 1) := by decide +kernel
theorem dL_law_1096 : decode cL_law 1096 = .ok (.iload 16, 2) := by decide +kernel
theorem dL_law_1098 : decode cL_law 1098 = .ok (.imul, 1) := by decide +kernel
theorem dL_law_1099 : decode cL_law 1099 = .ok (.iconst 1, 1) := by decide +kernel
theorem dL_law_1100 : decode cL_law 1100 = .ok (.iadd, 1) := by decide +kernel
theorem dL_law_1101 : decode cL_law 1101 = .ok (.iaload, 1) := by decide +kernel
theorem dL_law_1102 : decode cL_law 1102 = .ok (.iload 11, 2) := by decide +kernel
theorem dL_law_1104 : decode cL_law 1104 = .ok (.iadd, 1) := by decide +kernel
theorem dL_law_1105 : decode cL_law 1105 = .ok (.iload 9, 2) := by decide +kernel
theorem dL_law_1107 : decode cL_law 1107 = .ok (.isub, 1) := by decide +kernel
theorem dL_law_1108 : decode cL_law 1108 = .ok (.aload_n 2, 1) := by decide +kernel
theorem dL_law_1109 : decode cL_law 1109 = .ok (.aload_n 3, 1) := by decide +kernel
theorem dL_law_1110 : decode cL_law 1110 = .ok (.invokestatic 66, 3) := by decide +kernel
theorem dL_law_1113 : decode cL_law 1113 = .ok (.ifCond .ne 7, 3) := by decide +kernel
theorem dL_law_1116 : decode cL_law 1116 = .ok (.iconst 1, 1) := by decide +kernel
theorem dL_law_1117 : decode cL_law 1117 = .ok (.goto 4, 3) := by decide +kernel
theorem dL_law_1120 : decode cL_law 1120 = .ok (.iconst 0, 1) := by decide +kernel
theorem dL_law_1121 : decode cL_law 1121 = .ok (.istore 14, 2) := by decide +kernel
theorem dL_law_1123 : decode cL_law 1123 = .ok (.iinc 16 1, 3) := by decide +kernel
theorem dL_law_1126 : decode cL_law 1126 = .ok (.goto (-132), 3) := by decide +kernel
theorem dL_law_1129 : decode cL_law 1129 = .ok (.iload 13, 2) := by decide +kernel
theorem dL_law_1131 : decode cL_law 1131 = .ok (.ifCond .ne 303, 3) := by decide +kernel
theorem dL_law_1134 : decode cL_law 1134 = .ok (.iload 15, 2) := by decide +kernel
theorem dL_law_1136 : decode cL_law 1136 = .ok (.iload 12, 2) := by decide +kernel
theorem dL_law_1138 : decode cL_law 1138 = .ok (.iadd, 1) := by decide +kernel
theorem dL_law_1139 : decode cL_law 1139 = .ok (.bipush 12, 2) := by decide +kernel
theorem dL_law_1141 : decode cL_law 1141 = .ok (.if_icmp .le 6, 3) := by decide +kernel
theorem dL_law_1144 : decode cL_law 1144 = .ok (.goto 290, 3) := by decide +kernel
theorem dL_law_1147 : decode cL_law 1147 = .ok (.aload_n 1, 1) := by decide +kernel
theorem dL_law_1148 : decode cL_law 1148 = .ok (.iload 9, 2) := by decide +kernel
theorem dL_law_1150 : decode cL_law 1150 = .ok (.iload 10, 2) := by decide +kernel
theorem dL_law_1152 : decode cL_law 1152 = .ok (.iload 11, 2) := by decide +kernel
theorem dL_law_1154 : decode cL_law 1154 = .ok (.invokevirtual 97, 3) := by decide +kernel
theorem dL_law_1157 : decode cL_law 1157 = .ok (.iload 14, 2) := by decide +kernel
theorem dL_law_1159 : decode cL_law 1159 = .ok (.ifCond .eq 8, 3) := by decide +kernel
theorem dL_law_1162 : decode cL_law 1162 = .ok (.iload 12, 2) := by decide +kernel
theorem dL_law_1164 : decode cL_law 1164 = .ok (.goto 5, 3) := by decide +kernel
theorem dL_law_1167 : decode cL_law 1167 = .ok (.bipush (-5), 2) := by decide +kernel
theorem dL_law_1169 : decode cL_law 1169 = .ok (.if_icmp .eq 5, 3) := by decide +kernel
theorem dL_law_1172 : decode cL_law 1172 = .ok (.iconst 0, 1) := by decide +kernel
theorem dL_law_1173 : decode cL_law 1173 = .ok (.ireturn, 1) := by decide +kernel
theorem dL_law_1174 : decode cL_law 1174 = .ok (.iconst 0, 1) := by decide +kernel
theorem dL_law_1175 : decode cL_law 1175 = .ok (.istore 16, 2) := by decide +kernel
theorem dL_law_1177 : decode cL_law 1177 = .ok (.iload 16, 2) := by decide +kernel
theorem dL_law_1179 : decode cL_law 1179 = .ok (.iload 15, 2) := by decide +kernel
theorem dL_law_1181 : decode cL_law 1181 = .ok (.if_icmp .ge 97, 3) := by decide +kernel
theorem dL_law_1184 : decode cL_law 1184 = .ok (.iload 14, 2) := by decide +kernel
theorem dL_law_1186 : decode cL_law 1186 = .ok (.ifCond .eq 92, 3) := by decide +kernel
theorem dL_law_1189 : decode cL_law 1189 = .ok (.aload_n 3, 1) := by decide +kernel
theorem dL_law_1190 : decode cL_law 1190 = .ok (.iconst 5, 1) := by decide +kernel
theorem dL_law_1191 : decode cL_law 1191 = .ok (.iload 16, 2) := by decide +kernel
theorem dL_law_1193 : decode cL_law 1193 = .ok (.imul, 1) := by decide +kernel
theorem dL_law_1194 : decode cL_law 1194 = .ok (.iaload, 1) := by decide +kernel
theorem dL_law_1195 : decode cL_law 1195 = .ok (.bipush 100, 2) := by decide +kernel
theorem dL_law_1197 : decode cL_law 1197 = .ok (.idiv, 1) := by decide +kernel
theorem dL_law_1198 : decode cL_law 1198 = .ok (.istore 17, 2) := by decide +kernel
theorem dL_law_1200 : decode cL_law 1200 = .ok (.iload 17, 2) := by decide +kernel
theorem dL_law_1202 : decode cL_law 1202 = .ok (.iload 9, 2) := by decide +kernel
theorem dL_law_1204 : decode cL_law 1204 = .ok (.if_icmp .lt 68, 3) := by decide +kernel
theorem dL_law_1207 : decode cL_law 1207 = .ok (.aload_n 3, 1) := by decide +kernel
theorem dL_law_1208 : decode cL_law 1208 = .ok (.iconst 5, 1) := by decide +kernel
theorem dL_law_1209 : decode cL_law 1209 = .ok (.iload 16, 2) := by decide +kernel
theorem dL_law_1211 : decode cL_law 1211 = .ok (.imul, 1) := by decide +kernel
theorem dL_law_1212 : decode cL_law 1212 = .ok (.iconst 1, 1) := by decide +kernel
theorem dL_law_1213 : decode cL_law 1213 = .ok (.iadd, 1) := by decide +kernel
theorem dL_law_1214 : decode cL_law 1214 = .ok (.iaload, 1) := by decide +kernel
theorem dL_law_1215 : decode cL_law 1215 = .ok (.iload 10, 2) := by decide +kernel
theorem dL_law_1217 : decode cL_law 1217 = .ok (.if_icmp .gt 55, 3) := by decide +kernel
theorem dL_law_1220 : decode cL_law 1220 = .ok (.aload_n 3, 1) := by decide +kernel
theorem dL_law_1221 : decode cL_law 1221 = .ok (.iconst 5, 1) := by decide +kernel
theorem dL_law_1222 : decode cL_law 1222 = .ok (.iload 16, 2) := by decide +kernel
theorem dL_law_1224 : decode cL_law 1224 = .ok (.imul, 1) := by decide +kernel
theorem dL_law_1225 : decode cL_law 1225 = .ok (.iaload, 1) := by decide +kernel
theorem dL_law_1226 : decode cL_law 1226 = .ok (.bipush 100, 2) := by decide +kernel
theorem dL_law_1228 : decode cL_law 1228 = .ok (.irem, 1) := by decide +kernel
theorem dL_law_1229 : decode cL_law 1229 = .ok (.iload 17, 2) := by decide +kernel
theorem dL_law_1231 : decode cL_law 1231 = .ok (.iload 11, 2) := by decide +kernel
theorem dL_law_1233 : decode cL_law 1233 = .ok (.iadd, 1) := by decide +kernel
theorem dL_law_1234 : decode cL_law 1234 = .ok (.iload 9, 2) := by decide +kernel
theorem dL_law_1236 : decode cL_law 1236 = .ok (.isub, 1) := by decide +kernel
theorem dL_law_1237 : decode cL_law 1237 = .ok (.aload_n 3, 1) := by decide +kernel
theorem dL_law_1238 : decode cL_law 1238 = .ok (.iconst 5, 1) := by decide +kernel
theorem dL_law_1239 : decode cL_law 1239 = .ok (.iload 16, 2) := by decide +kernel
theorem dL_law_1241 : decode cL_law 1241 = .ok (.imul, 1) := by decide +kernel
theorem dL_law_1242 : decode cL_law 1242 = .ok (.iconst 1, 1) := by decide +kernel
theorem dL_law_1243 : decode cL_law 1243 = .ok (.iadd, 1) := by decide +kernel
theorem dL_law_1244 : decode cL_law 1244 = .ok (.iaload, 1) := by decide +kernel
theorem dL_law_1245 : decode cL_law 1245 = .ok (.iload 11, 2) := by decide +kernel
theorem dL_law_1247 : decode cL_law 1247 = .ok (.iadd, 1) := by decide +kernel
theorem dL_law_1248 : decode cL_law 1248 = .ok (.iload 9, 2) := by decide +kernel
theorem dL_law_1250 : decode cL_law 1250 = .ok (.isub, 1) := by decide +kernel
theorem dL_law_1251 : decode cL_law 1251 = .ok (.aload_n 3, 1) := by decide +kernel
theorem dL_law_1252 : decode cL_law 1252 = .ok (.iconst 5, 1) := by decide +kernel
theorem dL_law_1253 : decode cL_law 1253 = .ok (.iload 16, 2) := by decide +kernel
theorem dL_law_1255 : decode cL_law 1255 = .ok (.imul, 1) := by decide +kernel
theorem dL_law_1256 : decode cL_law 1256 = .ok (.iconst 2, 1) := by decide +kernel
theorem dL_law_1257 : decode cL_law 1257 = .ok (.iadd, 1) := by decide +kernel
theorem dL_law_1258 : decode cL_law 1258 = .ok (.iaload, 1) := by decide +kernel
theorem dL_law_1259 : decode cL_law 1259 = .ok (.aload_n 3, 1) := by decide +kernel
theorem dL_law_1260 : decode cL_law 1260 = .ok (.iconst 5, 1) := by decide +kernel
theorem dL_law_1261 : decode cL_law 1261 = .ok (.iload 16, 2) := by decide +kernel
theorem dL_law_1263 : decode cL_law 1263 = .ok (.imul, 1) := by decide +kernel
theorem dL_law_1264 : decode cL_law 1264 = .ok (.iconst 3, 1) := by decide +kernel
theorem dL_law_1265 : decode cL_law 1265 = .ok (.iadd, 1) := by decide +kernel
theorem dL_law_1266 : decode cL_law 1266 = .ok (.iaload, 1) := by decide +kernel
theorem dL_law_1267 : decode cL_law 1267 = .ok (.aload_n 2, 1) := by decide +kernel
theorem dL_law_1268 : decode cL_law 1268 = .ok (.aload_n 3, 1) := by decide +kernel
theorem dL_law_1269 : decode cL_law 1269 = .ok (.invokestatic 73, 3) := by decide +kernel
theorem dL_law_1272 : decode cL_law 1272 = .ok (.iinc 16 1, 3) := by decide +kernel
theorem dL_law_1275 : decode cL_law 1275 = .ok (.goto (-98), 3) := by decide +kernel
theorem dL_law_1278 : decode cL_law 1278 = .ok (.aload_n 2, 1) := by decide +kernel
theorem dL_law_1279 : decode cL_law 1279 = .ok (.aload_n 3, 1) := by decide +kernel
theorem dL_law_1280 : decode cL_law 1280 = .ok (.invokestatic 77, 3) := by decide +kernel
theorem dL_law_1283 : decode cL_law 1283 = .ok (.goto 107, 3) := by decide +kernel
theorem dL_law_1286 : decode cL_law 1286 = .ok (.iload 6, 2) := by decide +kernel
theorem dL_law_1288 : decode cL_law 1288 = .ok (.iconst 4, 1) := by decide +kernel
theorem dL_law_1289 : decode cL_law 1289 = .ok (.ishr, 1) := by decide +kernel
theorem dL_law_1290 : decode cL_law 1290 = .ok (.iconst 4, 1) := by decide +kernel
theorem dL_law_1291 : decode cL_law 1291 = .ok (.invokestatic 41, 3) := by decide +kernel
theorem dL_law_1294 : decode cL_law 1294 = .ok (.istore 10, 2) := by decide +kernel
theorem dL_law_1296 : decode cL_law 1296 = .ok (.iload 10, 2) := by decide +kernel
theorem dL_law_1298 : decode cL_law 1298 = .ok (.ifCond .ne 18, 3) := by decide +kernel
theorem dL_law_1301 : decode cL_law 1301 = .ok (.iconst 1, 1) := by decide +kernel
theorem dL_law_1302 : decode cL_law 1302 = .ok (.iload 6, 2) := by decide +kernel
theorem dL_law_1304 : decode cL_law 1304 = .ok (.bipush 8, 2) := by decide +kernel
theorem dL_law_1306 : decode cL_law 1306 = .ok (.ishr, 1) := by decide +kernel
theorem dL_law_1307 : decode cL_law 1307 = .ok (.bipush 9, 2) := by decide +kernel
theorem dL_law_1309 : decode cL_law 1309 = .ok (.invokestatic 41, 3) := by decide +kernel
theorem dL_law_1312 : decode cL_law 1312 = .ok (.iadd, 1) := by decide +kernel
theorem dL_law_1313 : decode cL_law 1313 = .ok (.goto 52, 3) := by decide +kernel
theorem dL_law_1316 : decode cL_law 1316 = .ok (.iload 10, 2) := by decide +kernel
theorem dL_law_1318 : decode cL_law 1318 = .ok (.iconst 1, 1) := by decide +kernel
theorem dL_law_1319 : decode cL_law 1319 = .ok (.if_icmp .ne 17, 3) := by decide +kernel
theorem dL_law_1322 : decode cL_law 1322 = .ok (.iconst 1, 1) := by decide +kernel
theorem dL_law_1323 : decode cL_law 1323 = .ok (.iload 6, 2) := by decide +kernel
theorem dL_law_1325 : decode cL_law 1325 = .ok (.bipush 8, 2) := by decide +kernel
theorem dL_law_1327 : decode cL_law 1327 = .ok (.ishr, 1) := by decide +kernel
theorem dL_law_1328 : decode cL_law 1328 = .ok (.iconst 4, 1) := by decide +kernel
theorem dL_law_1329 : decode cL_law 1329 = .ok (.invokestatic 41, 3) := by decide +kernel
theorem dL_law_1332 : decode cL_law 1332 = .ok (.iadd, 1) := by decide +kernel
theorem dL_law_1333 : decode cL_law 1333 = .ok (.goto 32, 3) := by decide +kernel
theorem dL_law_1336 : decode cL_law 1336 = .ok (.iload 10, 2) := by decide +kernel
theorem dL_law_1338 : decode cL_law 1338 = .ok (.iconst 2, 1) := by decide +kernel
theorem dL_law_1339 : decode cL_law 1339 = .ok (.if_icmp .ne 15, 3) := by decide +kernel
theorem dL_law_1342 : decode cL_law 1342 = .ok (.iload 6, 2) := by decide +kernel
theorem dL_law_1344 : decode cL_law 1344 = .ok (.bipush 8, 2) := by decide +kernel
theorem dL_law_1346 : decode cL_law 1346 = .ok (.ishr, 1) := by decide +kernel
theorem dL_law_1347 : decode cL_law 1347 = .ok (.iconst 5, 1) := by decide +kernel
theorem dL_law_1348 : decode cL_law 1348 = .ok (.invokestatic 41, 3) := by decide +kernel
theorem dL_law_1351 : decode cL_law 1351 = .ok (.goto 14, 3) := by decide +kernel
theorem dL_law_1354 : decode cL_law 1354 = .ok (.iconst 2, 1) := by decide +kernel
theorem dL_law_1355 : decode cL_law 1355 = .ok (.iload 6, 2) := by decide +kernel
theorem dL_law_1357 : decode cL_law 1357 = .ok (.bipush 8, 2) := by decide +kernel
theorem dL_law_1359 : decode cL_law 1359 = .ok (.ishr, 1) := by decide +kernel
theorem dL_law_1360 : decode cL_law 1360 = .ok (.iconst 4, 1) := by decide +kernel
theorem dL_law_1361 : decode cL_law 1361 = .ok (.invokestatic 41, 3) := by decide +kernel
theorem dL_law_1364 : decode cL_law 1364 = .ok (.iadd, 1) := by decide +kernel
theorem dL_law_1365 : decode cL_law 1365 = .ok (.istore 11, 2) := by decide +kernel
theorem dL_law_1367 : decode cL_law 1367 = .ok (.aload_n 1, 1) := by decide +kernel
theorem dL_law_1368 : decode cL_law 1368 = .ok (.iload 10, 2) := by decide +kernel
theorem dL_law_1370 : decode cL_law 1370 = .ok (.iload 11, 2) := by decide +kernel
theorem dL_law_1372 : decode cL_law 1372 = .ok (.invokevirtual 100, 3) := by decide +kernel
theorem dL_law_1375 : decode cL_law 1375 = .ok (.aload_n 2, 1) := by decide +kernel
theorem dL_law_1376 : decode cL_law 1376 = .ok (.iload 10, 2) := by decide +kernel
theorem dL_law_1378 : decode cL_law 1378 = .ok (.iaload, 1) := by decide +kernel
theorem dL_law_1379 : decode cL_law 1379 = .ok (.if_icmp .eq 5, 3) := by decide +kernel
theorem dL_law_1382 : decode cL_law 1382 = .ok (.iconst 0, 1) := by decide +kernel
theorem dL_law_1383 : decode cL_law 1383 = .ok (.ireturn, 1) := by decide +kernel
theorem dL_law_1384 : decode cL_law 1384 = .ok (.aload_n 2, 1) := by decide +kernel
theorem dL_law_1385 : decode cL_law 1385 = .ok (.iload 10, 2) := by decide +kernel
theorem dL_law_1387 : decode cL_law 1387 = .ok (.iload 11, 2) := by decide +kernel
theorem dL_law_1389 : decode cL_law 1389 = .ok (.iastore, 1) := by decide +kernel
theorem dL_law_1390 : decode cL_law 1390 = .ok (.aload_n 1, 1) := by decide +kernel
theorem dL_law_1391 : decode cL_law 1391 = .ok (.iload 6, 2) := by decide +kernel
theorem dL_law_1393 : decode cL_law 1393 = .ok (.iconst 3, 1) := by decide +kernel
theorem dL_law_1394 : decode cL_law 1394 = .ok (.ishr, 1) := by decide +kernel
theorem dL_law_1395 : decode cL_law 1395 = .ok (.aload_n 2, 1) := by decide +kernel
theorem dL_law_1396 : decode cL_law 1396 = .ok (.aload_n 3, 1) := by decide +kernel
theorem dL_law_1397 : decode cL_law 1397 = .ok (.aload 4, 2) := by decide +kernel
theorem dL_law_1399 : decode cL_law 1399 = .ok (.invokestatic 103, 3) := by decide +kernel
theorem dL_law_1402 : decode cL_law 1402 = .ok (.ifCond .eq 30, 3) := by decide +kernel
theorem dL_law_1405 : decode cL_law 1405 = .ok (.iload 6, 2) := by decide +kernel
theorem dL_law_1407 : decode cL_law 1407 = .ok (.bipush 14, 2) := by decide +kernel
theorem dL_law_1409 : decode cL_law 1409 = .ok (.ishr, 1) := by decide +kernel
theorem dL_law_1410 : decode cL_law 1410 = .ok (.iconst 4, 1) := by decide +kernel
theorem dL_law_1411 : decode cL_law 1411 = .ok (.invokestatic 41, 3) := by decide +kernel
theorem dL_law_1414 : decode cL_law 1414 = .ok (.ifCond .ne 20, 3) := by decide +kernel
theorem dL_law_1417 : decode cL_law 1417 = .ok (.aload_n 1, 1) := by decide +kernel
theorem dL_law_1418 : decode cL_law 1418 = .ok (.iload 6, 2) := by decide +kernel
theorem dL_law_1420 : decode cL_law 1420 = .ok (.iconst 2, 1) := by decide +kernel
theorem dL_law_1421 : decode cL_law 1421 = .ok (.ishr, 1) := by decide +kernel
theorem dL_law_1422 : decode cL_law 1422 = .ok (.aload_n 2, 1) := by decide +kernel
theorem dL_law_1423 : decode cL_law 1423 = .ok (.aload_n 3, 1) := by decide +kernel
theorem dL_law_1424 : decode cL_law 1424 = .ok (.aload 4, 2) := by decide +kernel
theorem dL_law_1426 : decode cL_law 1426 = .ok (.invokestatic 107, 3) := by decide +kernel
theorem dL_law_1429 : decode cL_law 1429 = .ok (.ifCond .ne 5, 3) := by decide +kernel
theorem dL_law_1432 : decode cL_law 1432 = .ok (.iconst 0, 1) := by decide +kernel
theorem dL_law_1433 : decode cL_law 1433 = .ok (.ireturn, 1) := by decide +kernel
theorem dL_law_1434 : decode cL_law 1434 = .ok (.iinc 5 1, 3) := by decide +kernel
theorem dL_law_1437 : decode cL_law 1437 = .ok (.goto (-1395), 3) := by decide +kernel
theorem dL_law_1440 : decode cL_law 1440 = .ok (.iconst 1, 1) := by decide +kernel
theorem dL_law_1441 : decode cL_law 1441 = .ok (.ireturn, 1) := by decide +kernel
