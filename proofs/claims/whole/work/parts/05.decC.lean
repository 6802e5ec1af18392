theorem dX12_init_0 : decode cX12_init 0 = .ok (.aload_n 0, 1) := by decide +kernel
theorem dX12_init_1 : decode cX12_init 1 = .ok (.invokespecial 1, 3) := by decide +kernel
theorem dX12_init_4 : decode cX12_init 4 = .ok (.aload_n 0, 1) := by decide +kernel
theorem dX12_init_5 : decode cX12_init 5 = .ok (.sipush 700, 3) := by decide +kernel
theorem dX12_init_8 : decode cX12_init 8 = .ok (.newarray .int, 2) := by decide +kernel
theorem dX12_init_10 : decode cX12_init 10 = .ok (.putfield 7, 3) := by decide +kernel
theorem dX12_init_13 : decode cX12_init 13 = .ok (.aload_n 0, 1) := by decide +kernel
theorem dX12_init_14 : decode cX12_init 14 = .ok (.bipush 16, 2) := by decide +kernel
theorem dX12_init_16 : decode cX12_init 16 = .ok (.newarray .int, 2) := by decide +kernel
theorem dX12_init_18 : decode cX12_init 18 = .ok (.dup, 1) := by decide +kernel
theorem dX12_init_19 : decode cX12_init 19 = .ok (.iconst 0, 1) := by decide +kernel
theorem dX12_init_20 : decode cX12_init 20 = .ok (.iconst 0, 1) := by decide +kernel
theorem dX12_init_21 : decode cX12_init 21 = .ok (.iastore, 1) := by decide +kernel
theorem dX12_init_22 : decode cX12_init 22 = .ok (.dup, 1) := by decide +kernel
theorem dX12_init_23 : decode cX12_init 23 = .ok (.iconst 1, 1) := by decide +kernel
theorem dX12_init_24 : decode cX12_init 24 = .ok (.iconst 0, 1) := by decide +kernel
theorem dX12_init_25 : decode cX12_init 25 = .ok (.iastore, 1) := by decide +kernel
theorem dX12_init_26 : decode cX12_init 26 = .ok (.dup, 1) := by decide +kernel
theorem dX12_init_27 : decode cX12_init 27 = .ok (.iconst 2, 1) := by decide +kernel
theorem dX12_init_28 : decode cX12_init 28 = .ok (.iconst 0, 1) := by decide +kernel
theorem dX12_init_29 : decode cX12_init 29 = .ok (.iastore, 1) := by decide +kernel
theorem dX12_init_30 : decode cX12_init 30 = .ok (.dup, 1) := by decide +kernel
theorem dX12_init_31 : decode cX12_init 31 = .ok (.iconst 3, 1) := by decide +kernel
theorem dX12_init_32 : decode cX12_init 32 = .ok (.iconst 0, 1) := by decide +kernel
theorem dX12_init_33 : decode cX12_init 33 = .ok (.iastore, 1) := by decide +kernel
theorem dX12_init_34 : decode cX12_init 34 = .ok (.dup, 1) := by decide +kernel
theorem dX12_init_35 : decode cX12_init 35 = .ok (.iconst 4, 1) := by decide +kernel
theorem dX12_init_36 : decode cX12_init 36 = .ok (.iconst 0, 1) := by decide +kernel
theorem dX12_init_37 : decode cX12_init 37 = .ok (.iastore, 1) := by decide +kernel
theorem dX12_init_38 : decode cX12_init 38 = .ok (.dup, 1) := by decide +kernel
theorem dX12_init_39 : decode cX12_init 39 = .ok (.iconst 5, 1) := by decide +kernel
theorem dX12_init_40 : decode cX12_init 40 = .ok (.bipush 100, 2) := by decide +kernel
theorem dX12_init_42 : decode cX12_init 42 = .ok (.iastore, 1) := by decide +kernel
theorem dX12_init_43 : decode cX12_init 43 = .ok (.dup, 1) := by decide +kernel
theorem dX12_init_44 : decode cX12_init 44 = .ok (.bipush 6, 2) := by decide +kernel
theorem dX12_init_46 : decode cX12_init 46 = .ok (.iconst 0, 1) := by decide +kernel
theorem dX12_init_47 : decode cX12_init 47 = .ok (.iastore, 1) := by decide +kernel
theorem dX12_init_48 : decode cX12_init 48 = .ok (.dup, 1) := by decide +kernel
theorem dX12_init_49 : decode cX12_init 49 = .ok (.bipush 7, 2) := by decide +kernel
theorem dX12_init_51 : decode cX12_init 51 = .ok (.iconst 0, 1) := by decide +kernel
theorem dX12_init_52 : decode cX12_init 52 = .ok (.iastore, 1) := by decide +kernel
theorem dX12_init_53 : decode cX12_init 53 = .ok (.dup, 1) := by decide +kernel
theorem dX12_init_54 : decode cX12_init 54 = .ok (.bipush 8, 2) := by decide +kernel
theorem dX12_init_56 : decode cX12_init 56 = .ok (.iconst 0, 1) := by decide +kernel
theorem dX12_init_57 : decode cX12_init 57 = .ok (.iastore, 1) := by decide +kernel
theorem dX12_init_58 : decode cX12_init 58 = .ok (.dup, 1) := by decide +kernel
theorem dX12_init_59 : decode cX12_init 59 = .ok (.bipush 9, 2) := by decide +kernel
theorem dX12_init_61 : decode cX12_init 61 = .ok (.iconst 0, 1) := by decide +kernel
theorem dX12_init_62 : decode cX12_init 62 = .ok (.iastore, 1) := by decide +kernel
theorem dX12_init_63 : decode cX12_init 63 = .ok (.dup, 1) := by decide +kernel
theorem dX12_init_64 : decode cX12_init 64 = .ok (.bipush 10, 2) := by decide +kernel
theorem dX12_init_66 : decode cX12_init 66 = .ok (.iconst 0, 1) := by decide +kernel
theorem dX12_init_67 : decode cX12_init 67 = .ok (.iastore, 1) := by decide +kernel
theorem dX12_init_68 : decode cX12_init 68 = .ok (.dup, 1) := by decide +kernel
theorem dX12_init_69 : decode cX12_init 69 = .ok (.bipush 11, 2) := by decide +kernel
theorem dX12_init_71 : decode cX12_init 71 = .ok (.iconst 0, 1) := by decide +kernel
theorem dX12_init_72 : decode cX12_init 72 = .ok (.iastore, 1) := by decide +kernel
theorem dX12_init_73 : decode cX12_init 73 = .ok (.dup, 1) := by decide +kernel
theorem dX12_init_74 : decode cX12_init 74 = .ok (.bipush 12, 2) := by decide +kernel
theorem dX12_init_76 : decode cX12_init 76 = .ok (.iconst 0, 1) := by decide +kernel
theorem dX12_init_77 : decode cX12_init 77 = .ok (.iastore, 1) := by decide +kernel
theorem dX12_init_78 : decode cX12_init 78 = .ok (.dup, 1) := by decide +kernel
theorem dX12_init_79 : decode cX12_init 79 = .ok (.bipush 13, 2) := by decide +kernel
theorem dX12_init_81 : decode cX12_init 81 = .ok (.bipush 100, 2) := by decide +kernel
theorem dX12_init_83 : decode cX12_init 83 = .ok (.iastore, 1) := by decide +kernel
theorem dX12_init_84 : decode cX12_init 84 = .ok (.dup, 1) := by decide +kernel
theorem dX12_init_85 : decode cX12_init 85 = .ok (.bipush 14, 2) := by decide +kernel
theorem dX12_init_87 : decode cX12_init 87 = .ok (.iconst 0, 1) := by decide +kernel
theorem dX12_init_88 : decode cX12_init 88 = .ok (.iastore, 1) := by decide +kernel
theorem dX12_init_89 : decode cX12_init 89 = .ok (.dup, 1) := by decide +kernel
theorem dX12_init_90 : decode cX12_init 90 = .ok (.bipush 15, 2) := by decide +kernel
theorem dX12_init_92 : decode cX12_init 92 = .ok (.iconst 0, 1) := by decide +kernel
theorem dX12_init_93 : decode cX12_init 93 = .ok (.iastore, 1) := by decide +kernel
theorem dX12_init_94 : decode cX12_init 94 = .ok (.putfield 13, 3) := by decide +kernel
theorem dX12_init_97 : decode cX12_init 97 = .ok (.aload_n 0, 1) := by decide +kernel
theorem dX12_init_98 : decode cX12_init 98 = .ok (.bipush 12, 2) := by decide +kernel
theorem dX12_init_100 : decode cX12_init 100 = .ok (.newarray .int, 2) := by decide +kernel
theorem dX12_init_102 : decode cX12_init 102 = .ok (.putfield 16, 3) := by decide +kernel
theorem dX12_init_105 : decode cX12_init 105 = .ok (.aload_n 0, 1) := by decide +kernel
theorem dX12_init_106 : decode cX12_init 106 = .ok (.bipush 12, 2) := by decide +kernel
theorem dX12_init_108 : decode cX12_init 108 = .ok (.newarray .int, 2) := by decide +kernel
theorem dX12_init_110 : decode cX12_init 110 = .ok (.putfield 19, 3) := by decide +kernel
theorem dX12_init_113 : decode cX12_init 113 = .ok (.aload_n 0, 1) := by decide +kernel
theorem dX12_init_114 : decode cX12_init 114 = .ok (.bipush 12, 2) := by decide +kernel
theorem dX12_init_116 : decode cX12_init 116 = .ok (.newarray .int, 2) := by decide +kernel
theorem dX12_init_118 : decode cX12_init 118 = .ok (.putfield 22, 3) := by decide +kernel
theorem dX12_init_121 : decode cX12_init 121 = .ok (.aload_n 0, 1) := by decide +kernel
theorem dX12_init_122 : decode cX12_init 122 = .ok (.bipush 12, 2) := by decide +kernel
theorem dX12_init_124 : decode cX12_init 124 = .ok (.newarray .int, 2) := by decide +kernel
theorem dX12_init_126 : decode cX12_init 126 = .ok (.putfield 25, 3) := by decide +kernel
theorem dX12_init_129 : decode cX12_init 129 = .ok (.aload_n 0, 1) := by decide +kernel
theorem dX12_init_130 : decode cX12_init 130 = .ok (.bipush 12, 2) := by decide +kernel
theorem dX12_init_132 : decode cX12_init 132 = .ok (.newarray .int, 2) := by decide +kernel
theorem dX12_init_134 : decode cX12_init 134 = .ok (.putfield 28, 3) := by decide +kernel
theorem dX12_init_137 : decode cX12_init 137 = .ok (.aload_n 0, 1) := by decide +kernel
theorem dX12_init_138 : decode cX12_init 138 = .ok (.bipush 12, 2) := by decide +kernel
theorem dX12_init_140 : decode cX12_init 140 = .ok (.newarray .int, 2) := by decide +kernel
theorem dX12_init_142 : decode cX12_init 142 = .ok (.putfield 31, 3) := by decide +kernel
theorem dX12_init_145 : decode cX12_init 145 = .ok (.aload_n 0, 1) := by decide +kernel
theorem dX12_init_146 : decode cX12_init 146 = .ok (.bipush 24, 2) := by decide +kernel
theorem dX12_init_148 : decode cX12_init 148 = .ok (.newarray .int, 2) := by decide +kernel
theorem dX12_init_150 : decode cX12_init 150 = .ok (.putfield 34, 3) := by decide +kernel
theorem dX12_init_153 : decode cX12_init 153 = .ok (.aload_n 0, 1) := by decide +kernel
theorem dX12_init_154 : decode cX12_init 154 = .ok (.bipush 24, 2) := by decide +kernel
theorem dX12_init_156 : decode cX12_init 156 = .ok (.newarray .int, 2) := by decide +kernel
theorem dX12_init_158 : decode cX12_init 158 = .ok (.putfield 37, 3) := by decide +kernel
theorem dX12_init_161 : decode cX12_init 161 = .ok (.aload_n 0, 1) := by decide +kernel
theorem dX12_init_162 : decode cX12_init 162 = .ok (.bipush 24, 2) := by decide +kernel
theorem dX12_init_164 : decode cX12_init 164 = .ok (.newarray .int, 2) := by decide +kernel
theorem dX12_init_166 : decode cX12_init 166 = .ok (.putfield 40, 3) := by decide +kernel
theorem dX12_init_169 : decode cX12_init 169 = .ok (.aload_n 0, 1) := by decide +kernel
theorem dX12_init_170 : decode cX12_init 170 = .ok (.bipush 20, 2) := by decide +kernel
theorem dX12_init_172 : decode cX12_init 172 = .ok (.newarray .int, 2) := by decide +kernel
theorem dX12_init_174 : decode cX12_init 174 = .ok (.putfield 43, 3) := by decide +kernel
theorem dX12_init_177 : decode cX12_init 177 = .ok (.aload_n 0, 1) := by decide +kernel
theorem dX12_init_178 : decode cX12_init 178 = .ok (.bipush 20, 2) := by decide +kernel
theorem dX12_init_180 : decode cX12_init 180 = .ok (.newarray .int, 2) := by decide +kernel
theorem dX12_init_182 : decode cX12_init 182 = .ok (.putfield 46, 3) := by decide +kernel
theorem dX12_init_185 : decode cX12_init 185 = .ok (.aload_n 0, 1) := by decide +kernel
theorem dX12_init_186 : decode cX12_init 186 = .ok (.bipush 20, 2) := by decide +kernel
theorem dX12_init_188 : decode cX12_init 188 = .ok (.newarray .int, 2) := by decide +kernel
theorem dX12_init_190 : decode cX12_init 190 = .ok (.putfield 49, 3) := by decide +kernel
theorem dX12_init_193 : decode cX12_init 193 = .ok (.aload_n 0, 1) := by decide +kernel
theorem dX12_init_194 : decode cX12_init 194 = .ok (.bipush 16, 2) := by decide +kernel
theorem dX12_init_196 : decode cX12_init 196 = .ok (.newarray .int, 2) := by decide +kernel
theorem dX12_init_198 : decode cX12_init 198 = .ok (.putfield 52, 3) := by decide +kernel
theorem dX12_init_201 : decode cX12_init 201 = .ok (.aload_n 0, 1) := by decide +kernel
theorem dX12_init_202 : decode cX12_init 202 = .ok (.bipush 16, 2) := by decide +kernel
theorem dX12_init_204 : decode cX12_init 204 = .ok (.newarray .int, 2) := by decide +kernel
theorem dX12_init_206 : decode cX12_init 206 = .ok (.putfield 55, 3) := by decide +kernel
theorem dX12_init_209 : decode cX12_init 209 = .ok (.aload_n 0, 1) := by decide +kernel
theorem dX12_init_210 : decode cX12_init 210 = .ok (.bipush 16, 2) := by decide +kernel
theorem dX12_init_212 : decode cX12_init 212 = .ok (.newarray .int, 2) := by decide +kernel
theorem dX12_init_214 : decode cX12_init 214 = .ok (.putfield 58, 3) := by decide +kernel
theorem dX12_init_217 : decode cX12_init 217 = .ok (.aload_n 0, 1) := by decide +kernel
theorem dX12_init_218 : decode cX12_init 218 = .ok (.bipush 6, 2) := by decide +kernel
theorem dX12_init_220 : decode cX12_init 220 = .ok (.newarray .int, 2) := by decide +kernel
theorem dX12_init_222 : decode cX12_init 222 = .ok (.putfield 61, 3) := by decide +kernel
theorem dX12_init_225 : decode cX12_init 225 = .ok (.aload_n 0, 1) := by decide +kernel
theorem dX12_init_226 : decode cX12_init 226 = .ok (.bipush 6, 2) := by decide +kernel
theorem dX12_init_228 : decode cX12_init 228 = .ok (.newarray .int, 2) := by decide +kernel
theorem dX12_init_230 : decode cX12_init 230 = .ok (.putfield 64, 3) := by decide +kernel
theorem dX12_init_233 : decode cX12_init 233 = .ok (.aload_n 0, 1) := by decide +kernel
theorem dX12_init_234 : decode cX12_init 234 = .ok (.sipush 128, 3) := by decide +kernel
theorem dX12_init_237 : decode cX12_init 237 = .ok (.newarray .int, 2) := by decide +kernel
theorem dX12_init_239 : decode cX12_init 239 = .ok (.putfield 67, 3) := by decide +kernel
theorem dX12_init_242 : decode cX12_init 242 = .ok (.aload_n 0, 1) := by decide +kernel
theorem dX12_init_243 : decode cX12_init 243 = .ok (.sipush 128, 3) := by decide +kernel
theorem dX12_init_246 : decode cX12_init 246 = .ok (.newarray .int, 2) := by decide +kernel
theorem dX12_init_248 : decode cX12_init 248 = .ok (.putfield 70, 3) := by decide +kernel
theorem dX12_init_251 : decode cX12_init 251 = .ok (.aload_n 0, 1) := by decide +kernel
theorem dX12_init_252 : decode cX12_init 252 = .ok (.iconst (-1), 1) := by decide +kernel
theorem dX12_init_253 : decode cX12_init 253 = .ok (.putfield 73, 3) := by decide +kernel
theorem dX12_init_256 : decode cX12_init 256 = .ok (.aload_n 0, 1) := by decide +kernel
theorem dX12_init_257 : decode cX12_init 257 = .ok (.bipush 7, 2) := by decide +kernel
theorem dX12_init_259 : decode cX12_init 259 = .ok (.newarray .long, 2) := by decide +kernel
theorem dX12_init_261 : decode cX12_init 261 = .ok (.putfield 77, 3) := by decide +kernel
theorem dX12_init_264 : decode cX12_init 264 = .ok (.aload_n 0, 1) := by decide +kernel
theorem dX12_init_265 : decode cX12_init 265 = .ok (.bipush 64, 2) := by decide +kernel
theorem dX12_init_267 : decode cX12_init 267 = .ok (.newarray .long, 2) := by decide +kernel
theorem dX12_init_269 : decode cX12_init 269 = .ok (.putfield 81, 3) := by decide +kernel
theorem dX12_init_272 : decode cX12_init 272 = .ok (.aload_n 0, 1) := by decide +kernel
theorem dX12_init_273 : decode cX12_init 273 = .ok (.bipush 23, 2) := by decide +kernel
theorem dX12_init_275 : decode cX12_init 275 = .ok (.newarray .int, 2) := by decide +kernel
theorem dX12_init_277 : decode cX12_init 277 = .ok (.putfield 84, 3) := by decide +kernel
theorem dX12_init_280 : decode cX12_init 280 = .ok (.aload_n 0, 1) := by decide +kernel
theorem dX12_init_281 : decode cX12_init 281 = .ok (.bipush 23, 2) := by decide +kernel
theorem dX12_init_283 : decode cX12_init 283 = .ok (.newarray .int, 2) := by decide +kernel
theorem dX12_init_285 : decode cX12_init 285 = .ok (.putfield 87, 3) := by decide +kernel
theorem dX12_init_288 : decode cX12_init 288 = .ok (.aload_n 0, 1) := by decide +kernel
theorem dX12_init_289 : decode cX12_init 289 = .ok (.bipush 23, 2) := by decide +kernel
theorem dX12_init_291 : decode cX12_init 291 = .ok (.newarray .int, 2) := by decide +kernel
theorem dX12_init_293 : decode cX12_init 293 = .ok (.putfield 90, 3) := by decide +kernel
theorem dX12_init_296 : decode cX12_init 296 = .ok (.aload_n 0, 1) := by decide +kernel
theorem dX12_init_297 : decode cX12_init 297 = .ok (.sipush 138, 3) := by decide +kernel
theorem dX12_init_300 : decode cX12_init 300 = .ok (.newarray .int, 2) := by decide +kernel
theorem dX12_init_302 : decode cX12_init 302 = .ok (.putfield 93, 3) := by decide +kernel
theorem dX12_init_305 : decode cX12_init 305 = .ok (.aload_n 0, 1) := by decide +kernel
theorem dX12_init_306 : decode cX12_init 306 = .ok (.sipush 138, 3) := by decide +kernel
theorem dX12_init_309 : decode cX12_init 309 = .ok (.newarray .int, 2) := by decide +kernel
theorem dX12_init_311 : decode cX12_init 311 = .ok (.putfield 96, 3) := by decide +kernel
theorem dX12_init_314 : decode cX12_init 314 = .ok (.aload_n 0, 1) := by decide +kernel
theorem dX12_init_315 : decode cX12_init 315 = .ok (.sipush 138, 3) := by decide +kernel
theorem dX12_init_318 : decode cX12_init 318 = .ok (.newarray .int, 2) := by decide +kernel
theorem dX12_init_320 : decode cX12_init 320 = .ok (.putfield 99, 3) := by decide +kernel
theorem dX12_init_323 : decode cX12_init 323 = .ok (.aload_n 0, 1) := by decide +kernel
theorem dX12_init_324 : decode cX12_init 324 = .ok (.sipush 138, 3) := by decide +kernel
theorem dX12_init_327 : decode cX12_init 327 = .ok (.newarray .int, 2) := by decide +kernel
theorem dX12_init_329 : decode cX12_init 329 = .ok (.putfield 102, 3) := by decide +kernel
theorem dX12_init_332 : decode cX12_init 332 = .ok (.aload_n 0, 1) := by decide +kernel
theorem dX12_init_333 : decode cX12_init 333 = .ok (.sipush 138, 3) := by decide +kernel
theorem dX12_init_336 : decode cX12_init 336 = .ok (.newarray .int, 2) := by decide +kernel
theorem dX12_init_338 : decode cX12_init 338 = .ok (.putfield 105, 3) := by decide +kernel
theorem dX12_init_341 : decode cX12_init 341 = .ok (.aload_n 0, 1) := by decide +kernel
theorem dX12_init_342 : decode cX12_init 342 = .ok (.sipush 138, 3) := by decide +kernel
theorem dX12_init_345 : decode cX12_init 345 = .ok (.newarray .int, 2) := by decide +kernel
theorem dX12_init_347 : decode cX12_init 347 = .ok (.putfield 108, 3) := by decide +kernel
theorem dX12_init_350 : decode cX12_init 350 = .ok (.aload_n 0, 1) := by decide +kernel
theorem dX12_init_351 : decode cX12_init 351 = .ok (.sipush 138, 3) := by decide +kernel
theorem dX12_init_354 : decode cX12_init 354 = .ok (.newarray .int, 2) := by decide +kernel
theorem dX12_init_356 : decode cX12_init 356 = .ok (.putfield 111, 3) := by decide +kernel
theorem dX12_init_359 : decode cX12_init 359 = .ok (.aload_n 0, 1) := by decide +kernel
theorem dX12_init_360 : decode cX12_init 360 = .ok (.sipush 138, 3) := by decide +kernel
theorem dX12_init_363 : decode cX12_init 363 = .ok (.newarray .int, 2) := by decide +kernel
theorem dX12_init_365 : decode cX12_init 365 = .ok (.putfield 114, 3) := by decide +kernel
theorem dX12_init_368 : decode cX12_init 368 = .ok (.aload_n 0, 1) := by decide +kernel
theorem dX12_init_369 : decode cX12_init 369 = .ok (.iconst (-1), 1) := by decide +kernel
theorem dX12_init_370 : decode cX12_init 370 = .ok (.putfield 117, 3) := by decide +kernel
theorem dX12_init_373 : decode cX12_init 373 = .ok (.aload_n 0, 1) := by decide +kernel
theorem dX12_init_374 : decode cX12_init 374 = .ok (.bipush 6, 2) := by decide +kernel
theorem dX12_init_376 : decode cX12_init 376 = .ok (.newarray .int, 2) := by decide +kernel
theorem dX12_init_378 : decode cX12_init 378 = .ok (.putfield 120, 3) := by decide +kernel
theorem dX12_init_381 : decode cX12_init 381 = .ok (.aload_n 0, 1) := by decide +kernel
theorem dX12_init_382 : decode cX12_init 382 = .ok (.bipush 6, 2) := by decide +kernel
theorem dX12_init_384 : decode cX12_init 384 = .ok (.newarray .int, 2) := by decide +kernel
theorem dX12_init_386 : decode cX12_init 386 = .ok (.putfield 123, 3) := by decide +kernel
theorem dX12_init_389 : decode cX12_init 389 = .ok (.aload_n 0, 1) := by decide +kernel
theorem dX12_init_390 : decode cX12_init 390 = .ok (.iconst (-1), 1) := by decide +kernel
theorem dX12_init_391 : decode cX12_init 391 = .ok (.putfield 126, 3) := by decide +kernel
theorem dX12_init_394 : decode cX12_init 394 = .ok (.aload_n 0, 1) := by decide +kernel
theorem dX12_init_395 : decode cX12_init 395 = .ok (.bipush 24, 2) := by decide +kernel
theorem dX12_init_397 : decode cX12_init 397 = .ok (.newarray .int, 2) := by decide +kernel
theorem dX12_init_399 : decode cX12_init 399 = .ok (.putfield 129, 3) := by decide +kernel
theorem dX12_init_402 : decode cX12_init 402 = .ok (.aload_n 0, 1) := by decide +kernel
theorem dX12_init_403 : decode cX12_init 403 = .ok (.bipush 24, 2) := by decide +kernel
theorem dX12_init_405 : decode cX12_init 405 = .ok (.newarray .int, 2) := by decide +kernel
theorem dX12_init_407 : decode cX12_init 407 = .ok (.putfield 132, 3) := by decide +kernel
theorem dX12_init_410 : decode cX12_init 410 = .ok (.aload_n 0, 1) := by decide +kernel
theorem dX12_init_411 : decode cX12_init 411 = .ok (.bipush 24, 2) := by decide +kernel
theorem dX12_init_413 : decode cX12_init 413 = .ok (.newarray .int, 2) := by decide +kernel
theorem dX12_init_415 : decode cX12_init 415 = .ok (.putfield 135, 3) := by decide +kernel
theorem dX12_init_418 : decode cX12_init 418 = .ok (.aload_n 0, 1) := by decide +kernel
theorem dX12_init_419 : decode cX12_init 419 = .ok (.bipush 24, 2) := by decide +kernel
theorem dX12_init_421 : decode cX12_init 421 = .ok (.newarray .boolean, 2) := by decide +kernel
theorem dX12_init_423 : decode cX12_init 423 = .ok (.putfield 138, 3) := by decide +kernel
theorem dX12_init_426 : decode cX12_init 426 = .ok (.aload_n 0, 1) := by decide +kernel
theorem dX12_init_427 : decode cX12_init 427 = .ok (.bipush 24, 2) := by decide +kernel
theorem dX12_init_429 : decode cX12_init 429 = .ok (.newarray .int, 2) := by decide +kernel
theorem dX12_init_431 : decode cX12_init 431 = .ok (.putfield 142, 3) := by decide +kernel
theorem dX12_init_434 : decode cX12_init 434 = .ok (.aload_n 0, 1) := by decide +kernel
theorem dX12_init_435 : decode cX12_init 435 = .ok (.bipush 24, 2) := by decide +kernel
theorem dX12_init_437 : decode cX12_init 437 = .ok (.newarray .boolean, 2) := by decide +kernel
theorem dX12_init_439 : decode cX12_init 439 = .ok (.putfield 145, 3) := by decide +kernel
theorem dX12_init_442 : decode cX12_init 442 = .ok (.aload_n 0, 1) := by decide +kernel
theorem dX12_init_443 : decode cX12_init 443 = .ok (.bipush 61, 2) := by decide +kernel
theorem dX12_init_445 : decode cX12_init 445 = .ok (.newarray .int, 2) := by decide +kernel
theorem dX12_init_447 : decode cX12_init 447 = .ok (.putfield 148, 3) := by decide +kernel
theorem dX12_init_450 : decode cX12_init 450 = .ok (.aload_n 0, 1) := by decide +kernel
theorem dX12_init_451 : decode cX12_init 451 = .ok (.invokevirtual 151, 3) := by decide +kernel
theorem dX12_init_454 : decode cX12_init 454 = .ok (.return_, 1) := by decide +kernel
theorem dX12_thrown_0 : decode cX12_thrown 0 = .ok (.aload_n 0, 1) := by decide +kernel
theorem dX12_thrown_1 : decode cX12_thrown 1 = .ok (.getfield 154, 3) := by decide +kernel
theorem dX12_thrown_4 : decode cX12_thrown 4 = .ok (.ireturn, 1) := by decide +kernel
theorem dX12_feed_0 : decode cX12_feed 0 = .ok (.aload_n 0, 1) := by decide +kernel
theorem dX12_feed_1 : decode cX12_feed 1 = .ok (.iconst 0, 1) := by decide +kernel
theorem dX12_feed_2 : decode cX12_feed 2 = .ok (.putfield 154, 3) := by decide +kernel
theorem dX12_feed_5 : decode cX12_feed 5 = .ok (.aload_n 0, 1) := by decide +kernel
theorem dX12_feed_6 : decode cX12_feed 6 = .ok (.getfield 157, 3) := by decide +kernel
theorem dX12_feed_9 : decode cX12_feed 9 = .ok (.sipush 680, 3) := by decide +kernel
theorem dX12_feed_12 : decode cX12_feed 12 = .ok (.if_icmp .le 5, 3) := by decide +kernel
theorem dX12_feed_15 : decode cX12_feed 15 = .ok (.iconst (-1), 1) := by decide +kernel
theorem dX12_feed_16 : decode cX12_feed 16 = .ok (.ireturn, 1) := by decide +kernel
theorem dX12_feed_17 : decode cX12_feed 17 = .ok (.iconst 0, 1) := by decide +kernel
theorem dX12_feed_18 : decode cX12_feed 18 = .ok (.istore 6, 2) := by decide +kernel
theorem dX12_feed_20 : decode cX12_feed 20 = .ok (.iload 6, 2) := by decide +kernel
theorem dX12_feed_22 : decode cX12_feed 22 = .ok (.bipush 20, 2) := by decide +kernel
theorem dX12_feed_24 : decode cX12_feed 24 = .ok (.if_icmp .ge 86, 3) := by decide +kernel
theorem dX12_feed_27 : decode cX12_feed 27 = .ok (.iload 6, 2) := by decide +kernel
theorem dX12_feed_29 : decode cX12_feed 29 = .ok (.iconst 4, 1) := by decide +kernel
theorem dX12_feed_30 : decode cX12_feed 30 = .ok (.if_icmp .ge 7, 3) := by decide +kernel
theorem dX12_feed_33 : decode cX12_feed 33 = .ok (.iload_n 1, 1) := by decide +kernel
theorem dX12_feed_34 : decode cX12_feed 34 = .ok (.goto 39, 3) := by decide +kernel
theorem dX12_feed_37 : decode cX12_feed 37 = .ok (.iload 6, 2) := by decide +kernel
theorem dX12_feed_39 : decode cX12_feed 39 = .ok (.bipush 8, 2) := by decide +kernel
theorem dX12_feed_41 : decode cX12_feed 41 = .ok (.if_icmp .ge 7, 3) := by decide +kernel
theorem dX12_feed_44 : decode cX12_feed 44 = .ok (.iload_n 2, 1) := by decide +kernel
theorem dX12_feed_45 : decode cX12_feed 45 = .ok (.goto 28, 3) := by decide +kernel
theorem dX12_feed_48 : decode cX12_feed 48 = .ok (.iload 6, 2) := by decide +kernel
theorem dX12_feed_50 : decode cX12_feed 50 = .ok (.bipush 12, 2) := by decide +kernel
theorem dX12_feed_52 : decode cX12_feed 52 = .ok (.if_icmp .ge 7, 3) := by decide +kernel
theorem dX12_feed_55 : decode cX12_feed 55 = .ok (.iload_n 3, 1) := by decide +kernel
theorem dX12_feed_56 : decode cX12_feed 56 = .ok (.goto 17, 3) := by decide +kernel
theorem dX12_feed_59 : decode cX12_feed 59 = .ok (.iload 6, 2) := by decide +kernel
theorem dX12_feed_61 : decode cX12_feed 61 = .ok (.bipush 16, 2) := by decide +kernel
theorem dX12_feed_63 : decode cX12_feed 63 = .ok (.if_icmp .ge 8, 3) := by decide +kernel
theorem dX12_feed_66 : decode cX12_feed 66 = .ok (.iload 4, 2) := by decide +kernel
theorem dX12_feed_68 : decode cX12_feed 68 = .ok (.goto 5, 3) := by decide +kernel
theorem dX12_feed_71 : decode cX12_feed 71 = .ok (.iload 5, 2) := by decide +kernel
theorem dX12_feed_73 : decode cX12_feed 73 = .ok (.istore 7, 2) := by decide +kernel
theorem dX12_feed_75 : decode cX12_feed 75 = .ok (.aload_n 0, 1) := by decide +kernel
theorem dX12_feed_76 : decode cX12_feed 76 = .ok (.getfield 7, 3) := by decide +kernel
theorem dX12_feed_79 : decode cX12_feed 79 = .ok (.aload_n 0, 1) := by decide +kernel
theorem dX12_feed_80 : decode cX12_feed 80 = .ok (.getfield 157, 3) := by decide +kernel
theorem dX12_feed_83 : decode cX12_feed 83 = .ok (.iload 6, 2) := by decide +kernel
theorem dX12_feed_85 : decode cX12_feed 85 = .ok (.iadd, 1) := by decide +kernel
theorem dX12_feed_86 : decode cX12_feed 86 = .ok (.iload 7, 2) := by decide +kernel
theorem dX12_feed_88 : decode cX12_feed 88 = .ok (.bipush 24, 2) := by decide +kernel
theorem dX12_feed_90 : decode cX12_feed 90 = .ok (.bipush 8, 2) := by decide +kernel
theorem dX12_feed_92 : decode cX12_feed 92 = .ok (.iload 6, 2) := by decide +kernel
theorem dX12_feed_94 : decode cX12_feed 94 = .ok (.iconst 4, 1) := by decide +kernel
theorem dX12_feed_95 : decode cX12_feed 95 = .ok (.irem, 1) := by decide +kernel
theorem dX12_feed_96 : decode cX12_feed 96 = .ok (.imul, 1) := by decide +kernel
theorem dX12_feed_97 : decode cX12_feed 97 = .ok (.isub, 1) := by decide +kernel
theorem dX12_feed_98 : decode cX12_feed 98 = .ok (.ishr, 1) := by decide +kernel
theorem dX12_feed_99 : decode cX12_feed 99 = .ok (.sipush 255, 3) := by decide +kernel
theorem dX12_feed_102 : decode cX12_feed 102 = .ok (.iand, 1) := by decide +kernel
theorem dX12_feed_103 : decode cX12_feed 103 = .ok (.iastore, 1) := by decide +kernel
theorem dX12_feed_104 : decode cX12_feed 104 = .ok (.iinc 6 1, 3) := by decide +kernel
theorem dX12_feed_107 : decode cX12_feed 107 = .ok (.goto (-87), 3) := by decide +kernel
theorem dX12_feed_110 : decode cX12_feed 110 = .ok (.aload_n 0, 1) := by decide +kernel
theorem dX12_feed_111 : decode cX12_feed 111 = .ok (.dup, 1) := by decide +kernel
theorem dX12_feed_112 : decode cX12_feed 112 = .ok (.getfield 157, 3) := by decide +kernel
theorem dX12_feed_115 : decode cX12_feed 115 = .ok (.bipush 20, 2) := by decide +kernel
theorem dX12_feed_117 : decode cX12_feed 117 = .ok (.iadd, 1) := by decide +kernel
theorem dX12_feed_118 : decode cX12_feed 118 = .ok (.putfield 157, 3) := by decide +kernel
theorem dX12_feed_121 : decode cX12_feed 121 = .ok (.aload_n 0, 1) := by decide +kernel
theorem dX12_feed_122 : decode cX12_feed 122 = .ok (.getfield 157, 3) := by decide +kernel
theorem dX12_feed_125 : decode cX12_feed 125 = .ok (.ireturn, 1) := by decide +kernel
theorem dX12_here_0 : decode cX12_here 0 = .ok (.aload_n 0, 1) := by decide +kernel
theorem dX12_here_1 : decode cX12_here 1 = .ok (.getfield 160, 3) := by decide +kernel
theorem dX12_here_4 : decode cX12_here 4 = .ok (.aload_n 0, 1) := by decide +kernel
theorem dX12_here_5 : decode cX12_here 5 = .ok (.getfield 163, 3) := by decide +kernel
theorem dX12_here_8 : decode cX12_here 8 = .ok (.if_icmp .ge 15, 3) := by decide +kernel
theorem dX12_here_11 : decode cX12_here 11 = .ok (.aload_n 0, 1) := by decide +kernel
theorem dX12_here_12 : decode cX12_here 12 = .ok (.getfield 7, 3) := by decide +kernel
theorem dX12_here_15 : decode cX12_here 15 = .ok (.aload_n 0, 1) := by decide +kernel
theorem dX12_here_16 : decode cX12_here 16 = .ok (.getfield 160, 3) := by decide +kernel
theorem dX12_here_19 : decode cX12_here 19 = .ok (.iaload, 1) := by decide +kernel
theorem dX12_here_20 : decode cX12_here 20 = .ok (.goto 4, 3) := by decide +kernel
theorem dX12_here_23 : decode cX12_here 23 = .ok (.iconst (-1), 1) := by decide +kernel
theorem dX12_here_24 : decode cX12_here 24 = .ok (.ireturn, 1) := by decide +kernel
theorem dX12_isSmall_0 : decode cX12_isSmall 0 = .ok (.iload_n 0, 1) := by decide +kernel
theorem dX12_isSmall_1 : decode cX12_isSmall 1 = .ok (.bipush 97, 2) := by decide +kernel
theorem dX12_isSmall_3 : decode cX12_isSmall 3 = .ok (.if_icmp .lt 13, 3) := by decide +kernel
theorem dX12_isSmall_6 : decode cX12_isSmall 6 = .ok (.iload_n 0, 1) := by decide +kernel
theorem dX12_isSmall_7 : decode cX12_isSmall 7 = .ok (.bipush 122, 2) := by decide +kernel
theorem dX12_isSmall_9 : decode cX12_isSmall 9 = .ok (.if_icmp .gt 7, 3) := by decide +kernel
theorem dX12_isSmall_12 : decode cX12_isSmall 12 = .ok (.iconst 1, 1) := by decide +kernel
theorem dX12_isSmall_13 : decode cX12_isSmall 13 = .ok (.goto 4, 3) := by decide +kernel
theorem dX12_isSmall_16 : decode cX12_isSmall 16 = .ok (.iconst 0, 1) := by decide +kernel
theorem dX12_isSmall_17 : decode cX12_isSmall 17 = .ok (.ireturn, 1) := by decide +kernel
theorem dX12_isDigit_0 : decode cX12_isDigit 0 = .ok (.iload_n 0, 1) := by decide +kernel
theorem dX12_isDigit_1 : decode cX12_isDigit 1 = .ok (.bipush 48, 2) := by decide +kernel
theorem dX12_isDigit_3 : decode cX12_isDigit 3 = .ok (.if_icmp .lt 13, 3) := by decide +kernel
theorem dX12_isDigit_6 : decode cX12_isDigit 6 = .ok (.iload_n 0, 1) := by decide +kernel
theorem dX12_isDigit_7 : decode cX12_isDigit 7 = .ok (.bipush 57, 2) := by decide +kernel
theorem dX12_isDigit_9 : decode cX12_isDigit 9 = .ok (.if_icmp .gt 7, 3) := by decide +kernel
theorem dX12_isDigit_12 : decode cX12_isDigit 12 = .ok (.iconst 1, 1) := by decide +kernel
theorem dX12_isDigit_13 : decode cX12_isDigit 13 = .ok (.goto 4, 3) := by decide +kernel
theorem dX12_isDigit_16 : decode cX12_isDigit 16 = .ok (.iconst 0, 1) := by decide +kernel
theorem dX12_isDigit_17 : decode cX12_isDigit 17 = .ok (.ireturn, 1) := by decide +kernel
theorem dX12_token_0 : decode cX12_token 0 = .ok (.aload_n 0, 1) := by decide +kernel
theorem dX12_token_1 : decode cX12_token 1 = .ok (.invokevirtual 166, 3) := by decide +kernel
theorem dX12_token_4 : decode cX12_token 4 = .ok (.bipush 10, 2) := by decide +kernel
theorem dX12_token_6 : decode cX12_token 6 = .ok (.if_icmp .eq 12, 3) := by decide +kernel
theorem dX12_token_9 : decode cX12_token 9 = .ok (.aload_n 0, 1) := by decide +kernel
theorem dX12_token_10 : decode cX12_token 10 = .ok (.invokevirtual 166, 3) := by decide +kernel
theorem dX12_token_13 : decode cX12_token 13 = .ok (.bipush 32, 2) := by decide +kernel
theorem dX12_token_15 : decode cX12_token 15 = .ok (.if_icmp .ne 16, 3) := by decide +kernel
theorem dX12_token_18 : decode cX12_token 18 = .ok (.aload_n 0, 1) := by decide +kernel
theorem dX12_token_19 : decode cX12_token 19 = .ok (.dup, 1) := by decide +kernel
theorem dX12_token_20 : decode cX12_token 20 = .ok (.getfield 160, 3) := by decide +kernel
theorem dX12_token_23 : decode cX12_token 23 = .ok (.iconst 1, 1) := by decide +kernel
theorem dX12_token_24 : decode cX12_token 24 = .ok (.iadd, 1) := by decide +kernel
theorem dX12_token_25 : decode cX12_token 25 = .ok (.putfield 160, 3) := by decide +kernel
theorem dX12_token_28 : decode cX12_token 28 = .ok (.goto (-28), 3) := by decide +kernel
theorem dX12_token_31 : decode cX12_token 31 = .ok (.aload_n 0, 1) := by decide +kernel
theorem dX12_token_32 : decode cX12_token 32 = .ok (.aload_n 0, 1) := by decide +kernel
theorem dX12_token_33 : decode cX12_token 33 = .ok (.getfield 160, 3) := by decide +kernel
theorem dX12_token_36 : decode cX12_token 36 = .ok (.putfield 170, 3) := by decide +kernel
theorem dX12_token_39 : decode cX12_token 39 = .ok (.aload_n 0, 1) := by decide +kernel
theorem dX12_token_40 : decode cX12_token 40 = .ok (.invokevirtual 166, 3) := by decide +kernel
theorem dX12_token_43 : decode cX12_token 43 = .ok (.istore_n 1, 1) := by decide +kernel
theorem dX12_token_44 : decode cX12_token 44 = .ok (.iload_n 1, 1) := by decide +kernel
theorem dX12_token_45 : decode cX12_token 45 = .ok (.iconst (-1), 1) := by decide +kernel
theorem dX12_token_46 : decode cX12_token 46 = .ok (.if_icmp .ne 11, 3) := by decide +kernel
theorem dX12_token_49 : decode cX12_token 49 = .ok (.aload_n 0, 1) := by decide +kernel
theorem dX12_token_50 : decode cX12_token 50 = .ok (.iconst 4, 1) := by decide +kernel
theorem dX12_token_51 : decode cX12_token 51 = .ok (.putfield 173, 3) := by decide +kernel
theorem dX12_token_54 : decode cX12_token 54 = .ok (.goto 171, 3) := by decide +kernel
theorem dX12_token_57 : decode cX12_token 57 = .ok (.iload_n 1, 1) := by decide +kernel
theorem dX12_token_58 : decode cX12_token 58 = .ok (.invokestatic 176, 3) := by decide +kernel
theorem dX12_token_61 : decode cX12_token 61 = .ok (.ifCond .eq 84, 3) := by decide +kernel
theorem dX12_token_64 : decode cX12_token 64 = .ok (.aload_n 0, 1) := by decide +kernel
theorem dX12_token_65 : decode cX12_token 65 = .ok (.invokevirtual 166, 3) := by decide +kernel
theorem dX12_token_68 : decode cX12_token 68 = .ok (.invokestatic 176, 3) := by decide +kernel
theorem dX12_token_71 : decode cX12_token 71 = .ok (.ifCond .eq 16, 3) := by decide +kernel
theorem dX12_token_74 : decode cX12_token 74 = .ok (.aload_n 0, 1) := by decide +kernel
theorem dX12_token_75 : decode cX12_token 75 = .ok (.dup, 1) := by decide +kernel
theorem dX12_token_76 : decode cX12_token 76 = .ok (.getfield 160, 3) := by decide +kernel
theorem dX12_token_79 : decode cX12_token 79 = .ok (.iconst 1, 1) := by decide +kernel
theorem dX12_token_80 : decode cX12_token 80 = .ok (.iadd, 1) := by decide +kernel
theorem dX12_token_81 : decode cX12_token 81 = .ok (.putfield 160, 3) := by decide +kernel
theorem dX12_token_84 : decode cX12_token 84 = .ok (.goto (-20), 3) := by decide +kernel
theorem dX12_token_87 : decode cX12_token 87 = .ok (.aload_n 0, 1) := by decide +kernel
theorem dX12_token_88 : decode cX12_token 88 = .ok (.aload_n 0, 1) := by decide +kernel
theorem dX12_token_89 : decode cX12_token 89 = .ok (.invokevirtual 180, 3) := by decide +kernel
theorem dX12_token_92 : decode cX12_token 92 = .ok (.putfield 183, 3) := by decide +kernel
theorem dX12_token_95 : decode cX12_token 95 = .ok (.aload_n 0, 1) := by decide +kernel
theorem dX12_token_96 : decode cX12_token 96 = .ok (.aload_n 0, 1) := by decide +kernel
theorem dX12_token_97 : decode cX12_token 97 = .ok (.getfield 183, 3) := by decide +kernel
theorem dX12_token_100 : decode cX12_token 100 = .ok (.iconst (-1), 1) := by decide +kernel
theorem dX12_token_101 : decode cX12_token 101 = .ok (.if_icmp .eq 7, 3) := by decide +kernel
theorem dX12_token_104 : decode cX12_token 104 = .ok (.iconst 0, 1) := by decide +kernel
theorem dX12_token_105 : decode cX12_token 105 = .ok (.goto 22, 3) := by decide +kernel
theorem dX12_token_108 : decode cX12_token 108 = .ok (.aload_n 0, 1) := by decide +kernel
theorem dX12_token_109 : decode cX12_token 109 = .ok (.getfield 160, 3) := by decide +kernel
theorem dX12_token_112 : decode cX12_token 112 = .ok (.aload_n 0, 1) := by decide +kernel
theorem dX12_token_113 : decode cX12_token 113 = .ok (.getfield 170, 3) := by decide +kernel
theorem dX12_token_116 : decode cX12_token 116 = .ok (.isub, 1) := by decide +kernel
theorem dX12_token_117 : decode cX12_token 117 = .ok (.bipush 6, 2) := by decide +kernel
theorem dX12_token_119 : decode cX12_token 119 = .ok (.if_icmp .le 7, 3) := by decide +kernel
theorem dX12_token_122 : decode cX12_token 122 = .ok (.iconst 5, 1) := by decide +kernel
theorem dX12_token_123 : decode cX12_token 123 = .ok (.goto 4, 3) := by decide +kernel
theorem dX12_token_126 : decode cX12_token 126 = .ok (.iconst 1, 1) := by decide +kernel
theorem dX12_token_127 : decode cX12_token 127 = .ok (.putfield 173, 3) := by decide +kernel
theorem dX12_token_130 : decode cX12_token 130 = .ok (.aload_n 0, 1) := by decide +kernel
theorem dX12_token_131 : decode cX12_token 131 = .ok (.getfield 173, 3) := by decide +kernel
theorem dX12_token_134 : decode cX12_token 134 = .ok (.iconst 1, 1) := by decide +kernel
theorem dX12_token_135 : decode cX12_token 135 = .ok (.if_icmp .ne 90, 3) := by decide +kernel
theorem dX12_token_138 : decode cX12_token 138 = .ok (.aload_n 0, 1) := by decide +kernel
theorem dX12_token_139 : decode cX12_token 139 = .ok (.invokevirtual 186, 3) := by decide +kernel
theorem dX12_token_142 : decode cX12_token 142 = .ok (.goto 83, 3) := by decide +kernel
theorem dX12_token_145 : decode cX12_token 145 = .ok (.iload_n 1, 1) := by decide +kernel
theorem dX12_token_146 : decode cX12_token 146 = .ok (.invokestatic 189, 3) := by decide +kernel
theorem dX12_token_149 : decode cX12_token 149 = .ok (.ifCond .eq 71, 3) := by decide +kernel
theorem dX12_token_152 : decode cX12_token 152 = .ok (.aload_n 0, 1) := by decide +kernel
theorem dX12_token_153 : decode cX12_token 153 = .ok (.iconst 2, 1) := by decide +kernel
theorem dX12_token_154 : decode cX12_token 154 = .ok (.putfield 173, 3) := by decide +kernel
theorem dX12_token_157 : decode cX12_token 157 = .ok (.aload_n 0, 1) := by decide +kernel
theorem dX12_token_158 : decode cX12_token 158 = .ok (.iconst 0, 1) := by decide +kernel
theorem dX12_token_159 : decode cX12_token 159 = .ok (.putfield 183, 3) := by decide +kernel
theorem dX12_token_162 : decode cX12_token 162 = .ok (.aload_n 0, 1) := by decide +kernel
theorem dX12_token_163 : decode cX12_token 163 = .ok (.invokevirtual 166, 3) := by decide +kernel
theorem dX12_token_166 : decode cX12_token 166 = .ok (.invokestatic 189, 3) := by decide +kernel
theorem dX12_token_169 : decode cX12_token 169 = .ok (.ifCond .eq 56, 3) := by decide +kernel
theorem dX12_token_172 : decode cX12_token 172 = .ok (.aload_n 0, 1) := by decide +kernel
theorem dX12_token_173 : decode cX12_token 173 = .ok (.aload_n 0, 1) := by decide +kernel
theorem dX12_token_174 : decode cX12_token 174 = .ok (.getfield 183, 3) := by decide +kernel
theorem dX12_token_177 : decode cX12_token 177 = .ok (.ldc 192, 2) := by decide +kernel
theorem dX12_token_179 : decode cX12_token 179 = .ok (.if_icmp .le 10, 3) := by decide +kernel
theorem dX12_token_182 : decode cX12_token 182 = .ok (.aload_n 0, 1) := by decide +kernel
theorem dX12_token_183 : decode cX12_token 183 = .ok (.getfield 183, 3) := by decide +kernel
theorem dX12_token_186 : decode cX12_token 186 = .ok (.goto 18, 3) := by decide +kernel
theorem dX12_token_189 : decode cX12_token 189 = .ok (.bipush 10, 2) := by decide +kernel
theorem dX12_token_191 : decode cX12_token 191 = .ok (.aload_n 0, 1) := by decide +kernel
theorem dX12_token_192 : decode cX12_token 192 = .ok (.getfield 183, 3) := by decide +kernel
theorem dX12_token_195 : decode cX12_token 195 = .ok (.imul, 1) := by decide +kernel
theorem dX12_token_196 : decode cX12_token 196 = .ok (.aload_n 0, 1) := by decide +kernel
theorem dX12_token_197 : decode cX12_token 197 = .ok (.invokevirtual 166, 3) := by decide +kernel
theorem dX12_token_200 : decode cX12_token 200 = .ok (.iadd, 1) := by decide +kernel
theorem dX12_token_201 : decode cX12_token 201 = .ok (.bipush 48, 2) := by decide +kernel
theorem dX12_token_203 : decode cX12_token 203 = .ok (.isub, 1) := by decide +kernel
theorem dX12_token_204 : decode cX12_token 204 = .ok (.putfield 183, 3) := by decide +kernel
theorem dX12_token_207 : decode cX12_token 207 = .ok (.aload_n 0, 1) := by decide +kernel
theorem dX12_token_208 : decode cX12_token 208 = .ok (.dup, 1) := by decide +kernel
theorem dX12_token_209 : decode cX12_token 209 = .ok (.getfield 160, 3) := by decide +kernel
theorem dX12_token_212 : decode cX12_token 212 = .ok (.iconst 1, 1) := by decide +kernel
theorem dX12_token_213 : decode cX12_token 213 = .ok (.iadd, 1) := by decide +kernel
theorem dX12_token_214 : decode cX12_token 214 = .ok (.putfield 160, 3) := by decide +kernel
theorem dX12_token_217 : decode cX12_token 217 = .ok (.goto (-55), 3) := by decide +kernel
theorem dX12_token_220 : decode cX12_token 220 = .ok (.aload_n 0, 1) := by decide +kernel
theorem dX12_token_221 : decode cX12_token 221 = .ok (.iload_n 1, 1) := by decide +kernel
theorem dX12_token_222 : decode cX12_token 222 = .ok (.invokevirtual 193, 3) := by decide +kernel
theorem dX12_token_225 : decode cX12_token 225 = .ok (.return_, 1) := by decide +kernel
theorem dX12_sign_0 : decode cX12_sign 0 = .ok (.aload_n 0, 1) := by decide +kernel
theorem dX12_sign_1 : decode cX12_sign 1 = .ok (.dup, 1) := by decide +kernel
theorem dX12_sign_2 : decode cX12_sign 2 = .ok (.getfield 160, 3) := by decide +kernel
theorem dX12_sign_5 : decode cX12_sign 5 = .ok (.iconst 1, 1) := by decide +kernel
theorem dX12_sign_6 : decode cX12_sign 6 = .ok (.iadd, 1) := by decide +kernel
theorem dX12_sign_7 : decode cX12_sign 7 = .ok (.putfield 160, 3) := by decide +kernel
theorem dX12_sign_10 : decode cX12_sign 10 = .ok (.aload_n 0, 1) := by decide +kernel
theorem dX12_sign_11 : decode cX12_sign 11 = .ok (.iload_n 1, 1) := by decide +kernel
theorem dX12_sign_12 : decode cX12_sign 12 = .ok (.bipush 59, 2) := by decide +kernel
theorem dX12_sign_14 : decode cX12_sign 14 = .ok (.if_icmp .eq 57, 3) := by decide +kernel
theorem dX12_sign_17 : decode cX12_sign 17 = .ok (.iload_n 1, 1) := by decide +kernel
theorem dX12_sign_18 : decode cX12_sign 18 = .ok (.bipush 40, 2) := by decide +kernel
theorem dX12_sign_20 : decode cX12_sign 20 = .ok (.if_icmp .eq 51, 3) := by decide +kernel
theorem dX12_sign_23 : decode cX12_sign 23 = .ok (.iload_n 1, 1) := by decide +kernel
theorem dX12_sign_24 : decode cX12_sign 24 = .ok (.bipush 41, 2) := by decide +kernel
theorem dX12_sign_26 : decode cX12_sign 26 = .ok (.if_icmp .eq 45, 3) := by decide +kernel
theorem dX12_sign_29 : decode cX12_sign 29 = .ok (.iload_n 1, 1) := by decide +kernel
theorem dX12_sign_30 : decode cX12_sign 30 = .ok (.bipush 43, 2) := by decide +kernel
theorem dX12_sign_32 : decode cX12_sign 32 = .ok (.if_icmp .eq 39, 3) := by decide +kernel
theorem dX12_sign_35 : decode cX12_sign 35 = .ok (.iload_n 1, 1) := by decide +kernel
theorem dX12_sign_36 : decode cX12_sign 36 = .ok (.bipush 45, 2) := by decide +kernel
theorem dX12_sign_38 : decode cX12_sign 38 = .ok (.if_icmp .eq 33, 3) := by decide +kernel
theorem dX12_sign_41 : decode cX12_sign 41 = .ok (.iload_n 1, 1) := by decide +kernel
theorem dX12_sign_42 : decode cX12_sign 42 = .ok (.bipush 42, 2) := by decide +kernel
theorem dX12_sign_44 : decode cX12_sign 44 = .ok (.if_icmp .eq 27, 3) := by decide +kernel
theorem dX12_sign_47 : decode cX12_sign 47 = .ok (.iload_n 1, 1) := by decide +kernel
theorem dX12_sign_48 : decode cX12_sign 48 = .ok (.bipush 47, 2) := by decide +kernel
theorem dX12_sign_50 : decode cX12_sign 50 = .ok (.if_icmp .eq 21, 3) := by decide +kernel
theorem dX12_sign_53 : decode cX12_sign 53 = .ok (.iload_n 1, 1) := by decide +kernel
theorem dX12_sign_54 : decode cX12_sign 54 = .ok (.bipush 60, 2) := by decide +kernel
theorem dX12_sign_56 : decode cX12_sign 56 = .ok (.if_icmp .eq 15, 3) := by decide +kernel
theorem dX12_sign_59 : decode cX12_sign 59 = .ok (.iload_n 1, 1) := by decide +kernel
theorem dX12_sign_60 : decode cX12_sign 60 = .ok (.bipush 61, 2) := by decide +kernel
theorem dX12_sign_62 : decode cX12_sign 62 = .ok (.if_icmp .eq 9, 3) := by decide +kernel
theorem dX12_sign_65 : decode cX12_sign 65 = .ok (.iload_n 1, 1) := by decide +kernel
theorem dX12_sign_66 : decode cX12_sign 66 = .ok (.bipush 62, 2) := by decide +kernel
theorem dX12_sign_68 : decode cX12_sign 68 = .ok (.if_icmp .ne 7, 3) := by decide +kernel
theorem dX12_sign_71 : decode cX12_sign 71 = .ok (.iconst 3, 1) := by decide +kernel
theorem dX12_sign_72 : decode cX12_sign 72 = .ok (.goto 4, 3) := by decide +kernel
theorem dX12_sign_75 : decode cX12_sign 75 = .ok (.iconst 5, 1) := by decide +kernel
theorem dX12_sign_76 : decode cX12_sign 76 = .ok (.putfield 173, 3) := by decide +kernel
theorem dX12_sign_79 : decode cX12_sign 79 = .ok (.aload_n 0, 1) := by decide +kernel
theorem dX12_sign_80 : decode cX12_sign 80 = .ok (.iload_n 1, 1) := by decide +kernel
theorem dX12_sign_81 : decode cX12_sign 81 = .ok (.putfield 183, 3) := by decide +kernel
theorem dX12_sign_84 : decode cX12_sign 84 = .ok (.iload_n 1, 1) := by decide +kernel
theorem dX12_sign_85 : decode cX12_sign 85 = .ok (.bipush 60, 2) := by decide +kernel
theorem dX12_sign_87 : decode cX12_sign 87 = .ok (.if_icmp .ne 19, 3) := by decide +kernel
theorem dX12_sign_90 : decode cX12_sign 90 = .ok (.aload_n 0, 1) := by decide +kernel
theorem dX12_sign_91 : decode cX12_sign 91 = .ok (.invokevirtual 166, 3) := by decide +kernel
theorem dX12_sign_94 : decode cX12_sign 94 = .ok (.bipush 61, 2) := by decide +kernel
theorem dX12_sign_96 : decode cX12_sign 96 = .ok (.if_icmp .ne 10, 3) := by decide +kernel
theorem dX12_sign_99 : decode cX12_sign 99 = .ok (.aload_n 0, 1) := by decide +kernel
theorem dX12_sign_100 : decode cX12_sign 100 = .ok (.sipush 256, 3) := by decide +kernel
theorem dX12_sign_103 : decode cX12_sign 103 = .ok (.putfield 183, 3) := by decide +kernel
theorem dX12_sign_106 : decode cX12_sign 106 = .ok (.iload_n 1, 1) := by decide +kernel
theorem dX12_sign_107 : decode cX12_sign 107 = .ok (.bipush 60, 2) := by decide +kernel
theorem dX12_sign_109 : decode cX12_sign 109 = .ok (.if_icmp .ne 19, 3) := by decide +kernel
theorem dX12_sign_112 : decode cX12_sign 112 = .ok (.aload_n 0, 1) := by decide +kernel
theorem dX12_sign_113 : decode cX12_sign 113 = .ok (.invokevirtual 166, 3) := by decide +kernel
theorem dX12_sign_116 : decode cX12_sign 116 = .ok (.bipush 62, 2) := by decide +kernel
theorem dX12_sign_118 : decode cX12_sign 118 = .ok (.if_icmp .ne 10, 3) := by decide +kernel
theorem dX12_sign_121 : decode cX12_sign 121 = .ok (.aload_n 0, 1) := by decide +kernel
theorem dX12_sign_122 : decode cX12_sign 122 = .ok (.sipush 257, 3) := by decide +kernel
theorem dX12_sign_125 : decode cX12_sign 125 = .ok (.putfield 183, 3) := by decide +kernel
theorem dX12_sign_128 : decode cX12_sign 128 = .ok (.iload_n 1, 1) := by decide +kernel
theorem dX12_sign_129 : decode cX12_sign 129 = .ok (.bipush 62, 2) := by decide +kernel
theorem dX12_sign_131 : decode cX12_sign 131 = .ok (.if_icmp .ne 19, 3) := by decide +kernel
theorem dX12_sign_134 : decode cX12_sign 134 = .ok (.aload_n 0, 1) := by decide +kernel
theorem dX12_sign_135 : decode cX12_sign 135 = .ok (.invokevirtual 166, 3) := by decide +kernel
theorem dX12_sign_138 : decode cX12_sign 138 = .ok (.bipush 61, 2) := by decide +kernel
theorem dX12_sign_140 : decode cX12_sign 140 = .ok (.if_icmp .ne 10, 3) := by decide +kernel
theorem dX12_sign_143 : decode cX12_sign 143 = .ok (.aload_n 0, 1) := by decide +kernel
theorem dX12_sign_144 : decode cX12_sign 144 = .ok (.sipush 258, 3) := by decide +kernel
theorem dX12_sign_147 : decode cX12_sign 147 = .ok (.putfield 183, 3) := by decide +kernel
theorem dX12_sign_150 : decode cX12_sign 150 = .ok (.aload_n 0, 1) := by decide +kernel
theorem dX12_sign_151 : decode cX12_sign 151 = .ok (.getfield 183, 3) := by decide +kernel
theorem dX12_sign_154 : decode cX12_sign 154 = .ok (.sipush 256, 3) := by decide +kernel
theorem dX12_sign_157 : decode cX12_sign 157 = .ok (.if_icmp .lt 13, 3) := by decide +kernel
theorem dX12_sign_160 : decode cX12_sign 160 = .ok (.aload_n 0, 1) := by decide +kernel
theorem dX12_sign_161 : decode cX12_sign 161 = .ok (.dup, 1) := by decide +kernel
theorem dX12_sign_162 : decode cX12_sign 162 = .ok (.getfield 160, 3) := by decide +kernel
theorem dX12_sign_165 : decode cX12_sign 165 = .ok (.iconst 1, 1) := by decide +kernel
theorem dX12_sign_166 : decode cX12_sign 166 = .ok (.iadd, 1) := by decide +kernel
theorem dX12_sign_167 : decode cX12_sign 167 = .ok (.putfield 160, 3) := by decide +kernel
theorem dX12_sign_170 : decode cX12_sign 170 = .ok (.return_, 1) := by decide +kernel
theorem dX12_word_0 : decode cX12_word 0 = .ok (.iconst 0, 1) := by decide +kernel
theorem dX12_word_1 : decode cX12_word 1 = .ok (.istore_n 1, 1) := by decide +kernel
theorem dX12_word_2 : decode cX12_word 2 = .ok (.iconst 0, 1) := by decide +kernel
theorem dX12_word_3 : decode cX12_word 3 = .ok (.istore_n 2, 1) := by decide +kernel
theorem dX12_word_4 : decode cX12_word 4 = .ok (.iload_n 2, 1) := by decide +kernel
theorem dX12_word_5 : decode cX12_word 5 = .ok (.ldc 197, 2) := by decide +kernel
theorem dX12_word_7 : decode cX12_word 7 = .ok (.invokevirtual 199, 3) := by decide +kernel
theorem dX12_word_10 : decode cX12_word 10 = .ok (.if_icmp .ge 113, 3) := by decide +kernel
theorem dX12_word_13 : decode cX12_word 13 = .ok (.iconst 0, 1) := by decide +kernel
theorem dX12_word_14 : decode cX12_word 14 = .ok (.istore_n 3, 1) := by decide +kernel
theorem dX12_word_15 : decode cX12_word 15 = .ok (.ldc 197, 2) := by decide +kernel
theorem dX12_word_17 : decode cX12_word 17 = .ok (.iload_n 2, 1) := by decide +kernel
theorem dX12_word_18 : decode cX12_word 18 = .ok (.iload_n 3, 1) := by decide +kernel
theorem dX12_word_19 : decode cX12_word 19 = .ok (.iadd, 1) := by decide +kernel
theorem dX12_word_20 : decode cX12_word 20 = .ok (.invokevirtual 204, 3) := by decide +kernel
theorem dX12_word_23 : decode cX12_word 23 = .ok (.bipush 32, 2) := by decide +kernel
theorem dX12_word_25 : decode cX12_word 25 = .ok (.if_icmp .eq 44, 3) := by decide +kernel
theorem dX12_word_28 : decode cX12_word 28 = .ok (.aload_n 0, 1) := by decide +kernel
theorem dX12_word_29 : decode cX12_word 29 = .ok (.getfield 170, 3) := by decide +kernel
theorem dX12_word_32 : decode cX12_word 32 = .ok (.iload_n 3, 1) := by decide +kernel
theorem dX12_word_33 : decode cX12_word 33 = .ok (.iadd, 1) := by decide +kernel
theorem dX12_word_34 : decode cX12_word 34 = .ok (.aload_n 0, 1) := by decide +kernel
theorem dX12_word_35 : decode cX12_word 35 = .ok (.getfield 160, 3) := by decide +kernel
theorem dX12_word_38 : decode cX12_word 38 = .ok (.if_icmp .ge 31, 3) := by decide +kernel
theorem dX12_word_41 : decode cX12_word 41 = .ok (.aload_n 0, 1) := by decide +kernel
theorem dX12_word_42 : decode cX12_word 42 = .ok (.getfield 7, 3) := by decide +kernel
theorem dX12_word_45 : decode cX12_word 45 = .ok (.aload_n 0, 1) := by decide +kernel
theorem dX12_word_46 : decode cX12_word 46 = .ok (.getfield 170, 3) := by decide +kernel
theorem dX12_word_49 : decode cX12_word 49 = .ok (.iload_n 3, 1) := by decide +kernel
theorem dX12_word_50 : decode cX12_word 50 = .ok (.iadd, 1) := by decide +kernel
theorem dX12_word_51 : decode cX12_word 51 = .ok (.iaload, 1) := by decide +kernel
theorem dX12_word_52 : decode cX12_word 52 = .ok (.ldc 197, 2) := by decide +kernel
theorem dX12_word_54 : decode cX12_word 54 = .ok (.iload_n 2, 1) := by decide +kernel
theorem dX12_word_55 : decode cX12_word 55 = .ok (.iload_n 3, 1) := by decide +kernel
theorem dX12_word_56 : decode cX12_word 56 = .ok (.iadd, 1) := by decide +kernel
theorem dX12_word_57 : decode cX12_word 57 = .ok (.invokevirtual 204, 3) := by decide +kernel
theorem dX12_word_60 : decode cX12_word 60 = .ok (.if_icmp .ne 9, 3) := by decide +kernel
theorem dX12_word_63 : decode cX12_word 63 = .ok (.iinc 3 1, 3) := by decide +kernel
theorem dX12_word_66 : decode cX12_word 66 = .ok (.goto (-51), 3) := by decide +kernel
theorem dX12_word_69 : decode cX12_word 69 = .ok (.ldc 197, 2) := by decide +kernel
theorem dX12_word_71 : decode cX12_word 71 = .ok (.iload_n 2, 1) := by decide +kernel
theorem dX12_word_72 : decode cX12_word 72 = .ok (.iload_n 3, 1) := by decide +kernel
theorem dX12_word_73 : decode cX12_word 73 = .ok (.iadd, 1) := by decide +kernel
theorem dX12_word_74 : decode cX12_word 74 = .ok (.invokevirtual 204, 3) := by decide +kernel
theorem dX12_word_77 : decode cX12_word 77 = .ok (.bipush 32, 2) := by decide +kernel
theorem dX12_word_79 : decode cX12_word 79 = .ok (.if_icmp .ne 18, 3) := by decide +kernel
theorem dX12_word_82 : decode cX12_word 82 = .ok (.aload_n 0, 1) := by decide +kernel
theorem dX12_word_83 : decode cX12_word 83 = .ok (.getfield 170, 3) := by decide +kernel
theorem dX12_word_86 : decode cX12_word 86 = .ok (.iload_n 3, 1) := by decide +kernel
theorem dX12_word_87 : decode cX12_word 87 = .ok (.iadd, 1) := by decide +kernel
theorem dX12_word_88 : decode cX12_word 88 = .ok (.aload_n 0, 1) := by decide +kernel
theorem dX12_word_89 : decode cX12_word 89 = .ok (.getfield 160, 3) := by decide +kernel
theorem dX12_word_92 : decode cX12_word 92 = .ok (.if_icmp .ne 5, 3) := by decide +kernel
theorem dX12_word_95 : decode cX12_word 95 = .ok (.iload_n 1, 1) := by decide +kernel
theorem dX12_word_96 : decode cX12_word 96 = .ok (.ireturn, 1) := by decide +kernel
theorem dX12_word_97 : decode cX12_word 97 = .ok (.ldc 197, 2) := by decide +kernel
theorem dX12_word_99 : decode cX12_word 99 = .ok (.iload_n 2, 1) := by decide +kernel
theorem dX12_word_100 : decode cX12_word 100 = .ok (.invokevirtual 204, 3) := by decide +kernel
theorem dX12_word_103 : decode cX12_word 103 = .ok (.bipush 32, 2) := by decide +kernel
theorem dX12_word_105 : decode cX12_word 105 = .ok (.if_icmp .eq 9, 3) := by decide +kernel
theorem dX12_word_108 : decode cX12_word 108 = .ok (.iinc 2 1, 3) := by decide +kernel
theorem dX12_word_111 : decode cX12_word 111 = .ok (.goto (-14), 3) := by decide +kernel
theorem dX12_word_114 : decode cX12_word 114 = .ok (.iinc 2 1, 3) := by decide +kernel
theorem dX12_word_117 : decode cX12_word 117 = .ok (.iinc 1 1, 3) := by decide +kernel
theorem dX12_word_120 : decode cX12_word 120 = .ok (.goto (-116), 3) := by decide +kernel
theorem dX12_word_123 : decode cX12_word 123 = .ok (.iconst (-1), 1) := by decide +kernel
theorem dX12_word_124 : decode cX12_word 124 = .ok (.ireturn, 1) := by decide +kernel
theorem dX12_name_0 : decode cX12_name 0 = .ok (.aload_n 0, 1) := by decide +kernel
theorem dX12_name_1 : decode cX12_name 1 = .ok (.iconst 0, 1) := by decide +kernel
theorem dX12_name_2 : decode cX12_name 2 = .ok (.putfield 183, 3) := by decide +kernel
theorem dX12_name_5 : decode cX12_name 5 = .ok (.iconst 0, 1) := by decide +kernel
theorem dX12_name_6 : decode cX12_name 6 = .ok (.istore_n 1, 1) := by decide +kernel
theorem dX12_name_7 : decode cX12_name 7 = .ok (.iload_n 1, 1) := by decide +kernel
theorem dX12_name_8 : decode cX12_name 8 = .ok (.bipush 6, 2) := by decide +kernel
theorem dX12_name_10 : decode cX12_name 10 = .ok (.if_icmp .ge 53, 3) := by decide +kernel
theorem dX12_name_13 : decode cX12_name 13 = .ok (.aload_n 0, 1) := by decide +kernel
theorem dX12_name_14 : decode cX12_name 14 = .ok (.aload_n 0, 1) := by decide +kernel
theorem dX12_name_15 : decode cX12_name 15 = .ok (.getfield 183, 3) := by decide +kernel
theorem dX12_name_18 : decode cX12_name 18 = .ok (.iconst 5, 1) := by decide +kernel
theorem dX12_name_19 : decode cX12_name 19 = .ok (.ishl, 1) := by decide +kernel
theorem dX12_name_20 : decode cX12_name 20 = .ok (.aload_n 0, 1) := by decide +kernel
theorem dX12_name_21 : decode cX12_name 21 = .ok (.getfield 170, 3) := by decide +kernel
theorem dX12_name_24 : decode cX12_name 24 = .ok (.iload_n 1, 1) := by decide +kernel
theorem dX12_name_25 : decode cX12_name 25 = .ok (.iadd, 1) := by decide +kernel
theorem dX12_name_26 : decode cX12_name 26 = .ok (.aload_n 0, 1) := by decide +kernel
theorem dX12_name_27 : decode cX12_name 27 = .ok (.getfield 160, 3) := by decide +kernel
theorem dX12_name_30 : decode cX12_name 30 = .ok (.if_icmp .ge 22, 3) := by decide +kernel
theorem dX12_name_33 : decode cX12_name 33 = .ok (.aload_n 0, 1) := by decide +kernel
theorem dX12_name_34 : decode cX12_name 34 = .ok (.getfield 7, 3) := by decide +kernel
theorem dX12_name_37 : decode cX12_name 37 = .ok (.aload_n 0, 1) := by decide +kernel
theorem dX12_name_38 : decode cX12_name 38 = .ok (.getfield 170, 3) := by decide +kernel
theorem dX12_name_41 : decode cX12_name 41 = .ok (.iload_n 1, 1) := by decide +kernel
theorem dX12_name_42 : decode cX12_name 42 = .ok (.iadd, 1) := by decide +kernel
theorem dX12_name_43 : decode cX12_name 43 = .ok (.iaload, 1) := by decide +kernel
theorem dX12_name_44 : decode cX12_name 44 = .ok (.bipush 97, 2) := by decide +kernel
theorem dX12_name_46 : decode cX12_name 46 = .ok (.isub, 1) := by decide +kernel
theorem dX12_name_47 : decode cX12_name 47 = .ok (.iconst 1, 1) := by decide +kernel
theorem dX12_name_48 : decode cX12_name 48 = .ok (.iadd, 1) := by decide +kernel
theorem dX12_name_49 : decode cX12_name 49 = .ok (.goto 4, 3) := by decide +kernel
theorem dX12_name_52 : decode cX12_name 52 = .ok (.iconst 0, 1) := by decide +kernel
theorem dX12_name_53 : decode cX12_name 53 = .ok (.ior, 1) := by decide +kernel
theorem dX12_name_54 : decode cX12_name 54 = .ok (.putfield 183, 3) := by decide +kernel
theorem dX12_name_57 : decode cX12_name 57 = .ok (.iinc 1 1, 3) := by decide +kernel
theorem dX12_name_60 : decode cX12_name 60 = .ok (.goto (-53), 3) := by decide +kernel
theorem dX12_name_63 : decode cX12_name 63 = .ok (.return_, 1) := by decide +kernel
theorem dX12_wrong_0 : decode cX12_wrong 0 = .ok (.aload_n 0, 1) := by decide +kernel
theorem dX12_wrong_1 : decode cX12_wrong 1 = .ok (.getfield 208, 3) := by decide +kernel
theorem dX12_wrong_4 : decode cX12_wrong 4 = .ok (.ifCond .eq 4, 3) := by decide +kernel
theorem dX12_wrong_7 : decode cX12_wrong 7 = .ok (.return_, 1) := by decide +kernel
theorem dX12_wrong_8 : decode cX12_wrong 8 = .ok (.aload_n 0, 1) := by decide +kernel
theorem dX12_wrong_9 : decode cX12_wrong 9 = .ok (.iload_n 1, 1) := by decide +kernel
theorem dX12_wrong_10 : decode cX12_wrong 10 = .ok (.putfield 208, 3) := by decide +kernel
theorem dX12_wrong_13 : decode cX12_wrong 13 = .ok (.aload_n 0, 1) := by decide +kernel
theorem dX12_wrong_14 : decode cX12_wrong 14 = .ok (.aload_n 0, 1) := by decide +kernel
theorem dX12_wrong_15 : decode cX12_wrong 15 = .ok (.getfield 170, 3) := by decide +kernel
theorem dX12_wrong_18 : decode cX12_wrong 18 = .ok (.putfield 211, 3) := by decide +kernel
theorem dX12_wrong_21 : decode cX12_wrong 21 = .ok (.return_, 1) := by decide +kernel
theorem dX12_isWord_0 : decode cX12_isWord 0 = .ok (.aload_n 0, 1) := by decide +kernel
theorem dX12_isWord_1 : decode cX12_isWord 1 = .ok (.getfield 208, 3) := by decide +kernel
theorem dX12_isWord_4 : decode cX12_isWord 4 = .ok (.ifCond .ne 22, 3) := by decide +kernel
theorem dX12_isWord_7 : decode cX12_isWord 7 = .ok (.aload_n 0, 1) := by decide +kernel
theorem dX12_isWord_8 : decode cX12_isWord 8 = .ok (.getfield 173, 3) := by decide +kernel
theorem dX12_isWord_11 : decode cX12_isWord 11 = .ok (.ifCond .ne 15, 3) := by decide +kernel
theorem dX12_isWord_14 : decode cX12_isWord 14 = .ok (.aload_n 0, 1) := by decide +kernel
theorem dX12_isWord_15 : decode cX12_isWord 15 = .ok (.getfield 183, 3) := by decide +kernel
theorem dX12_isWord_18 : decode cX12_isWord 18 = .ok (.iload_n 1, 1) := by decide +kernel
theorem dX12_isWord_19 : decode cX12_isWord 19 = .ok (.if_icmp .ne 7, 3) := by decide +kernel
theorem dX12_isWord_22 : decode cX12_isWord 22 = .ok (.iconst 1, 1) := by decide +kernel
theorem dX12_isWord_23 : decode cX12_isWord 23 = .ok (.goto 4, 3) := by decide +kernel
theorem dX12_isWord_26 : decode cX12_isWord 26 = .ok (.iconst 0, 1) := by decide +kernel
theorem dX12_isWord_27 : decode cX12_isWord 27 = .ok (.ireturn, 1) := by decide +kernel
theorem dX12_isSign_0 : decode cX12_isSign 0 = .ok (.aload_n 0, 1) := by decide +kernel
theorem dX12_isSign_1 : decode cX12_isSign 1 = .ok (.getfield 208, 3) := by decide +kernel
theorem dX12_isSign_4 : decode cX12_isSign 4 = .ok (.ifCond .ne 23, 3) := by decide +kernel
theorem dX12_isSign_7 : decode cX12_isSign 7 = .ok (.aload_n 0, 1) := by decide +kernel
theorem dX12_isSign_8 : decode cX12_isSign 8 = .ok (.getfield 173, 3) := by decide +kernel
theorem dX12_isSign_11 : decode cX12_isSign 11 = .ok (.iconst 3, 1) := by decide +kernel
theorem dX12_isSign_12 : decode cX12_isSign 12 = .ok (.if_icmp .ne 15, 3) := by decide +kernel
theorem dX12_isSign_15 : decode cX12_isSign 15 = .ok (.aload_n 0, 1) := by decide +kernel
theorem dX12_isSign_16 : decode cX12_isSign 16 = .ok (.getfield 183, 3) := by decide +kernel
theorem dX12_isSign_19 : decode cX12_isSign 19 = .ok (.iload_n 1, 1) := by decide +kernel
theorem dX12_isSign_20 : decode cX12_isSign 20 = .ok (.if_icmp .ne 7, 3) := by decide +kernel
theorem dX12_isSign_23 : decode cX12_isSign 23 = .ok (.iconst 1, 1) := by decide +kernel
theorem dX12_isSign_24 : decode cX12_isSign 24 = .ok (.goto 4, 3) := by decide +kernel
theorem dX12_isSign_27 : decode cX12_isSign 27 = .ok (.iconst 0, 1) := by decide +kernel
theorem dX12_isSign_28 : decode cX12_isSign 28 = .ok (.ireturn, 1) := by decide +kernel
theorem dX12_goOn_0 : decode cX12_goOn 0 = .ok (.aload_n 0, 1) := by decide +kernel
theorem dX12_goOn_1 : decode cX12_goOn 1 = .ok (.getfield 208, 3) := by decide +kernel
theorem dX12_goOn_4 : decode cX12_goOn 4 = .ok (.ifCond .ne 7, 3) := by decide +kernel
theorem dX12_goOn_7 : decode cX12_goOn 7 = .ok (.aload_n 0, 1) := by decide +kernel
theorem dX12_goOn_8 : decode cX12_goOn 8 = .ok (.invokevirtual 214, 3) := by decide +kernel
theorem dX12_goOn_11 : decode cX12_goOn 11 = .ok (.return_, 1) := by decide +kernel
theorem dX12_numeral_0 : decode cX12_numeral 0 = .ok (.aload_n 0, 1) := by decide +kernel
theorem dX12_numeral_1 : decode cX12_numeral 1 = .ok (.getfield 208, 3) := by decide +kernel
theorem dX12_numeral_4 : decode cX12_numeral 4 = .ok (.ifCond .eq 5, 3) := by decide +kernel
theorem dX12_numeral_7 : decode cX12_numeral 7 = .ok (.iload_n 1, 1) := by decide +kernel
theorem dX12_numeral_8 : decode cX12_numeral 8 = .ok (.ireturn, 1) := by decide +kernel
theorem dX12_numeral_9 : decode cX12_numeral 9 = .ok (.aload_n 0, 1) := by decide +kernel
theorem dX12_numeral_10 : decode cX12_numeral 10 = .ok (.getfield 173, 3) := by decide +kernel
theorem dX12_numeral_13 : decode cX12_numeral 13 = .ok (.iconst 2, 1) := by decide +kernel
theorem dX12_numeral_14 : decode cX12_numeral 14 = .ok (.if_icmp .eq 11, 3) := by decide +kernel
theorem dX12_numeral_17 : decode cX12_numeral 17 = .ok (.aload_n 0, 1) := by decide +kernel
theorem dX12_numeral_18 : decode cX12_numeral 18 = .ok (.iconst 1, 1) := by decide +kernel
theorem dX12_numeral_19 : decode cX12_numeral 19 = .ok (.invokevirtual 217, 3) := by decide +kernel
theorem dX12_numeral_22 : decode cX12_numeral 22 = .ok (.goto 24, 3) := by decide +kernel
theorem dX12_numeral_25 : decode cX12_numeral 25 = .ok (.aload_n 0, 1) := by decide +kernel
theorem dX12_numeral_26 : decode cX12_numeral 26 = .ok (.getfield 183, 3) := by decide +kernel
theorem dX12_numeral_29 : decode cX12_numeral 29 = .ok (.iload_n 1, 1) := by decide +kernel
theorem dX12_numeral_30 : decode cX12_numeral 30 = .ok (.if_icmp .lt 11, 3) := by decide +kernel
theorem dX12_numeral_33 : decode cX12_numeral 33 = .ok (.aload_n 0, 1) := by decide +kernel
theorem dX12_numeral_34 : decode cX12_numeral 34 = .ok (.getfield 183, 3) := by decide +kernel
theorem dX12_numeral_37 : decode cX12_numeral 37 = .ok (.iload_n 2, 1) := by decide +kernel
theorem dX12_numeral_38 : decode cX12_numeral 38 = .ok (.if_icmp .le 8, 3) := by decide +kernel
theorem dX12_numeral_41 : decode cX12_numeral 41 = .ok (.aload_n 0, 1) := by decide +kernel
theorem dX12_numeral_42 : decode cX12_numeral 42 = .ok (.iconst 2, 1) := by decide +kernel
theorem dX12_numeral_43 : decode cX12_numeral 43 = .ok (.invokevirtual 217, 3) := by decide +kernel
theorem dX12_numeral_46 : decode cX12_numeral 46 = .ok (.aload_n 0, 1) := by decide +kernel
theorem dX12_numeral_47 : decode cX12_numeral 47 = .ok (.getfield 208, 3) := by decide +kernel
theorem dX12_numeral_50 : decode cX12_numeral 50 = .ok (.ifCond .eq 5, 3) := by decide +kernel
theorem dX12_numeral_53 : decode cX12_numeral 53 = .ok (.iload_n 1, 1) := by decide +kernel
theorem dX12_numeral_54 : decode cX12_numeral 54 = .ok (.ireturn, 1) := by decide +kernel
theorem dX12_numeral_55 : decode cX12_numeral 55 = .ok (.aload_n 0, 1) := by decide +kernel
theorem dX12_numeral_56 : decode cX12_numeral 56 = .ok (.getfield 183, 3) := by decide +kernel
theorem dX12_numeral_59 : decode cX12_numeral 59 = .ok (.istore_n 3, 1) := by decide +kernel
theorem dX12_numeral_60 : decode cX12_numeral 60 = .ok (.aload_n 0, 1) := by decide +kernel
theorem dX12_numeral_61 : decode cX12_numeral 61 = .ok (.invokevirtual 214, 3) := by decide +kernel
theorem dX12_numeral_64 : decode cX12_numeral 64 = .ok (.iload_n 3, 1) := by decide +kernel
theorem dX12_numeral_65 : decode cX12_numeral 65 = .ok (.ireturn, 1) := by decide +kernel
theorem dX12_found_0 : decode cX12_found 0 = .ok (.iconst 0, 1) := by decide +kernel
theorem dX12_found_1 : decode cX12_found 1 = .ok (.istore 4, 2) := by decide +kernel
theorem dX12_found_3 : decode cX12_found 3 = .ok (.iload 4, 2) := by decide +kernel
theorem dX12_found_5 : decode cX12_found 5 = .ok (.iload_n 2, 1) := by decide +kernel
theorem dX12_found_6 : decode cX12_found 6 = .ok (.if_icmp .ge 22, 3) := by decide +kernel
theorem dX12_found_9 : decode cX12_found 9 = .ok (.aload_n 0, 1) := by decide +kernel
theorem dX12_found_10 : decode cX12_found 10 = .ok (.iload_n 1, 1) := by decide +kernel
theorem dX12_found_11 : decode cX12_found 11 = .ok (.iload 4, 2) := by decide +kernel
theorem dX12_found_13 : decode cX12_found 13 = .ok (.iadd, 1) := by decide +kernel
theorem dX12_found_14 : decode cX12_found 14 = .ok (.iaload, 1) := by decide +kernel
theorem dX12_found_15 : decode cX12_found 15 = .ok (.iload_n 3, 1) := by decide +kernel
theorem dX12_found_16 : decode cX12_found 16 = .ok (.if_icmp .ne 6, 3) := by decide +kernel
theorem dX12_found_19 : decode cX12_found 19 = .ok (.iload 4, 2) := by decide +kernel
theorem dX12_found_21 : decode cX12_found 21 = .ok (.ireturn, 1) := by decide +kernel
theorem dX12_found_22 : decode cX12_found 22 = .ok (.iinc 4 1, 3) := by decide +kernel
theorem dX12_found_25 : decode cX12_found 25 = .ok (.goto (-22), 3) := by decide +kernel
theorem dX12_found_28 : decode cX12_found 28 = .ok (.iconst (-1), 1) := by decide +kernel
theorem dX12_found_29 : decode cX12_found 29 = .ok (.ireturn, 1) := by decide +kernel
theorem dX12_fresh_0 : decode cX12_fresh 0 = .ok (.aload_n 0, 1) := by decide +kernel
theorem dX12_fresh_1 : decode cX12_fresh 1 = .ok (.getfield 208, 3) := by decide +kernel
theorem dX12_fresh_4 : decode cX12_fresh 4 = .ok (.ifCond .eq 5, 3) := by decide +kernel
theorem dX12_fresh_7 : decode cX12_fresh 7 = .ok (.iconst 0, 1) := by decide +kernel
theorem dX12_fresh_8 : decode cX12_fresh 8 = .ok (.ireturn, 1) := by decide +kernel
theorem dX12_fresh_9 : decode cX12_fresh 9 = .ok (.aload_n 0, 1) := by decide +kernel
theorem dX12_fresh_10 : decode cX12_fresh 10 = .ok (.getfield 173, 3) := by decide +kernel
theorem dX12_fresh_13 : decode cX12_fresh 13 = .ok (.iconst 1, 1) := by decide +kernel
theorem dX12_fresh_14 : decode cX12_fresh 14 = .ok (.if_icmp .eq 11, 3) := by decide +kernel
theorem dX12_fresh_17 : decode cX12_fresh 17 = .ok (.aload_n 0, 1) := by decide +kernel
theorem dX12_fresh_18 : decode cX12_fresh 18 = .ok (.iconst 1, 1) := by decide +kernel
theorem dX12_fresh_19 : decode cX12_fresh 19 = .ok (.invokevirtual 217, 3) := by decide +kernel
theorem dX12_fresh_22 : decode cX12_fresh 22 = .ok (.goto 22, 3) := by decide +kernel
theorem dX12_fresh_25 : decode cX12_fresh 25 = .ok (.aload_n 1, 1) := by decide +kernel
theorem dX12_fresh_26 : decode cX12_fresh 26 = .ok (.iload_n 2, 1) := by decide +kernel
theorem dX12_fresh_27 : decode cX12_fresh 27 = .ok (.iload_n 3, 1) := by decide +kernel
theorem dX12_fresh_28 : decode cX12_fresh 28 = .ok (.aload_n 0, 1) := by decide +kernel
theorem dX12_fresh_29 : decode cX12_fresh 29 = .ok (.getfield 183, 3) := by decide +kernel
theorem dX12_fresh_32 : decode cX12_fresh 32 = .ok (.invokestatic 220, 3) := by decide +kernel
theorem dX12_fresh_35 : decode cX12_fresh 35 = .ok (.iconst (-1), 1) := by decide +kernel
theorem dX12_fresh_36 : decode cX12_fresh 36 = .ok (.if_icmp .eq 8, 3) := by decide +kernel
theorem dX12_fresh_39 : decode cX12_fresh 39 = .ok (.aload_n 0, 1) := by decide +kernel
theorem dX12_fresh_40 : decode cX12_fresh 40 = .ok (.iconst 3, 1) := by decide +kernel
theorem dX12_fresh_41 : decode cX12_fresh 41 = .ok (.invokevirtual 217, 3) := by decide +kernel
theorem dX12_fresh_44 : decode cX12_fresh 44 = .ok (.aload_n 0, 1) := by decide +kernel
theorem dX12_fresh_45 : decode cX12_fresh 45 = .ok (.getfield 208, 3) := by decide +kernel
theorem dX12_fresh_48 : decode cX12_fresh 48 = .ok (.ifCond .eq 5, 3) := by decide +kernel
theorem dX12_fresh_51 : decode cX12_fresh 51 = .ok (.iconst 0, 1) := by decide +kernel
theorem dX12_fresh_52 : decode cX12_fresh 52 = .ok (.ireturn, 1) := by decide +kernel
theorem dX12_fresh_53 : decode cX12_fresh 53 = .ok (.aload_n 0, 1) := by decide +kernel
theorem dX12_fresh_54 : decode cX12_fresh 54 = .ok (.getfield 183, 3) := by decide +kernel
theorem dX12_fresh_57 : decode cX12_fresh 57 = .ok (.istore 4, 2) := by decide +kernel
theorem dX12_fresh_59 : decode cX12_fresh 59 = .ok (.aload_n 0, 1) := by decide +kernel
theorem dX12_fresh_60 : decode cX12_fresh 60 = .ok (.invokevirtual 214, 3) := by decide +kernel
theorem dX12_fresh_63 : decode cX12_fresh 63 = .ok (.iload 4, 2) := by decide +kernel
theorem dX12_fresh_65 : decode cX12_fresh 65 = .ok (.ireturn, 1) := by decide +kernel
theorem dX12_fresher_0 : decode cX12_fresher 0 = .ok (.aload_n 0, 1) := by decide +kernel
theorem dX12_fresher_1 : decode cX12_fresher 1 = .ok (.getfield 13, 3) := by decide +kernel
theorem dX12_fresher_4 : decode cX12_fresher 4 = .ok (.bipush 8, 2) := by decide +kernel
theorem dX12_fresher_6 : decode cX12_fresher 6 = .ok (.iload_n 1, 1) := by decide +kernel
theorem dX12_fresher_7 : decode cX12_fresher 7 = .ok (.iadd, 1) := by decide +kernel
theorem dX12_fresher_8 : decode cX12_fresher 8 = .ok (.iaload, 1) := by decide +kernel
theorem dX12_fresher_9 : decode cX12_fresher 9 = .ok (.ireturn, 1) := by decide +kernel
theorem dX12_reads_0 : decode cX12_reads 0 = .ok (.aload_n 0, 1) := by decide +kernel
theorem dX12_reads_1 : decode cX12_reads 1 = .ok (.getfield 13, 3) := by decide +kernel
theorem dX12_reads_4 : decode cX12_reads 4 = .ok (.bipush 8, 2) := by decide +kernel
theorem dX12_reads_6 : decode cX12_reads 6 = .ok (.iload_n 1, 1) := by decide +kernel
theorem dX12_reads_7 : decode cX12_reads 7 = .ok (.iadd, 1) := by decide +kernel
theorem dX12_reads_8 : decode cX12_reads 8 = .ok (.iload_n 2, 1) := by decide +kernel
theorem dX12_reads_9 : decode cX12_reads 9 = .ok (.iastore, 1) := by decide +kernel
theorem dX12_reads_10 : decode cX12_reads 10 = .ok (.return_, 1) := by decide +kernel
theorem dX12_atHand_0 : decode cX12_atHand 0 = .ok (.aload_n 0, 1) := by decide +kernel
theorem dX12_atHand_1 : decode cX12_atHand 1 = .ok (.getfield 208, 3) := by decide +kernel
theorem dX12_atHand_4 : decode cX12_atHand 4 = .ok (.ifCond .eq 5, 3) := by decide +kernel
theorem dX12_atHand_7 : decode cX12_atHand 7 = .ok (.iconst 0, 1) := by decide +kernel
theorem dX12_atHand_8 : decode cX12_atHand 8 = .ok (.ireturn, 1) := by decide +kernel
theorem dX12_atHand_9 : decode cX12_atHand 9 = .ok (.aload_n 0, 1) := by decide +kernel
theorem dX12_atHand_10 : decode cX12_atHand 10 = .ok (.getfield 173, 3) := by decide +kernel
theorem dX12_atHand_13 : decode cX12_atHand 13 = .ok (.iconst 1, 1) := by decide +kernel
theorem dX12_atHand_14 : decode cX12_atHand 14 = .ok (.if_icmp .eq 8, 3) := by decide +kernel
theorem dX12_atHand_17 : decode cX12_atHand 17 = .ok (.aload_n 0, 1) := by decide +kernel
theorem dX12_atHand_18 : decode cX12_atHand 18 = .ok (.iconst 1, 1) := by decide +kernel
theorem dX12_atHand_19 : decode cX12_atHand 19 = .ok (.invokevirtual 217, 3) := by decide +kernel
theorem dX12_atHand_22 : decode cX12_atHand 22 = .ok (.aload_n 0, 1) := by decide +kernel
theorem dX12_atHand_23 : decode cX12_atHand 23 = .ok (.getfield 208, 3) := by decide +kernel
theorem dX12_atHand_26 : decode cX12_atHand 26 = .ok (.ifCond .ne 16, 3) := by decide +kernel
theorem dX12_atHand_29 : decode cX12_atHand 29 = .ok (.aload_n 1, 1) := by decide +kernel
theorem dX12_atHand_30 : decode cX12_atHand 30 = .ok (.iload_n 2, 1) := by decide +kernel
theorem dX12_atHand_31 : decode cX12_atHand 31 = .ok (.iload_n 3, 1) := by decide +kernel
theorem dX12_atHand_32 : decode cX12_atHand 32 = .ok (.aload_n 0, 1) := by decide +kernel
theorem dX12_atHand_33 : decode cX12_atHand 33 = .ok (.getfield 183, 3) := by decide +kernel
theorem dX12_atHand_36 : decode cX12_atHand 36 = .ok (.invokestatic 220, 3) := by decide +kernel
theorem dX12_atHand_39 : decode cX12_atHand 39 = .ok (.goto 4, 3) := by decide +kernel
theorem dX12_atHand_42 : decode cX12_atHand 42 = .ok (.iconst 0, 1) := by decide +kernel
theorem dX12_atHand_43 : decode cX12_atHand 43 = .ok (.istore 4, 2) := by decide +kernel
theorem dX12_atHand_45 : decode cX12_atHand 45 = .ok (.aload_n 0, 1) := by decide +kernel
theorem dX12_atHand_46 : decode cX12_atHand 46 = .ok (.getfield 208, 3) := by decide +kernel
theorem dX12_atHand_49 : decode cX12_atHand 49 = .ok (.ifCond .ne 14, 3) := by decide +kernel
theorem dX12_atHand_52 : decode cX12_atHand 52 = .ok (.iload 4, 2) := by decide +kernel
theorem dX12_atHand_54 : decode cX12_atHand 54 = .ok (.iconst (-1), 1) := by decide +kernel
theorem dX12_atHand_55 : decode cX12_atHand 55 = .ok (.if_icmp .ne 8, 3) := by decide +kernel
theorem dX12_atHand_58 : decode cX12_atHand 58 = .ok (.aload_n 0, 1) := by decide +kernel
theorem dX12_atHand_59 : decode cX12_atHand 59 = .ok (.iconst 4, 1) := by decide +kernel
theorem dX12_atHand_60 : decode cX12_atHand 60 = .ok (.invokevirtual 217, 3) := by decide +kernel
theorem dX12_atHand_63 : decode cX12_atHand 63 = .ok (.aload_n 0, 1) := by decide +kernel
theorem dX12_atHand_64 : decode cX12_atHand 64 = .ok (.getfield 208, 3) := by decide +kernel
theorem dX12_atHand_67 : decode cX12_atHand 67 = .ok (.ifCond .eq 7, 3) := by decide +kernel
theorem dX12_atHand_70 : decode cX12_atHand 70 = .ok (.iconst 0, 1) := by decide +kernel
theorem dX12_atHand_71 : decode cX12_atHand 71 = .ok (.goto 5, 3) := by decide +kernel
theorem dX12_atHand_74 : decode cX12_atHand 74 = .ok (.iload 4, 2) := by decide +kernel
theorem dX12_atHand_76 : decode cX12_atHand 76 = .ok (.ireturn, 1) := by decide +kernel
theorem dX12_tubAhead_0 : decode cX12_tubAhead 0 = .ok (.aload_n 0, 1) := by decide +kernel
theorem dX12_tubAhead_1 : decode cX12_tubAhead 1 = .ok (.aload_n 0, 1) := by decide +kernel
theorem dX12_tubAhead_2 : decode cX12_tubAhead 2 = .ok (.getfield 25, 3) := by decide +kernel
theorem dX12_tubAhead_5 : decode cX12_tubAhead 5 = .ok (.bipush 6, 2) := by decide +kernel
theorem dX12_tubAhead_7 : decode cX12_tubAhead 7 = .ok (.aload_n 0, 1) := by decide +kernel
theorem dX12_tubAhead_8 : decode cX12_tubAhead 8 = .ok (.iconst 1, 1) := by decide +kernel
theorem dX12_tubAhead_9 : decode cX12_tubAhead 9 = .ok (.invokevirtual 224, 3) := by decide +kernel
theorem dX12_tubAhead_12 : decode cX12_tubAhead 12 = .ok (.invokevirtual 228, 3) := by decide +kernel
theorem dX12_tubAhead_15 : decode cX12_tubAhead 15 = .ok (.istore_n 1, 1) := by decide +kernel
theorem dX12_tubAhead_16 : decode cX12_tubAhead 16 = .ok (.aload_n 0, 1) := by decide +kernel
theorem dX12_tubAhead_17 : decode cX12_tubAhead 17 = .ok (.invokevirtual 232, 3) := by decide +kernel
theorem dX12_tubAhead_20 : decode cX12_tubAhead 20 = .ok (.iload_n 1, 1) := by decide +kernel
theorem dX12_tubAhead_21 : decode cX12_tubAhead 21 = .ok (.ireturn, 1) := by decide +kernel
theorem dX12_isFull_0 : decode cX12_isFull 0 = .ok (.iload_n 1, 1) := by decide +kernel
theorem dX12_isFull_1 : decode cX12_isFull 1 = .ok (.tableswitch 115 0 4 #[35, 51, 67, 83, 99], 35) := by decide +kernel
theorem dX12_isFull_36 : decode cX12_isFull 36 = .ok (.aload_n 0, 1) := by decide +kernel
theorem dX12_isFull_37 : decode cX12_isFull 37 = .ok (.iconst 0, 1) := by decide +kernel
theorem dX12_isFull_38 : decode cX12_isFull 38 = .ok (.invokevirtual 224, 3) := by decide +kernel
theorem dX12_isFull_41 : decode cX12_isFull 41 = .ok (.bipush 6, 2) := by decide +kernel
theorem dX12_isFull_43 : decode cX12_isFull 43 = .ok (.if_icmp .ne 7, 3) := by decide +kernel
theorem dX12_isFull_46 : decode cX12_isFull 46 = .ok (.iconst 1, 1) := by decide +kernel
theorem dX12_isFull_47 : decode cX12_isFull 47 = .ok (.goto 4, 3) := by decide +kernel
theorem dX12_isFull_50 : decode cX12_isFull 50 = .ok (.iconst 0, 1) := by decide +kernel
theorem dX12_isFull_51 : decode cX12_isFull 51 = .ok (.ireturn, 1) := by decide +kernel
theorem dX12_isFull_52 : decode cX12_isFull 52 = .ok (.aload_n 0, 1) := by decide +kernel
theorem dX12_isFull_53 : decode cX12_isFull 53 = .ok (.iconst 1, 1) := by decide +kernel
theorem dX12_isFull_54 : decode cX12_isFull 54 = .ok (.invokevirtual 224, 3) := by decide +kernel
theorem dX12_isFull_57 : decode cX12_isFull 57 = .ok (.bipush 6, 2) := by decide +kernel
theorem dX12_isFull_59 : decode cX12_isFull 59 = .ok (.if_icmp .ne 7, 3) := by decide +kernel
theorem dX12_isFull_62 : decode cX12_isFull 62 = .ok (.iconst 1, 1) := by decide +kernel
theorem dX12_isFull_63 : decode cX12_isFull 63 = .ok (.goto 4, 3) := by decide +kernel
theorem dX12_isFull_66 : decode cX12_isFull 66 = .ok (.iconst 0, 1) := by decide +kernel
theorem dX12_isFull_67 : decode cX12_isFull 67 = .ok (.ireturn, 1) := by decide +kernel
theorem dX12_isFull_68 : decode cX12_isFull 68 = .ok (.aload_n 0, 1) := by decide +kernel
theorem dX12_isFull_69 : decode cX12_isFull 69 = .ok (.iconst 2, 1) := by decide +kernel
theorem dX12_isFull_70 : decode cX12_isFull 70 = .ok (.invokevirtual 224, 3) := by decide +kernel
theorem dX12_isFull_73 : decode cX12_isFull 73 = .ok (.bipush 12, 2) := by decide +kernel
theorem dX12_isFull_75 : decode cX12_isFull 75 = .ok (.if_icmp .ne 7, 3) := by decide +kernel
theorem dX12_isFull_78 : decode cX12_isFull 78 = .ok (.iconst 1, 1) := by decide +kernel
theorem dX12_isFull_79 : decode cX12_isFull 79 = .ok (.goto 4, 3) := by decide +kernel
theorem dX12_isFull_82 : decode cX12_isFull 82 = .ok (.iconst 0, 1) := by decide +kernel
theorem dX12_isFull_83 : decode cX12_isFull 83 = .ok (.ireturn, 1) := by decide +kernel
theorem dX12_isFull_84 : decode cX12_isFull 84 = .ok (.aload_n 0, 1) := by decide +kernel
theorem dX12_isFull_85 : decode cX12_isFull 85 = .ok (.iconst 3, 1) := by decide +kernel
theorem dX12_isFull_86 : decode cX12_isFull 86 = .ok (.invokevirtual 224, 3) := by decide +kernel
theorem dX12_isFull_89 : decode cX12_isFull 89 = .ok (.bipush 10, 2) := by decide +kernel
theorem dX12_isFull_91 : decode cX12_isFull 91 = .ok (.if_icmp .ne 7, 3) := by decide +kernel
theorem dX12_isFull_94 : decode cX12_isFull 94 = .ok (.iconst 1, 1) := by decide +kernel
theorem dX12_isFull_95 : decode cX12_isFull 95 = .ok (.goto 4, 3) := by decide +kernel
theorem dX12_isFull_98 : decode cX12_isFull 98 = .ok (.iconst 0, 1) := by decide +kernel
theorem dX12_isFull_99 : decode cX12_isFull 99 = .ok (.ireturn, 1) := by decide +kernel
theorem dX12_isFull_100 : decode cX12_isFull 100 = .ok (.aload_n 0, 1) := by decide +kernel
theorem dX12_isFull_101 : decode cX12_isFull 101 = .ok (.iconst 4, 1) := by decide +kernel
theorem dX12_isFull_102 : decode cX12_isFull 102 = .ok (.invokevirtual 224, 3) := by decide +kernel
theorem dX12_isFull_105 : decode cX12_isFull 105 = .ok (.bipush 8, 2) := by decide +kernel
theorem dX12_isFull_107 : decode cX12_isFull 107 = .ok (.if_icmp .ne 7, 3) := by decide +kernel
theorem dX12_isFull_110 : decode cX12_isFull 110 = .ok (.iconst 1, 1) := by decide +kernel
theorem dX12_isFull_111 : decode cX12_isFull 111 = .ok (.goto 4, 3) := by decide +kernel
theorem dX12_isFull_114 : decode cX12_isFull 114 = .ok (.iconst 0, 1) := by decide +kernel
theorem dX12_isFull_115 : decode cX12_isFull 115 = .ok (.ireturn, 1) := by decide +kernel
theorem dX12_isFull_116 : decode cX12_isFull 116 = .ok (.iconst 0, 1) := by decide +kernel
theorem dX12_isFull_117 : decode cX12_isFull 117 = .ok (.ireturn, 1) := by decide +kernel
theorem dX12_line_0 : decode cX12_line 0 = .ok (.aload_n 0, 1) := by decide +kernel
theorem dX12_line_1 : decode cX12_line 1 = .ok (.getfield 173, 3) := by decide +kernel
theorem dX12_line_4 : decode cX12_line 4 = .ok (.ifCond .ne 12, 3) := by decide +kernel
theorem dX12_line_7 : decode cX12_line 7 = .ok (.aload_n 0, 1) := by decide +kernel
theorem dX12_line_8 : decode cX12_line 8 = .ok (.getfield 183, 3) := by decide +kernel
theorem dX12_line_11 : decode cX12_line 11 = .ok (.bipush 7, 2) := by decide +kernel
theorem dX12_line_13 : decode cX12_line 13 = .ok (.if_icmp .le 9, 3) := by decide +kernel
theorem dX12_line_16 : decode cX12_line 16 = .ok (.aload_n 0, 1) := by decide +kernel
theorem dX12_line_17 : decode cX12_line 17 = .ok (.iconst 1, 1) := by decide +kernel
theorem dX12_line_18 : decode cX12_line 18 = .ok (.invokevirtual 217, 3) := by decide +kernel
theorem dX12_line_21 : decode cX12_line 21 = .ok (.return_, 1) := by decide +kernel
theorem dX12_line_22 : decode cX12_line 22 = .ok (.aload_n 0, 1) := by decide +kernel
theorem dX12_line_23 : decode cX12_line 23 = .ok (.getfield 183, 3) := by decide +kernel
theorem dX12_line_26 : decode cX12_line 26 = .ok (.istore_n 1, 1) := by decide +kernel
theorem dX12_line_27 : decode cX12_line 27 = .ok (.aload_n 0, 1) := by decide +kernel
theorem dX12_line_28 : decode cX12_line 28 = .ok (.iload_n 1, 1) := by decide +kernel
theorem dX12_line_29 : decode cX12_line 29 = .ok (.invokevirtual 235, 3) := by decide +kernel
theorem dX12_line_32 : decode cX12_line 32 = .ok (.ifCond .eq 11, 3) := by decide +kernel
theorem dX12_line_35 : decode cX12_line 35 = .ok (.aload_n 0, 1) := by decide +kernel
theorem dX12_line_36 : decode cX12_line 36 = .ok (.iconst 2, 1) := by decide +kernel
theorem dX12_line_37 : decode cX12_line 37 = .ok (.invokevirtual 217, 3) := by decide +kernel
theorem dX12_line_40 : decode cX12_line 40 = .ok (.goto 31, 3) := by decide +kernel
theorem dX12_line_43 : decode cX12_line 43 = .ok (.iload_n 1, 1) := by decide +kernel
theorem dX12_line_44 : decode cX12_line 44 = .ok (.iconst 5, 1) := by decide +kernel
theorem dX12_line_45 : decode cX12_line 45 = .ok (.if_icmp .eq 9, 3) := by decide +kernel
theorem dX12_line_48 : decode cX12_line 48 = .ok (.iload_n 1, 1) := by decide +kernel
theorem dX12_line_49 : decode cX12_line 49 = .ok (.bipush 6, 2) := by decide +kernel
theorem dX12_line_51 : decode cX12_line 51 = .ok (.if_icmp .ne 20, 3) := by decide +kernel
theorem dX12_line_54 : decode cX12_line 54 = .ok (.aload_n 0, 1) := by decide +kernel
theorem dX12_line_55 : decode cX12_line 55 = .ok (.getfield 238, 3) := by decide +kernel
theorem dX12_line_58 : decode cX12_line 58 = .ok (.iload_n 1, 1) := by decide +kernel
theorem dX12_line_59 : decode cX12_line 59 = .ok (.ishr, 1) := by decide +kernel
theorem dX12_line_60 : decode cX12_line 60 = .ok (.iconst 1, 1) := by decide +kernel
theorem dX12_line_61 : decode cX12_line 61 = .ok (.iand, 1) := by decide +kernel
theorem dX12_line_62 : decode cX12_line 62 = .ok (.iconst 1, 1) := by decide +kernel
theorem dX12_line_63 : decode cX12_line 63 = .ok (.if_icmp .ne 8, 3) := by decide +kernel
theorem dX12_line_66 : decode cX12_line 66 = .ok (.aload_n 0, 1) := by decide +kernel
theorem dX12_line_67 : decode cX12_line 67 = .ok (.iconst 3, 1) := by decide +kernel
theorem dX12_line_68 : decode cX12_line 68 = .ok (.invokevirtual 217, 3) := by decide +kernel
theorem dX12_line_71 : decode cX12_line 71 = .ok (.aload_n 0, 1) := by decide +kernel
theorem dX12_line_72 : decode cX12_line 72 = .ok (.getfield 208, 3) := by decide +kernel
theorem dX12_line_75 : decode cX12_line 75 = .ok (.ifCond .eq 4, 3) := by decide +kernel
theorem dX12_line_78 : decode cX12_line 78 = .ok (.return_, 1) := by decide +kernel
theorem dX12_line_79 : decode cX12_line 79 = .ok (.aload_n 0, 1) := by decide +kernel
theorem dX12_line_80 : decode cX12_line 80 = .ok (.dup, 1) := by decide +kernel
theorem dX12_line_81 : decode cX12_line 81 = .ok (.getfield 238, 3) := by decide +kernel
theorem dX12_line_84 : decode cX12_line 84 = .ok (.iconst 1, 1) := by decide +kernel
theorem dX12_line_85 : decode cX12_line 85 = .ok (.iload_n 1, 1) := by decide +kernel
theorem dX12_line_86 : decode cX12_line 86 = .ok (.ishl, 1) := by decide +kernel
theorem dX12_line_87 : decode cX12_line 87 = .ok (.ior, 1) := by decide +kernel
theorem dX12_line_88 : decode cX12_line 88 = .ok (.putfield 238, 3) := by decide +kernel
theorem dX12_line_91 : decode cX12_line 91 = .ok (.aload_n 0, 1) := by decide +kernel
theorem dX12_line_92 : decode cX12_line 92 = .ok (.invokevirtual 214, 3) := by decide +kernel
theorem dX12_line_95 : decode cX12_line 95 = .ok (.iload_n 1, 1) := by decide +kernel
theorem dX12_line_96 : decode cX12_line 96 = .ok (.tableswitch 364 0 6 #[44, 115, 186, 262, 326, 333, 348], 44) := by decide +kernel
theorem dX12_line_140 : decode cX12_line 140 = .ok (.bipush 6, 2) := by decide +kernel
theorem dX12_line_142 : decode cX12_line 142 = .ok (.aload_n 0, 1) := by decide +kernel
theorem dX12_line_143 : decode cX12_line 143 = .ok (.iconst 0, 1) := by decide +kernel
theorem dX12_line_144 : decode cX12_line 144 = .ok (.invokevirtual 224, 3) := by decide +kernel
theorem dX12_line_147 : decode cX12_line 147 = .ok (.iadd, 1) := by decide +kernel
theorem dX12_line_148 : decode cX12_line 148 = .ok (.istore_n 2, 1) := by decide +kernel
theorem dX12_line_149 : decode cX12_line 149 = .ok (.aload_n 0, 1) := by decide +kernel
theorem dX12_line_150 : decode cX12_line 150 = .ok (.getfield 16, 3) := by decide +kernel
theorem dX12_line_153 : decode cX12_line 153 = .ok (.iload_n 2, 1) := by decide +kernel
theorem dX12_line_154 : decode cX12_line 154 = .ok (.aload_n 0, 1) := by decide +kernel
theorem dX12_line_155 : decode cX12_line 155 = .ok (.aload_n 0, 1) := by decide +kernel
theorem dX12_line_156 : decode cX12_line 156 = .ok (.getfield 16, 3) := by decide +kernel
theorem dX12_line_159 : decode cX12_line 159 = .ok (.bipush 6, 2) := by decide +kernel
theorem dX12_line_161 : decode cX12_line 161 = .ok (.aload_n 0, 1) := by decide +kernel
theorem dX12_line_162 : decode cX12_line 162 = .ok (.iconst 0, 1) := by decide +kernel
theorem dX12_line_163 : decode cX12_line 163 = .ok (.invokevirtual 224, 3) := by decide +kernel
theorem dX12_line_166 : decode cX12_line 166 = .ok (.invokevirtual 241, 3) := by decide +kernel
theorem dX12_line_169 : decode cX12_line 169 = .ok (.iastore, 1) := by decide +kernel
theorem dX12_line_170 : decode cX12_line 170 = .ok (.aload_n 0, 1) := by decide +kernel
theorem dX12_line_171 : decode cX12_line 171 = .ok (.getfield 19, 3) := by decide +kernel
theorem dX12_line_174 : decode cX12_line 174 = .ok (.iload_n 2, 1) := by decide +kernel
theorem dX12_line_175 : decode cX12_line 175 = .ok (.aload_n 0, 1) := by decide +kernel
theorem dX12_line_176 : decode cX12_line 176 = .ok (.iconst 0, 1) := by decide +kernel
theorem dX12_line_177 : decode cX12_line 177 = .ok (.bipush 99, 2) := by decide +kernel
theorem dX12_line_179 : decode cX12_line 179 = .ok (.invokevirtual 244, 3) := by decide +kernel
theorem dX12_line_182 : decode cX12_line 182 = .ok (.iastore, 1) := by decide +kernel
theorem dX12_line_183 : decode cX12_line 183 = .ok (.aload_n 0, 1) := by decide +kernel
theorem dX12_line_184 : decode cX12_line 184 = .ok (.getfield 22, 3) := by decide +kernel
theorem dX12_line_187 : decode cX12_line 187 = .ok (.iload_n 2, 1) := by decide +kernel
theorem dX12_line_188 : decode cX12_line 188 = .ok (.aload_n 0, 1) := by decide +kernel
theorem dX12_line_189 : decode cX12_line 189 = .ok (.iconst 0, 1) := by decide +kernel
theorem dX12_line_190 : decode cX12_line 190 = .ok (.bipush 9, 2) := by decide +kernel
theorem dX12_line_192 : decode cX12_line 192 = .ok (.invokevirtual 244, 3) := by decide +kernel
theorem dX12_line_195 : decode cX12_line 195 = .ok (.iastore, 1) := by decide +kernel
theorem dX12_line_196 : decode cX12_line 196 = .ok (.aload_n 0, 1) := by decide +kernel
theorem dX12_line_197 : decode cX12_line 197 = .ok (.iconst 0, 1) := by decide +kernel
theorem dX12_line_198 : decode cX12_line 198 = .ok (.aload_n 0, 1) := by decide +kernel
theorem dX12_line_199 : decode cX12_line 199 = .ok (.iconst 0, 1) := by decide +kernel
theorem dX12_line_200 : decode cX12_line 200 = .ok (.invokevirtual 224, 3) := by decide +kernel
theorem dX12_line_203 : decode cX12_line 203 = .ok (.iconst 1, 1) := by decide +kernel
theorem dX12_line_204 : decode cX12_line 204 = .ok (.iadd, 1) := by decide +kernel
theorem dX12_line_205 : decode cX12_line 205 = .ok (.invokevirtual 248, 3) := by decide +kernel
theorem dX12_line_208 : decode cX12_line 208 = .ok (.goto 256, 3) := by decide +kernel
theorem dX12_line_211 : decode cX12_line 211 = .ok (.bipush 6, 2) := by decide +kernel
theorem dX12_line_213 : decode cX12_line 213 = .ok (.aload_n 0, 1) := by decide +kernel
theorem dX12_line_214 : decode cX12_line 214 = .ok (.iconst 1, 1) := by decide +kernel
theorem dX12_line_215 : decode cX12_line 215 = .ok (.invokevirtual 224, 3) := by decide +kernel
theorem dX12_line_218 : decode cX12_line 218 = .ok (.iadd, 1) := by decide +kernel
theorem dX12_line_219 : decode cX12_line 219 = .ok (.istore_n 3, 1) := by decide +kernel
theorem dX12_line_220 : decode cX12_line 220 = .ok (.aload_n 0, 1) := by decide +kernel
theorem dX12_line_221 : decode cX12_line 221 = .ok (.getfield 25, 3) := by decide +kernel
theorem dX12_line_224 : decode cX12_line 224 = .ok (.iload_n 3, 1) := by decide +kernel
theorem dX12_line_225 : decode cX12_line 225 = .ok (.aload_n 0, 1) := by decide +kernel
theorem dX12_line_226 : decode cX12_line 226 = .ok (.aload_n 0, 1) := by decide +kernel
theorem dX12_line_227 : decode cX12_line 227 = .ok (.getfield 25, 3) := by decide +kernel
theorem dX12_line_230 : decode cX12_line 230 = .ok (.bipush 6, 2) := by decide +kernel
theorem dX12_line_232 : decode cX12_line 232 = .ok (.aload_n 0, 1) := by decide +kernel
theorem dX12_line_233 : decode cX12_line 233 = .ok (.iconst 1, 1) := by decide +kernel
theorem dX12_line_234 : decode cX12_line 234 = .ok (.invokevirtual 224, 3) := by decide +kernel
theorem dX12_line_237 : decode cX12_line 237 = .ok (.invokevirtual 241, 3) := by decide +kernel
theorem dX12_line_240 : decode cX12_line 240 = .ok (.iastore, 1) := by decide +kernel
theorem dX12_line_241 : decode cX12_line 241 = .ok (.aload_n 0, 1) := by decide +kernel
theorem dX12_line_242 : decode cX12_line 242 = .ok (.getfield 28, 3) := by decide +kernel
theorem dX12_line_245 : decode cX12_line 245 = .ok (.iload_n 3, 1) := by decide +kernel
theorem dX12_line_246 : decode cX12_line 246 = .ok (.aload_n 0, 1) := by decide +kernel
theorem dX12_line_247 : decode cX12_line 247 = .ok (.iconst 1, 1) := by decide +kernel
theorem dX12_line_248 : decode cX12_line 248 = .ok (.bipush 99, 2) := by decide +kernel
theorem dX12_line_250 : decode cX12_line 250 = .ok (.invokevirtual 244, 3) := by decide +kernel
theorem dX12_line_253 : decode cX12_line 253 = .ok (.iastore, 1) := by decide +kernel
theorem dX12_line_254 : decode cX12_line 254 = .ok (.aload_n 0, 1) := by decide +kernel
theorem dX12_line_255 : decode cX12_line 255 = .ok (.getfield 31, 3) := by decide +kernel
theorem dX12_line_258 : decode cX12_line 258 = .ok (.iload_n 3, 1) := by decide +kernel
theorem dX12_line_259 : decode cX12_line 259 = .ok (.aload_n 0, 1) := by decide +kernel
theorem dX12_line_260 : decode cX12_line 260 = .ok (.iconst 0, 1) := by decide +kernel
theorem dX12_line_261 : decode cX12_line 261 = .ok (.bipush 99, 2) := by decide +kernel
theorem dX12_line_263 : decode cX12_line 263 = .ok (.invokevirtual 244, 3) := by decide +kernel
theorem dX12_line_266 : decode cX12_line 266 = .ok (.iastore, 1) := by decide +kernel
theorem dX12_line_267 : decode cX12_line 267 = .ok (.aload_n 0, 1) := by decide +kernel
theorem dX12_line_268 : decode cX12_line 268 = .ok (.iconst 1, 1) := by decide +kernel
theorem dX12_line_269 : decode cX12_line 269 = .ok (.aload_n 0, 1) := by decide +kernel
theorem dX12_line_270 : decode cX12_line 270 = .ok (.iconst 1, 1) := by decide +kernel
theorem dX12_line_271 : decode cX12_line 271 = .ok (.invokevirtual 224, 3) := by decide +kernel
theorem dX12_line_274 : decode cX12_line 274 = .ok (.iconst 1, 1) := by decide +kernel
theorem dX12_line_275 : decode cX12_line 275 = .ok (.iadd, 1) := by decide +kernel
theorem dX12_line_276 : decode cX12_line 276 = .ok (.invokevirtual 248, 3) := by decide +kernel
theorem dX12_line_279 : decode cX12_line 279 = .ok (.goto 185, 3) := by decide +kernel
theorem dX12_line_282 : decode cX12_line 282 = .ok (.bipush 12, 2) := by decide +kernel
theorem dX12_line_284 : decode cX12_line 284 = .ok (.aload_n 0, 1) := by decide +kernel
theorem dX12_line_285 : decode cX12_line 285 = .ok (.iconst 2, 1) := by decide +kernel
theorem dX12_line_286 : decode cX12_line 286 = .ok (.invokevirtual 224, 3) := by decide +kernel
theorem dX12_line_289 : decode cX12_line 289 = .ok (.iadd, 1) := by decide +kernel
theorem dX12_line_290 : decode cX12_line 290 = .ok (.istore 4, 2) := by decide +kernel
theorem dX12_line_292 : decode cX12_line 292 = .ok (.aload_n 0, 1) := by decide +kernel
theorem dX12_line_293 : decode cX12_line 293 = .ok (.getfield 34, 3) := by decide +kernel
theorem dX12_line_296 : decode cX12_line 296 = .ok (.iload 4, 2) := by decide +kernel
theorem dX12_line_298 : decode cX12_line 298 = .ok (.aload_n 0, 1) := by decide +kernel
theorem dX12_line_299 : decode cX12_line 299 = .ok (.aload_n 0, 1) := by decide +kernel
theorem dX12_line_300 : decode cX12_line 300 = .ok (.getfield 16, 3) := by decide +kernel
theorem dX12_line_303 : decode cX12_line 303 = .ok (.bipush 6, 2) := by decide +kernel
theorem dX12_line_305 : decode cX12_line 305 = .ok (.aload_n 0, 1) := by decide +kernel
theorem dX12_line_306 : decode cX12_line 306 = .ok (.iconst 0, 1) := by decide +kernel
theorem dX12_line_307 : decode cX12_line 307 = .ok (.invokevirtual 224, 3) := by decide +kernel
theorem dX12_line_310 : decode cX12_line 310 = .ok (.invokevirtual 228, 3) := by decide +kernel
theorem dX12_line_313 : decode cX12_line 313 = .ok (.iastore, 1) := by decide +kernel
theorem dX12_line_314 : decode cX12_line 314 = .ok (.aload_n 0, 1) := by decide +kernel
theorem dX12_line_315 : decode cX12_line 315 = .ok (.invokevirtual 232, 3) := by decide +kernel
theorem dX12_line_318 : decode cX12_line 318 = .ok (.aload_n 0, 1) := by decide +kernel
theorem dX12_line_319 : decode cX12_line 319 = .ok (.getfield 37, 3) := by decide +kernel
theorem dX12_line_322 : decode cX12_line 322 = .ok (.iload 4, 2) := by decide +kernel
theorem dX12_line_324 : decode cX12_line 324 = .ok (.aload_n 0, 1) := by decide +kernel
theorem dX12_line_325 : decode cX12_line 325 = .ok (.invokevirtual 252, 3) := by decide +kernel
theorem dX12_line_328 : decode cX12_line 328 = .ok (.iastore, 1) := by decide +kernel
theorem dX12_line_329 : decode cX12_line 329 = .ok (.aload_n 0, 1) := by decide +kernel
theorem dX12_line_330 : decode cX12_line 330 = .ok (.getfield 40, 3) := by decide +kernel
theorem dX12_line_333 : decode cX12_line 333 = .ok (.iload 4, 2) := by decide +kernel
theorem dX12_line_335 : decode cX12_line 335 = .ok (.aload_n 0, 1) := by decide +kernel
theorem dX12_line_336 : decode cX12_line 336 = .ok (.iconst 0, 1) := by decide +kernel
theorem dX12_line_337 : decode cX12_line 337 = .ok (.bipush 99, 2) := by decide +kernel
theorem dX12_line_339 : decode cX12_line 339 = .ok (.invokevirtual 244, 3) := by decide +kernel
theorem dX12_line_342 : decode cX12_line 342 = .ok (.iastore, 1) := by decide +kernel
theorem dX12_line_343 : decode cX12_line 343 = .ok (.aload_n 0, 1) := by decide +kernel
theorem dX12_line_344 : decode cX12_line 344 = .ok (.iconst 2, 1) := by decide +kernel
theorem dX12_line_345 : decode cX12_line 345 = .ok (.aload_n 0, 1) := by decide +kernel
theorem dX12_line_346 : decode cX12_line 346 = .ok (.iconst 2, 1) := by decide +kernel
theorem dX12_line_347 : decode cX12_line 347 = .ok (.invokevirtual 224, 3) := by decide +kernel
theorem dX12_line_350 : decode cX12_line 350 = .ok (.iconst 1, 1) := by decide +kernel
theorem dX12_line_351 : decode cX12_line 351 = .ok (.iadd, 1) := by decide +kernel
theorem dX12_line_352 : decode cX12_line 352 = .ok (.invokevirtual 248, 3) := by decide +kernel
theorem dX12_line_355 : decode cX12_line 355 = .ok (.goto 109, 3) := by decide +kernel
theorem dX12_line_358 : decode cX12_line 358 = .ok (.bipush 10, 2) := by decide +kernel
theorem dX12_line_360 : decode cX12_line 360 = .ok (.aload_n 0, 1) := by decide +kernel
theorem dX12_line_361 : decode cX12_line 361 = .ok (.iconst 3, 1) := by decide +kernel
theorem dX12_line_362 : decode cX12_line 362 = .ok (.invokevirtual 224, 3) := by decide +kernel
theorem dX12_line_365 : decode cX12_line 365 = .ok (.iadd, 1) := by decide +kernel
theorem dX12_line_366 : decode cX12_line 366 = .ok (.istore 5, 2) := by decide +kernel
theorem dX12_line_368 : decode cX12_line 368 = .ok (.aload_n 0, 1) := by decide +kernel
theorem dX12_line_369 : decode cX12_line 369 = .ok (.getfield 43, 3) := by decide +kernel
theorem dX12_line_372 : decode cX12_line 372 = .ok (.iload 5, 2) := by decide +kernel
theorem dX12_line_374 : decode cX12_line 374 = .ok (.aload_n 0, 1) := by decide +kernel
theorem dX12_line_375 : decode cX12_line 375 = .ok (.invokevirtual 252, 3) := by decide +kernel
theorem dX12_line_378 : decode cX12_line 378 = .ok (.iastore, 1) := by decide +kernel
theorem dX12_line_379 : decode cX12_line 379 = .ok (.aload_n 0, 1) := by decide +kernel
theorem dX12_line_380 : decode cX12_line 380 = .ok (.getfield 46, 3) := by decide +kernel
theorem dX12_line_383 : decode cX12_line 383 = .ok (.iload 5, 2) := by decide +kernel
theorem dX12_line_385 : decode cX12_line 385 = .ok (.aload_n 0, 1) := by decide +kernel
theorem dX12_line_386 : decode cX12_line 386 = .ok (.iconst 1, 1) := by decide +kernel
theorem dX12_line_387 : decode cX12_line 387 = .ok (.bipush 9, 2) := by decide +kernel
theorem dX12_line_389 : decode cX12_line 389 = .ok (.invokevirtual 244, 3) := by decide +kernel
theorem dX12_line_392 : decode cX12_line 392 = .ok (.iastore, 1) := by decide +kernel
theorem dX12_line_393 : decode cX12_line 393 = .ok (.aload_n 0, 1) := by decide +kernel
theorem dX12_line_394 : decode cX12_line 394 = .ok (.getfield 49, 3) := by decide +kernel
theorem dX12_line_397 : decode cX12_line 397 = .ok (.iload 5, 2) := by decide +kernel
theorem dX12_line_399 : decode cX12_line 399 = .ok (.aload_n 0, 1) := by decide +kernel
theorem dX12_line_400 : decode cX12_line 400 = .ok (.iconst 0, 1) := by decide +kernel
theorem dX12_line_401 : decode cX12_line 401 = .ok (.bipush 99, 2) := by decide +kernel
theorem dX12_line_403 : decode cX12_line 403 = .ok (.invokevirtual 244, 3) := by decide +kernel
theorem dX12_line_406 : decode cX12_line 406 = .ok (.iastore, 1) := by decide +kernel
theorem dX12_line_407 : decode cX12_line 407 = .ok (.aload_n 0, 1) := by decide +kernel
theorem dX12_line_408 : decode cX12_line 408 = .ok (.iconst 3, 1) := by decide +kernel
theorem dX12_line_409 : decode cX12_line 409 = .ok (.aload_n 0, 1) := by decide +kernel
theorem dX12_line_410 : decode cX12_line 410 = .ok (.iconst 3, 1) := by decide +kernel
theorem dX12_line_411 : decode cX12_line 411 = .ok (.invokevirtual 224, 3) := by decide +kernel
theorem dX12_line_414 : decode cX12_line 414 = .ok (.iconst 1, 1) := by decide +kernel
theorem dX12_line_415 : decode cX12_line 415 = .ok (.iadd, 1) := by decide +kernel
theorem dX12_line_416 : decode cX12_line 416 = .ok (.invokevirtual 248, 3) := by decide +kernel
theorem dX12_line_419 : decode cX12_line 419 = .ok (.goto 45, 3) := by decide +kernel
theorem dX12_line_422 : decode cX12_line 422 = .ok (.aload_n 0, 1) := by decide +kernel
theorem dX12_line_423 : decode cX12_line 423 = .ok (.invokevirtual 255, 3) := by decide +kernel
theorem dX12_line_426 : decode cX12_line 426 = .ok (.goto 38, 3) := by decide +kernel
theorem dX12_line_429 : decode cX12_line 429 = .ok (.aload_n 0, 1) := by decide +kernel
theorem dX12_line_430 : decode cX12_line 430 = .ok (.iconst 5, 1) := by decide +kernel
theorem dX12_line_431 : decode cX12_line 431 = .ok (.aload_n 0, 1) := by decide +kernel
theorem dX12_line_432 : decode cX12_line 432 = .ok (.iconst 0, 1) := by decide +kernel
theorem dX12_line_433 : decode cX12_line 433 = .ok (.bipush 100, 2) := by decide +kernel
theorem dX12_line_435 : decode cX12_line 435 = .ok (.invokevirtual 244, 3) := by decide +kernel
theorem dX12_line_438 : decode cX12_line 438 = .ok (.invokevirtual 248, 3) := by decide +kernel
theorem dX12_line_441 : decode cX12_line 441 = .ok (.goto 23, 3) := by decide +kernel
theorem dX12_line_444 : decode cX12_line 444 = .ok (.aload_n 0, 1) := by decide +kernel
theorem dX12_line_445 : decode cX12_line 445 = .ok (.bipush 6, 2) := by decide +kernel
theorem dX12_line_447 : decode cX12_line 447 = .ok (.aload_n 0, 1) := by decide +kernel
theorem dX12_line_448 : decode cX12_line 448 = .ok (.iconst 0, 1) := by decide +kernel
theorem dX12_line_449 : decode cX12_line 449 = .ok (.ldc 192, 2) := by decide +kernel
theorem dX12_line_451 : decode cX12_line 451 = .ok (.invokevirtual 244, 3) := by decide +kernel
theorem dX12_line_454 : decode cX12_line 454 = .ok (.invokevirtual 248, 3) := by decide +kernel
theorem dX12_line_457 : decode cX12_line 457 = .ok (.goto 7, 3) := by decide +kernel
theorem dX12_line_460 : decode cX12_line 460 = .ok (.aload_n 0, 1) := by decide +kernel
theorem dX12_line_461 : decode cX12_line 461 = .ok (.invokevirtual 258, 3) := by decide +kernel
theorem dX12_line_464 : decode cX12_line 464 = .ok (.aload_n 0, 1) := by decide +kernel
theorem dX12_line_465 : decode cX12_line 465 = .ok (.getfield 208, 3) := by decide +kernel
theorem dX12_line_468 : decode cX12_line 468 = .ok (.ifCond .eq 4, 3) := by decide +kernel
theorem dX12_line_471 : decode cX12_line 471 = .ok (.return_, 1) := by decide +kernel
theorem dX12_line_472 : decode cX12_line 472 = .ok (.aload_n 0, 1) := by decide +kernel
theorem dX12_line_473 : decode cX12_line 473 = .ok (.bipush 59, 2) := by decide +kernel
theorem dX12_line_475 : decode cX12_line 475 = .ok (.invokevirtual 261, 3) := by decide +kernel
theorem dX12_line_478 : decode cX12_line 478 = .ok (.ifCond .ne 11, 3) := by decide +kernel
theorem dX12_line_481 : decode cX12_line 481 = .ok (.aload_n 0, 1) := by decide +kernel
theorem dX12_line_482 : decode cX12_line 482 = .ok (.iconst 1, 1) := by decide +kernel
theorem dX12_line_483 : decode cX12_line 483 = .ok (.invokevirtual 217, 3) := by decide +kernel
theorem dX12_line_486 : decode cX12_line 486 = .ok (.goto 7, 3) := by decide +kernel
theorem dX12_line_489 : decode cX12_line 489 = .ok (.aload_n 0, 1) := by decide +kernel
theorem dX12_line_490 : decode cX12_line 490 = .ok (.invokevirtual 214, 3) := by decide +kernel
theorem dX12_line_493 : decode cX12_line 493 = .ok (.aload_n 0, 1) := by decide +kernel
theorem dX12_line_494 : decode cX12_line 494 = .ok (.dup, 1) := by decide +kernel
theorem dX12_line_495 : decode cX12_line 495 = .ok (.getfield 264, 3) := by decide +kernel
theorem dX12_line_498 : decode cX12_line 498 = .ok (.iconst 1, 1) := by decide +kernel
theorem dX12_line_499 : decode cX12_line 499 = .ok (.iadd, 1) := by decide +kernel
theorem dX12_line_500 : decode cX12_line 500 = .ok (.putfield 264, 3) := by decide +kernel
theorem dX12_line_503 : decode cX12_line 503 = .ok (.return_, 1) := by decide +kernel
theorem dX12_pipeLine_0 : decode cX12_pipeLine 0 = .ok (.bipush 8, 2) := by decide +kernel
theorem dX12_pipeLine_2 : decode cX12_pipeLine 2 = .ok (.aload_n 0, 1) := by decide +kernel
theorem dX12_pipeLine_3 : decode cX12_pipeLine 3 = .ok (.iconst 4, 1) := by decide +kernel
theorem dX12_pipeLine_4 : decode cX12_pipeLine 4 = .ok (.invokevirtual 224, 3) := by decide +kernel
theorem dX12_pipeLine_7 : decode cX12_pipeLine 7 = .ok (.iadd, 1) := by decide +kernel
theorem dX12_pipeLine_8 : decode cX12_pipeLine 8 = .ok (.istore_n 1, 1) := by decide +kernel
theorem dX12_pipeLine_9 : decode cX12_pipeLine 9 = .ok (.aload_n 0, 1) := by decide +kernel
theorem dX12_pipeLine_10 : decode cX12_pipeLine 10 = .ok (.getfield 52, 3) := by decide +kernel
theorem dX12_pipeLine_13 : decode cX12_pipeLine 13 = .ok (.iload_n 1, 1) := by decide +kernel
theorem dX12_pipeLine_14 : decode cX12_pipeLine 14 = .ok (.aload_n 0, 1) := by decide +kernel
theorem dX12_pipeLine_15 : decode cX12_pipeLine 15 = .ok (.invokevirtual 252, 3) := by decide +kernel
theorem dX12_pipeLine_18 : decode cX12_pipeLine 18 = .ok (.iastore, 1) := by decide +kernel
theorem dX12_pipeLine_19 : decode cX12_pipeLine 19 = .ok (.aload_n 0, 1) := by decide +kernel
theorem dX12_pipeLine_20 : decode cX12_pipeLine 20 = .ok (.getfield 55, 3) := by decide +kernel
theorem dX12_pipeLine_23 : decode cX12_pipeLine 23 = .ok (.iload_n 1, 1) := by decide +kernel
theorem dX12_pipeLine_24 : decode cX12_pipeLine 24 = .ok (.aload_n 0, 1) := by decide +kernel
theorem dX12_pipeLine_25 : decode cX12_pipeLine 25 = .ok (.aload_n 0, 1) := by decide +kernel
theorem dX12_pipeLine_26 : decode cX12_pipeLine 26 = .ok (.getfield 25, 3) := by decide +kernel
theorem dX12_pipeLine_29 : decode cX12_pipeLine 29 = .ok (.bipush 6, 2) := by decide +kernel
theorem dX12_pipeLine_31 : decode cX12_pipeLine 31 = .ok (.aload_n 0, 1) := by decide +kernel
theorem dX12_pipeLine_32 : decode cX12_pipeLine 32 = .ok (.iconst 1, 1) := by decide +kernel
theorem dX12_pipeLine_33 : decode cX12_pipeLine 33 = .ok (.invokevirtual 224, 3) := by decide +kernel
theorem dX12_pipeLine_36 : decode cX12_pipeLine 36 = .ok (.invokevirtual 228, 3) := by decide +kernel
theorem dX12_pipeLine_39 : decode cX12_pipeLine 39 = .ok (.iastore, 1) := by decide +kernel
theorem dX12_pipeLine_40 : decode cX12_pipeLine 40 = .ok (.aload_n 0, 1) := by decide +kernel
theorem dX12_pipeLine_41 : decode cX12_pipeLine 41 = .ok (.getfield 208, 3) := by decide +kernel
theorem dX12_pipeLine_44 : decode cX12_pipeLine 44 = .ok (.ifCond .ne 23, 3) := by decide +kernel
theorem dX12_pipeLine_47 : decode cX12_pipeLine 47 = .ok (.aload_n 0, 1) := by decide +kernel
theorem dX12_pipeLine_48 : decode cX12_pipeLine 48 = .ok (.getfield 55, 3) := by decide +kernel
theorem dX12_pipeLine_51 : decode cX12_pipeLine 51 = .ok (.iload_n 1, 1) := by decide +kernel
theorem dX12_pipeLine_52 : decode cX12_pipeLine 52 = .ok (.iaload, 1) := by decide +kernel
theorem dX12_pipeLine_53 : decode cX12_pipeLine 53 = .ok (.aload_n 0, 1) := by decide +kernel
theorem dX12_pipeLine_54 : decode cX12_pipeLine 54 = .ok (.getfield 52, 3) := by decide +kernel
theorem dX12_pipeLine_57 : decode cX12_pipeLine 57 = .ok (.iload_n 1, 1) := by decide +kernel
theorem dX12_pipeLine_58 : decode cX12_pipeLine 58 = .ok (.iaload, 1) := by decide +kernel
theorem dX12_pipeLine_59 : decode cX12_pipeLine 59 = .ok (.if_icmp .ne 8, 3) := by decide +kernel
theorem dX12_pipeLine_62 : decode cX12_pipeLine 62 = .ok (.aload_n 0, 1) := by decide +kernel
theorem dX12_pipeLine_63 : decode cX12_pipeLine 63 = .ok (.iconst 5, 1) := by decide +kernel
theorem dX12_pipeLine_64 : decode cX12_pipeLine 64 = .ok (.invokevirtual 217, 3) := by decide +kernel
theorem dX12_pipeLine_67 : decode cX12_pipeLine 67 = .ok (.aload_n 0, 1) := by decide +kernel
theorem dX12_pipeLine_68 : decode cX12_pipeLine 68 = .ok (.invokevirtual 232, 3) := by decide +kernel
theorem dX12_pipeLine_71 : decode cX12_pipeLine 71 = .ok (.aload_n 0, 1) := by decide +kernel
theorem dX12_pipeLine_72 : decode cX12_pipeLine 72 = .ok (.getfield 58, 3) := by decide +kernel
theorem dX12_pipeLine_75 : decode cX12_pipeLine 75 = .ok (.iload_n 1, 1) := by decide +kernel
theorem dX12_pipeLine_76 : decode cX12_pipeLine 76 = .ok (.aload_n 0, 1) := by decide +kernel
theorem dX12_pipeLine_77 : decode cX12_pipeLine 77 = .ok (.iconst 1, 1) := by decide +kernel
theorem dX12_pipeLine_78 : decode cX12_pipeLine 78 = .ok (.bipush 9, 2) := by decide +kernel
theorem dX12_pipeLine_80 : decode cX12_pipeLine 80 = .ok (.invokevirtual 244, 3) := by decide +kernel
theorem dX12_pipeLine_83 : decode cX12_pipeLine 83 = .ok (.iastore, 1) := by decide +kernel
theorem dX12_pipeLine_84 : decode cX12_pipeLine 84 = .ok (.aload_n 0, 1) := by decide +kernel
theorem dX12_pipeLine_85 : decode cX12_pipeLine 85 = .ok (.iconst 4, 1) := by decide +kernel
theorem dX12_pipeLine_86 : decode cX12_pipeLine 86 = .ok (.aload_n 0, 1) := by decide +kernel
theorem dX12_pipeLine_87 : decode cX12_pipeLine 87 = .ok (.iconst 4, 1) := by decide +kernel
theorem dX12_pipeLine_88 : decode cX12_pipeLine 88 = .ok (.invokevirtual 224, 3) := by decide +kernel
theorem dX12_pipeLine_91 : decode cX12_pipeLine 91 = .ok (.iconst 1, 1) := by decide +kernel
theorem dX12_pipeLine_92 : decode cX12_pipeLine 92 = .ok (.iadd, 1) := by decide +kernel
theorem dX12_pipeLine_93 : decode cX12_pipeLine 93 = .ok (.invokevirtual 248, 3) := by decide +kernel
theorem dX12_pipeLine_96 : decode cX12_pipeLine 96 = .ok (.return_, 1) := by decide +kernel
theorem dX12_lawLine_0 : decode cX12_lawLine 0 = .ok (.aload_n 0, 1) := by decide +kernel
theorem dX12_lawLine_1 : decode cX12_lawLine 1 = .ok (.getfield 173, 3) := by decide +kernel
theorem dX12_lawLine_4 : decode cX12_lawLine 4 = .ok (.ifCond .ne 21, 3) := by decide +kernel
theorem dX12_lawLine_7 : decode cX12_lawLine 7 = .ok (.aload_n 0, 1) := by decide +kernel
theorem dX12_lawLine_8 : decode cX12_lawLine 8 = .ok (.getfield 183, 3) := by decide +kernel
theorem dX12_lawLine_11 : decode cX12_lawLine 11 = .ok (.bipush 8, 2) := by decide +kernel
theorem dX12_lawLine_13 : decode cX12_lawLine 13 = .ok (.if_icmp .lt 12, 3) := by decide +kernel
theorem dX12_lawLine_16 : decode cX12_lawLine 16 = .ok (.aload_n 0, 1) := by decide +kernel
theorem dX12_lawLine_17 : decode cX12_lawLine 17 = .ok (.getfield 183, 3) := by decide +kernel
theorem dX12_lawLine_20 : decode cX12_lawLine 20 = .ok (.bipush 10, 2) := by decide +kernel
theorem dX12_lawLine_22 : decode cX12_lawLine 22 = .ok (.if_icmp .le 8, 3) := by decide +kernel
theorem dX12_lawLine_25 : decode cX12_lawLine 25 = .ok (.aload_n 0, 1) := by decide +kernel
theorem dX12_lawLine_26 : decode cX12_lawLine 26 = .ok (.iconst 1, 1) := by decide +kernel
theorem dX12_lawLine_27 : decode cX12_lawLine 27 = .ok (.invokevirtual 217, 3) := by decide +kernel
theorem dX12_lawLine_30 : decode cX12_lawLine 30 = .ok (.aload_n 0, 1) := by decide +kernel
theorem dX12_lawLine_31 : decode cX12_lawLine 31 = .ok (.getfield 183, 3) := by decide +kernel
theorem dX12_lawLine_34 : decode cX12_lawLine 34 = .ok (.bipush 8, 2) := by decide +kernel
theorem dX12_lawLine_36 : decode cX12_lawLine 36 = .ok (.isub, 1) := by decide +kernel
theorem dX12_lawLine_37 : decode cX12_lawLine 37 = .ok (.istore_n 1, 1) := by decide +kernel
theorem dX12_lawLine_38 : decode cX12_lawLine 38 = .ok (.aload_n 0, 1) := by decide +kernel
theorem dX12_lawLine_39 : decode cX12_lawLine 39 = .ok (.getfield 208, 3) := by decide +kernel
theorem dX12_lawLine_42 : decode cX12_lawLine 42 = .ok (.ifCond .ne 23, 3) := by decide +kernel
theorem dX12_lawLine_45 : decode cX12_lawLine 45 = .ok (.aload_n 0, 1) := by decide +kernel
theorem dX12_lawLine_46 : decode cX12_lawLine 46 = .ok (.getfield 238, 3) := by decide +kernel
theorem dX12_lawLine_49 : decode cX12_lawLine 49 = .ok (.bipush 16, 2) := by decide +kernel
theorem dX12_lawLine_51 : decode cX12_lawLine 51 = .ok (.iload_n 1, 1) := by decide +kernel
theorem dX12_lawLine_52 : decode cX12_lawLine 52 = .ok (.iadd, 1) := by decide +kernel
theorem dX12_lawLine_53 : decode cX12_lawLine 53 = .ok (.ishr, 1) := by decide +kernel
theorem dX12_lawLine_54 : decode cX12_lawLine 54 = .ok (.iconst 1, 1) := by decide +kernel
theorem dX12_lawLine_55 : decode cX12_lawLine 55 = .ok (.iand, 1) := by decide +kernel
theorem dX12_lawLine_56 : decode cX12_lawLine 56 = .ok (.iconst 1, 1) := by decide +kernel
theorem dX12_lawLine_57 : decode cX12_lawLine 57 = .ok (.if_icmp .ne 8, 3) := by decide +kernel
theorem dX12_lawLine_60 : decode cX12_lawLine 60 = .ok (.aload_n 0, 1) := by decide +kernel
theorem dX12_lawLine_61 : decode cX12_lawLine 61 = .ok (.iconst 3, 1) := by decide +kernel
theorem dX12_lawLine_62 : decode cX12_lawLine 62 = .ok (.invokevirtual 217, 3) := by decide +kernel
theorem dX12_lawLine_65 : decode cX12_lawLine 65 = .ok (.aload_n 0, 1) := by decide +kernel
theorem dX12_lawLine_66 : decode cX12_lawLine 66 = .ok (.getfield 208, 3) := by decide +kernel
theorem dX12_lawLine_69 : decode cX12_lawLine 69 = .ok (.ifCond .eq 4, 3) := by decide +kernel
theorem dX12_lawLine_72 : decode cX12_lawLine 72 = .ok (.return_, 1) := by decide +kernel
theorem dX12_lawLine_73 : decode cX12_lawLine 73 = .ok (.aload_n 0, 1) := by decide +kernel
theorem dX12_lawLine_74 : decode cX12_lawLine 74 = .ok (.dup, 1) := by decide +kernel
theorem dX12_lawLine_75 : decode cX12_lawLine 75 = .ok (.getfield 238, 3) := by decide +kernel
theorem dX12_lawLine_78 : decode cX12_lawLine 78 = .ok (.iconst 1, 1) := by decide +kernel
theorem dX12_lawLine_79 : decode cX12_lawLine 79 = .ok (.bipush 16, 2) := by decide +kernel
theorem dX12_lawLine_81 : decode cX12_lawLine 81 = .ok (.iload_n 1, 1) := by decide +kernel
theorem dX12_lawLine_82 : decode cX12_lawLine 82 = .ok (.iadd, 1) := by decide +kernel
theorem dX12_lawLine_83 : decode cX12_lawLine 83 = .ok (.ishl, 1) := by decide +kernel
theorem dX12_lawLine_84 : decode cX12_lawLine 84 = .ok (.ior, 1) := by decide +kernel
theorem dX12_lawLine_85 : decode cX12_lawLine 85 = .ok (.putfield 238, 3) := by decide +kernel
theorem dX12_lawLine_88 : decode cX12_lawLine 88 = .ok (.aload_n 0, 1) := by decide +kernel
theorem dX12_lawLine_89 : decode cX12_lawLine 89 = .ok (.invokevirtual 214, 3) := by decide +kernel
theorem dX12_lawLine_92 : decode cX12_lawLine 92 = .ok (.aload_n 0, 1) := by decide +kernel
theorem dX12_lawLine_93 : decode cX12_lawLine 93 = .ok (.getfield 61, 3) := by decide +kernel
theorem dX12_lawLine_96 : decode cX12_lawLine 96 = .ok (.iconst 3, 1) := by decide +kernel
theorem dX12_lawLine_97 : decode cX12_lawLine 97 = .ok (.iload_n 1, 1) := by decide +kernel
theorem dX12_lawLine_98 : decode cX12_lawLine 98 = .ok (.iadd, 1) := by decide +kernel
theorem dX12_lawLine_99 : decode cX12_lawLine 99 = .ok (.aload_n 0, 1) := by decide +kernel
theorem dX12_lawLine_100 : decode cX12_lawLine 100 = .ok (.bipush 7, 2) := by decide +kernel
theorem dX12_lawLine_102 : decode cX12_lawLine 102 = .ok (.invokevirtual 224, 3) := by decide +kernel
theorem dX12_lawLine_105 : decode cX12_lawLine 105 = .ok (.iastore, 1) := by decide +kernel
theorem dX12_lawLine_106 : decode cX12_lawLine 106 = .ok (.aload_n 0, 1) := by decide +kernel
theorem dX12_lawLine_107 : decode cX12_lawLine 107 = .ok (.invokevirtual 267, 3) := by decide +kernel
theorem dX12_lawLine_110 : decode cX12_lawLine 110 = .ok (.aload_n 0, 1) := by decide +kernel
theorem dX12_lawLine_111 : decode cX12_lawLine 111 = .ok (.getfield 64, 3) := by decide +kernel
theorem dX12_lawLine_114 : decode cX12_lawLine 114 = .ok (.iconst 3, 1) := by decide +kernel
theorem dX12_lawLine_115 : decode cX12_lawLine 115 = .ok (.iload_n 1, 1) := by decide +kernel
theorem dX12_lawLine_116 : decode cX12_lawLine 116 = .ok (.iadd, 1) := by decide +kernel
theorem dX12_lawLine_117 : decode cX12_lawLine 117 = .ok (.aload_n 0, 1) := by decide +kernel
theorem dX12_lawLine_118 : decode cX12_lawLine 118 = .ok (.bipush 7, 2) := by decide +kernel
theorem dX12_lawLine_120 : decode cX12_lawLine 120 = .ok (.invokevirtual 224, 3) := by decide +kernel
theorem dX12_lawLine_123 : decode cX12_lawLine 123 = .ok (.iastore, 1) := by decide +kernel
theorem dX12_lawLine_124 : decode cX12_lawLine 124 = .ok (.return_, 1) := by decide +kernel
theorem dX12_puts_0 : decode cX12_puts 0 = .ok (.aload_n 0, 1) := by decide +kernel
theorem dX12_puts_1 : decode cX12_puts 1 = .ok (.getfield 208, 3) := by decide +kernel
theorem dX12_puts_4 : decode cX12_puts 4 = .ok (.ifCond .eq 4, 3) := by decide +kernel
theorem dX12_puts_7 : decode cX12_puts 7 = .ok (.return_, 1) := by decide +kernel
theorem dX12_puts_8 : decode cX12_puts 8 = .ok (.aload_n 0, 1) := by decide +kernel
theorem dX12_puts_9 : decode cX12_puts 9 = .ok (.getfield 67, 3) := by decide +kernel
theorem dX12_puts_12 : decode cX12_puts 12 = .ok (.bipush 64, 2) := by decide +kernel
theorem dX12_puts_14 : decode cX12_puts 14 = .ok (.aload_n 0, 1) := by decide +kernel
theorem dX12_puts_15 : decode cX12_puts 15 = .ok (.bipush 7, 2) := by decide +kernel
theorem dX12_puts_17 : decode cX12_puts 17 = .ok (.invokevirtual 224, 3) := by decide +kernel
theorem dX12_puts_20 : decode cX12_puts 20 = .ok (.iadd, 1) := by decide +kernel
theorem dX12_puts_21 : decode cX12_puts 21 = .ok (.iload_n 1, 1) := by decide +kernel
theorem dX12_puts_22 : decode cX12_puts 22 = .ok (.iastore, 1) := by decide +kernel
theorem dX12_puts_23 : decode cX12_puts 23 = .ok (.aload_n 0, 1) := by decide +kernel
theorem dX12_puts_24 : decode cX12_puts 24 = .ok (.getfield 70, 3) := by decide +kernel
theorem dX12_puts_27 : decode cX12_puts 27 = .ok (.bipush 64, 2) := by decide +kernel
theorem dX12_puts_29 : decode cX12_puts 29 = .ok (.aload_n 0, 1) := by decide +kernel
theorem dX12_puts_30 : decode cX12_puts 30 = .ok (.bipush 7, 2) := by decide +kernel
theorem dX12_puts_32 : decode cX12_puts 32 = .ok (.invokevirtual 224, 3) := by decide +kernel
theorem dX12_puts_35 : decode cX12_puts 35 = .ok (.iadd, 1) := by decide +kernel
theorem dX12_puts_36 : decode cX12_puts 36 = .ok (.iload_n 2, 1) := by decide +kernel
theorem dX12_puts_37 : decode cX12_puts 37 = .ok (.iastore, 1) := by decide +kernel
theorem dX12_puts_38 : decode cX12_puts 38 = .ok (.aload_n 0, 1) := by decide +kernel
theorem dX12_puts_39 : decode cX12_puts 39 = .ok (.bipush 7, 2) := by decide +kernel
theorem dX12_puts_41 : decode cX12_puts 41 = .ok (.aload_n 0, 1) := by decide +kernel
theorem dX12_puts_42 : decode cX12_puts 42 = .ok (.bipush 7, 2) := by decide +kernel
theorem dX12_puts_44 : decode cX12_puts 44 = .ok (.invokevirtual 224, 3) := by decide +kernel
theorem dX12_puts_47 : decode cX12_puts 47 = .ok (.iconst 1, 1) := by decide +kernel
theorem dX12_puts_48 : decode cX12_puts 48 = .ok (.iadd, 1) := by decide +kernel
theorem dX12_puts_49 : decode cX12_puts 49 = .ok (.invokevirtual 248, 3) := by decide +kernel
theorem dX12_puts_52 : decode cX12_puts 52 = .ok (.return_, 1) := by decide +kernel
theorem dX12_knot_0 : decode cX12_knot 0 = .ok (.aload_n 0, 1) := by decide +kernel
theorem dX12_knot_1 : decode cX12_knot 1 = .ok (.getfield 208, 3) := by decide +kernel
theorem dX12_knot_4 : decode cX12_knot 4 = .ok (.ifCond .eq 4, 3) := by decide +kernel
theorem dX12_knot_7 : decode cX12_knot 7 = .ok (.return_, 1) := by decide +kernel
theorem dX12_knot_8 : decode cX12_knot 8 = .ok (.aload_n 0, 1) := by decide +kernel
theorem dX12_knot_9 : decode cX12_knot 9 = .ok (.getfield 270, 3) := by decide +kernel
theorem dX12_knot_12 : decode cX12_knot 12 = .ok (.bipush 64, 2) := by decide +kernel
theorem dX12_knot_14 : decode cX12_knot 14 = .ok (.if_icmp .ne 11, 3) := by decide +kernel
theorem dX12_knot_17 : decode cX12_knot 17 = .ok (.aload_n 0, 1) := by decide +kernel
theorem dX12_knot_18 : decode cX12_knot 18 = .ok (.iconst 2, 1) := by decide +kernel
theorem dX12_knot_19 : decode cX12_knot 19 = .ok (.invokevirtual 217, 3) := by decide +kernel
theorem dX12_knot_22 : decode cX12_knot 22 = .ok (.goto 13, 3) := by decide +kernel
theorem dX12_knot_25 : decode cX12_knot 25 = .ok (.aload_n 0, 1) := by decide +kernel
theorem dX12_knot_26 : decode cX12_knot 26 = .ok (.dup, 1) := by decide +kernel
theorem dX12_knot_27 : decode cX12_knot 27 = .ok (.getfield 270, 3) := by decide +kernel
theorem dX12_knot_30 : decode cX12_knot 30 = .ok (.iconst 1, 1) := by decide +kernel
theorem dX12_knot_31 : decode cX12_knot 31 = .ok (.iadd, 1) := by decide +kernel
theorem dX12_knot_32 : decode cX12_knot 32 = .ok (.putfield 270, 3) := by decide +kernel
theorem dX12_knot_35 : decode cX12_knot 35 = .ok (.return_, 1) := by decide +kernel
theorem dX12_expression_0 : decode cX12_expression 0 = .ok (.aload_n 0, 1) := by decide +kernel
theorem dX12_expression_1 : decode cX12_expression 1 = .ok (.invokevirtual 273, 3) := by decide +kernel
theorem dX12_expression_4 : decode cX12_expression 4 = .ok (.aload_n 0, 1) := by decide +kernel
theorem dX12_expression_5 : decode cX12_expression 5 = .ok (.bipush 11, 2) := by decide +kernel
theorem dX12_expression_7 : decode cX12_expression 7 = .ok (.invokevirtual 276, 3) := by decide +kernel
theorem dX12_expression_10 : decode cX12_expression 10 = .ok (.ifCond .eq 26, 3) := by decide +kernel
theorem dX12_expression_13 : decode cX12_expression 13 = .ok (.aload_n 0, 1) := by decide +kernel
theorem dX12_expression_14 : decode cX12_expression 14 = .ok (.invokevirtual 279, 3) := by decide +kernel
theorem dX12_expression_17 : decode cX12_expression 17 = .ok (.aload_n 0, 1) := by decide +kernel
theorem dX12_expression_18 : decode cX12_expression 18 = .ok (.invokevirtual 232, 3) := by decide +kernel
theorem dX12_expression_21 : decode cX12_expression 21 = .ok (.aload_n 0, 1) := by decide +kernel
theorem dX12_expression_22 : decode cX12_expression 22 = .ok (.invokevirtual 273, 3) := by decide +kernel
theorem dX12_expression_25 : decode cX12_expression 25 = .ok (.aload_n 0, 1) := by decide +kernel
theorem dX12_expression_26 : decode cX12_expression 26 = .ok (.iconst 2, 1) := by decide +kernel
theorem dX12_expression_27 : decode cX12_expression 27 = .ok (.sipush 262, 3) := by decide +kernel
theorem dX12_expression_30 : decode cX12_expression 30 = .ok (.invokevirtual 282, 3) := by decide +kernel
theorem dX12_expression_33 : decode cX12_expression 33 = .ok (.goto (-29), 3) := by decide +kernel
theorem dX12_expression_36 : decode cX12_expression 36 = .ok (.return_, 1) := by decide +kernel
theorem dX12_conjunction_0 : decode cX12_conjunction 0 = .ok (.aload_n 0, 1) := by decide +kernel
theorem dX12_conjunction_1 : decode cX12_conjunction 1 = .ok (.invokevirtual 285, 3) := by decide +kernel
theorem dX12_conjunction_4 : decode cX12_conjunction 4 = .ok (.aload_n 0, 1) := by decide +kernel
theorem dX12_conjunction_5 : decode cX12_conjunction 5 = .ok (.bipush 12, 2) := by decide +kernel
theorem dX12_conjunction_7 : decode cX12_conjunction 7 = .ok (.invokevirtual 276, 3) := by decide +kernel
theorem dX12_conjunction_10 : decode cX12_conjunction 10 = .ok (.ifCond .eq 26, 3) := by decide +kernel
theorem dX12_conjunction_13 : decode cX12_conjunction 13 = .ok (.aload_n 0, 1) := by decide +kernel
theorem dX12_conjunction_14 : decode cX12_conjunction 14 = .ok (.invokevirtual 279, 3) := by decide +kernel
theorem dX12_conjunction_17 : decode cX12_conjunction 17 = .ok (.aload_n 0, 1) := by decide +kernel
theorem dX12_conjunction_18 : decode cX12_conjunction 18 = .ok (.invokevirtual 232, 3) := by decide +kernel
theorem dX12_conjunction_21 : decode cX12_conjunction 21 = .ok (.aload_n 0, 1) := by decide +kernel
theorem dX12_conjunction_22 : decode cX12_conjunction 22 = .ok (.invokevirtual 285, 3) := by decide +kernel
theorem dX12_conjunction_25 : decode cX12_conjunction 25 = .ok (.aload_n 0, 1) := by decide +kernel
theorem dX12_conjunction_26 : decode cX12_conjunction 26 = .ok (.iconst 2, 1) := by decide +kernel
theorem dX12_conjunction_27 : decode cX12_conjunction 27 = .ok (.sipush 261, 3) := by decide +kernel
theorem dX12_conjunction_30 : decode cX12_conjunction 30 = .ok (.invokevirtual 282, 3) := by decide +kernel
theorem dX12_conjunction_33 : decode cX12_conjunction 33 = .ok (.goto (-29), 3) := by decide +kernel
theorem dX12_conjunction_36 : decode cX12_conjunction 36 = .ok (.return_, 1) := by decide +kernel
theorem dX12_negation_0 : decode cX12_negation 0 = .ok (.aload_n 0, 1) := by decide +kernel
theorem dX12_negation_1 : decode cX12_negation 1 = .ok (.bipush 13, 2) := by decide +kernel
theorem dX12_negation_3 : decode cX12_negation 3 = .ok (.invokevirtual 276, 3) := by decide +kernel
theorem dX12_negation_6 : decode cX12_negation 6 = .ok (.ifCond .eq 24, 3) := by decide +kernel
theorem dX12_negation_9 : decode cX12_negation 9 = .ok (.aload_n 0, 1) := by decide +kernel
theorem dX12_negation_10 : decode cX12_negation 10 = .ok (.invokevirtual 279, 3) := by decide +kernel
theorem dX12_negation_13 : decode cX12_negation 13 = .ok (.aload_n 0, 1) := by decide +kernel
theorem dX12_negation_14 : decode cX12_negation 14 = .ok (.invokevirtual 232, 3) := by decide +kernel
theorem dX12_negation_17 : decode cX12_negation 17 = .ok (.aload_n 0, 1) := by decide +kernel
theorem dX12_negation_18 : decode cX12_negation 18 = .ok (.invokevirtual 285, 3) := by decide +kernel
theorem dX12_negation_21 : decode cX12_negation 21 = .ok (.aload_n 0, 1) := by decide +kernel
theorem dX12_negation_22 : decode cX12_negation 22 = .ok (.iconst 2, 1) := by decide +kernel
theorem dX12_negation_23 : decode cX12_negation 23 = .ok (.sipush 260, 3) := by decide +kernel
theorem dX12_negation_26 : decode cX12_negation 26 = .ok (.invokevirtual 282, 3) := by decide +kernel
theorem dX12_negation_29 : decode cX12_negation 29 = .ok (.return_, 1) := by decide +kernel
theorem dX12_negation_30 : decode cX12_negation 30 = .ok (.aload_n 0, 1) := by decide +kernel
theorem dX12_negation_31 : decode cX12_negation 31 = .ok (.invokevirtual 288, 3) := by decide +kernel
theorem dX12_negation_34 : decode cX12_negation 34 = .ok (.aload_n 0, 1) := by decide +kernel
theorem dX12_negation_35 : decode cX12_negation 35 = .ok (.getfield 208, 3) := by decide +kernel
theorem dX12_negation_38 : decode cX12_negation 38 = .ok (.ifCond .ne 48, 3) := by decide +kernel
theorem dX12_negation_41 : decode cX12_negation 41 = .ok (.aload_n 0, 1) := by decide +kernel
theorem dX12_negation_42 : decode cX12_negation 42 = .ok (.getfield 173, 3) := by decide +kernel
theorem dX12_negation_45 : decode cX12_negation 45 = .ok (.iconst 3, 1) := by decide +kernel
theorem dX12_negation_46 : decode cX12_negation 46 = .ok (.if_icmp .ne 40, 3) := by decide +kernel
theorem dX12_negation_49 : decode cX12_negation 49 = .ok (.aload_n 0, 1) := by decide +kernel
theorem dX12_negation_50 : decode cX12_negation 50 = .ok (.getfield 183, 3) := by decide +kernel
theorem dX12_negation_53 : decode cX12_negation 53 = .ok (.bipush 60, 2) := by decide +kernel
theorem dX12_negation_55 : decode cX12_negation 55 = .ok (.if_icmp .eq 32, 3) := by decide +kernel
theorem dX12_negation_58 : decode cX12_negation 58 = .ok (.aload_n 0, 1) := by decide +kernel
theorem dX12_negation_59 : decode cX12_negation 59 = .ok (.getfield 183, 3) := by decide +kernel
theorem dX12_negation_62 : decode cX12_negation 62 = .ok (.bipush 62, 2) := by decide +kernel
theorem dX12_negation_64 : decode cX12_negation 64 = .ok (.if_icmp .eq 23, 3) := by decide +kernel
theorem dX12_negation_67 : decode cX12_negation 67 = .ok (.aload_n 0, 1) := by decide +kernel
theorem dX12_negation_68 : decode cX12_negation 68 = .ok (.getfield 183, 3) := by decide +kernel
theorem dX12_negation_71 : decode cX12_negation 71 = .ok (.bipush 61, 2) := by decide +kernel
theorem dX12_negation_73 : decode cX12_negation 73 = .ok (.if_icmp .eq 14, 3) := by decide +kernel
theorem dX12_negation_76 : decode cX12_negation 76 = .ok (.aload_n 0, 1) := by decide +kernel
theorem dX12_negation_77 : decode cX12_negation 77 = .ok (.getfield 183, 3) := by decide +kernel
theorem dX12_negation_80 : decode cX12_negation 80 = .ok (.sipush 256, 3) := by decide +kernel
theorem dX12_negation_83 : decode cX12_negation 83 = .ok (.if_icmp .ge 4, 3) := by decide +kernel
theorem dX12_negation_86 : decode cX12_negation 86 = .ok (.return_, 1) := by decide +kernel
theorem dX12_negation_87 : decode cX12_negation 87 = .ok (.aload_n 0, 1) := by decide +kernel
theorem dX12_negation_88 : decode cX12_negation 88 = .ok (.getfield 183, 3) := by decide +kernel
theorem dX12_negation_91 : decode cX12_negation 91 = .ok (.istore_n 1, 1) := by decide +kernel
theorem dX12_negation_92 : decode cX12_negation 92 = .ok (.aload_n 0, 1) := by decide +kernel
theorem dX12_negation_93 : decode cX12_negation 93 = .ok (.invokevirtual 279, 3) := by decide +kernel
theorem dX12_negation_96 : decode cX12_negation 96 = .ok (.aload_n 0, 1) := by decide +kernel
theorem dX12_negation_97 : decode cX12_negation 97 = .ok (.invokevirtual 232, 3) := by decide +kernel
theorem dX12_negation_100 : decode cX12_negation 100 = .ok (.aload_n 0, 1) := by decide +kernel
theorem dX12_negation_101 : decode cX12_negation 101 = .ok (.invokevirtual 288, 3) := by decide +kernel
theorem dX12_negation_104 : decode cX12_negation 104 = .ok (.aload_n 0, 1) := by decide +kernel
theorem dX12_negation_105 : decode cX12_negation 105 = .ok (.iconst 2, 1) := by decide +kernel
theorem dX12_negation_106 : decode cX12_negation 106 = .ok (.iload_n 1, 1) := by decide +kernel
theorem dX12_negation_107 : decode cX12_negation 107 = .ok (.invokevirtual 282, 3) := by decide +kernel
theorem dX12_negation_110 : decode cX12_negation 110 = .ok (.return_, 1) := by decide +kernel
theorem dX12_sum_0 : decode cX12_sum 0 = .ok (.aload_n 0, 1) := by decide +kernel
theorem dX12_sum_1 : decode cX12_sum 1 = .ok (.invokevirtual 291, 3) := by decide +kernel
theorem dX12_sum_4 : decode cX12_sum 4 = .ok (.aload_n 0, 1) := by decide +kernel
theorem dX12_sum_5 : decode cX12_sum 5 = .ok (.bipush 43, 2) := by decide +kernel
theorem dX12_sum_7 : decode cX12_sum 7 = .ok (.invokevirtual 261, 3) := by decide +kernel
theorem dX12_sum_10 : decode cX12_sum 10 = .ok (.ifCond .ne 12, 3) := by decide +kernel
theorem dX12_sum_13 : decode cX12_sum 13 = .ok (.aload_n 0, 1) := by decide +kernel
theorem dX12_sum_14 : decode cX12_sum 14 = .ok (.bipush 45, 2) := by decide +kernel
theorem dX12_sum_16 : decode cX12_sum 16 = .ok (.invokevirtual 261, 3) := by decide +kernel
theorem dX12_sum_19 : decode cX12_sum 19 = .ok (.ifCond .eq 29, 3) := by decide +kernel
theorem dX12_sum_22 : decode cX12_sum 22 = .ok (.aload_n 0, 1) := by decide +kernel
theorem dX12_sum_23 : decode cX12_sum 23 = .ok (.getfield 183, 3) := by decide +kernel
theorem dX12_sum_26 : decode cX12_sum 26 = .ok (.istore_n 1, 1) := by decide +kernel
theorem dX12_sum_27 : decode cX12_sum 27 = .ok (.aload_n 0, 1) := by decide +kernel
theorem dX12_sum_28 : decode cX12_sum 28 = .ok (.invokevirtual 279, 3) := by decide +kernel
theorem dX12_sum_31 : decode cX12_sum 31 = .ok (.aload_n 0, 1) := by decide +kernel
theorem dX12_sum_32 : decode cX12_sum 32 = .ok (.invokevirtual 232, 3) := by decide +kernel
theorem dX12_sum_35 : decode cX12_sum 35 = .ok (.aload_n 0, 1) := by decide +kernel
theorem dX12_sum_36 : decode cX12_sum 36 = .ok (.invokevirtual 291, 3) := by decide +kernel
theorem dX12_sum_39 : decode cX12_sum 39 = .ok (.aload_n 0, 1) := by decide +kernel
theorem dX12_sum_40 : decode cX12_sum 40 = .ok (.iconst 2, 1) := by decide +kernel
theorem dX12_sum_41 : decode cX12_sum 41 = .ok (.iload_n 1, 1) := by decide +kernel
theorem dX12_sum_42 : decode cX12_sum 42 = .ok (.invokevirtual 282, 3) := by decide +kernel
theorem dX12_sum_45 : decode cX12_sum 45 = .ok (.goto (-41), 3) := by decide +kernel
theorem dX12_sum_48 : decode cX12_sum 48 = .ok (.return_, 1) := by decide +kernel
theorem dX12_product_0 : decode cX12_product 0 = .ok (.aload_n 0, 1) := by decide +kernel
theorem dX12_product_1 : decode cX12_product 1 = .ok (.invokevirtual 294, 3) := by decide +kernel
theorem dX12_product_4 : decode cX12_product 4 = .ok (.aload_n 0, 1) := by decide +kernel
theorem dX12_product_5 : decode cX12_product 5 = .ok (.bipush 42, 2) := by decide +kernel
theorem dX12_product_7 : decode cX12_product 7 = .ok (.invokevirtual 261, 3) := by decide +kernel
theorem dX12_product_10 : decode cX12_product 10 = .ok (.ifCond .ne 12, 3) := by decide +kernel
theorem dX12_product_13 : decode cX12_product 13 = .ok (.aload_n 0, 1) := by decide +kernel
theorem dX12_product_14 : decode cX12_product 14 = .ok (.bipush 47, 2) := by decide +kernel
theorem dX12_product_16 : decode cX12_product 16 = .ok (.invokevirtual 261, 3) := by decide +kernel
theorem dX12_product_19 : decode cX12_product 19 = .ok (.ifCond .eq 29, 3) := by decide +kernel
theorem dX12_product_22 : decode cX12_product 22 = .ok (.aload_n 0, 1) := by decide +kernel
theorem dX12_product_23 : decode cX12_product 23 = .ok (.getfield 183, 3) := by decide +kernel
theorem dX12_product_26 : decode cX12_product 26 = .ok (.istore_n 1, 1) := by decide +kernel
theorem dX12_product_27 : decode cX12_product 27 = .ok (.aload_n 0, 1) := by decide +kernel
theorem dX12_product_28 : decode cX12_product 28 = .ok (.invokevirtual 279, 3) := by decide +kernel
theorem dX12_product_31 : decode cX12_product 31 = .ok (.aload_n 0, 1) := by decide +kernel
theorem dX12_product_32 : decode cX12_product 32 = .ok (.invokevirtual 232, 3) := by decide +kernel
theorem dX12_product_35 : decode cX12_product 35 = .ok (.aload_n 0, 1) := by decide +kernel
theorem dX12_product_36 : decode cX12_product 36 = .ok (.invokevirtual 294, 3) := by decide +kernel
theorem dX12_product_39 : decode cX12_product 39 = .ok (.aload_n 0, 1) := by decide +kernel
theorem dX12_product_40 : decode cX12_product 40 = .ok (.iconst 2, 1) := by decide +kernel
theorem dX12_product_41 : decode cX12_product 41 = .ok (.iload_n 1, 1) := by decide +kernel
theorem dX12_product_42 : decode cX12_product 42 = .ok (.invokevirtual 282, 3) := by decide +kernel
theorem dX12_product_45 : decode cX12_product 45 = .ok (.goto (-41), 3) := by decide +kernel
theorem dX12_product_48 : decode cX12_product 48 = .ok (.return_, 1) := by decide +kernel
theorem dX12_primary_0 : decode cX12_primary 0 = .ok (.aload_n 0, 1) := by decide +kernel
theorem dX12_primary_1 : decode cX12_primary 1 = .ok (.getfield 208, 3) := by decide +kernel
theorem dX12_primary_4 : decode cX12_primary 4 = .ok (.ifCond .eq 4, 3) := by decide +kernel
theorem dX12_primary_7 : decode cX12_primary 7 = .ok (.return_, 1) := by decide +kernel
theorem dX12_primary_8 : decode cX12_primary 8 = .ok (.aload_n 0, 1) := by decide +kernel
theorem dX12_primary_9 : decode cX12_primary 9 = .ok (.bipush 40, 2) := by decide +kernel
theorem dX12_primary_11 : decode cX12_primary 11 = .ok (.invokevirtual 261, 3) := by decide +kernel
theorem dX12_primary_14 : decode cX12_primary 14 = .ok (.ifCond .eq 87, 3) := by decide +kernel
theorem dX12_primary_17 : decode cX12_primary 17 = .ok (.aload_n 0, 1) := by decide +kernel
theorem dX12_primary_18 : decode cX12_primary 18 = .ok (.getfield 297, 3) := by decide +kernel
theorem dX12_primary_21 : decode cX12_primary 21 = .ok (.bipush 8, 2) := by decide +kernel
theorem dX12_primary_23 : decode cX12_primary 23 = .ok (.if_icmp .ne 8, 3) := by decide +kernel
theorem dX12_primary_26 : decode cX12_primary 26 = .ok (.aload_n 0, 1) := by decide +kernel
theorem dX12_primary_27 : decode cX12_primary 27 = .ok (.iconst 2, 1) := by decide +kernel
theorem dX12_primary_28 : decode cX12_primary 28 = .ok (.invokevirtual 217, 3) := by decide +kernel
theorem dX12_primary_31 : decode cX12_primary 31 = .ok (.aload_n 0, 1) := by decide +kernel
theorem dX12_primary_32 : decode cX12_primary 32 = .ok (.getfield 208, 3) := by decide +kernel
theorem dX12_primary_35 : decode cX12_primary 35 = .ok (.ifCond .eq 4, 3) := by decide +kernel
theorem dX12_primary_38 : decode cX12_primary 38 = .ok (.return_, 1) := by decide +kernel
theorem dX12_primary_39 : decode cX12_primary 39 = .ok (.aload_n 0, 1) := by decide +kernel
theorem dX12_primary_40 : decode cX12_primary 40 = .ok (.dup, 1) := by decide +kernel
theorem dX12_primary_41 : decode cX12_primary 41 = .ok (.getfield 297, 3) := by decide +kernel
theorem dX12_primary_44 : decode cX12_primary 44 = .ok (.iconst 1, 1) := by decide +kernel
theorem dX12_primary_45 : decode cX12_primary 45 = .ok (.iadd, 1) := by decide +kernel
theorem dX12_primary_46 : decode cX12_primary 46 = .ok (.putfield 297, 3) := by decide +kernel
theorem dX12_primary_49 : decode cX12_primary 49 = .ok (.aload_n 0, 1) := by decide +kernel
theorem dX12_primary_50 : decode cX12_primary 50 = .ok (.invokevirtual 214, 3) := by decide +kernel
theorem dX12_primary_53 : decode cX12_primary 53 = .ok (.aload_n 0, 1) := by decide +kernel
theorem dX12_primary_54 : decode cX12_primary 54 = .ok (.invokevirtual 267, 3) := by decide +kernel
theorem dX12_primary_57 : decode cX12_primary 57 = .ok (.aload_n 0, 1) := by decide +kernel
theorem dX12_primary_58 : decode cX12_primary 58 = .ok (.getfield 208, 3) := by decide +kernel
theorem dX12_primary_61 : decode cX12_primary 61 = .ok (.ifCond .ne 17, 3) := by decide +kernel
theorem dX12_primary_64 : decode cX12_primary 64 = .ok (.aload_n 0, 1) := by decide +kernel
theorem dX12_primary_65 : decode cX12_primary 65 = .ok (.bipush 41, 2) := by decide +kernel
theorem dX12_primary_67 : decode cX12_primary 67 = .ok (.invokevirtual 261, 3) := by decide +kernel
theorem dX12_primary_70 : decode cX12_primary 70 = .ok (.ifCond .ne 8, 3) := by decide +kernel
theorem dX12_primary_73 : decode cX12_primary 73 = .ok (.aload_n 0, 1) := by decide +kernel
theorem dX12_primary_74 : decode cX12_primary 74 = .ok (.iconst 1, 1) := by decide +kernel
theorem dX12_primary_75 : decode cX12_primary 75 = .ok (.invokevirtual 217, 3) := by decide +kernel
theorem dX12_primary_78 : decode cX12_primary 78 = .ok (.aload_n 0, 1) := by decide +kernel
theorem dX12_primary_79 : decode cX12_primary 79 = .ok (.getfield 208, 3) := by decide +kernel
theorem dX12_primary_82 : decode cX12_primary 82 = .ok (.ifCond .eq 4, 3) := by decide +kernel
theorem dX12_primary_85 : decode cX12_primary 85 = .ok (.return_, 1) := by decide +kernel
theorem dX12_primary_86 : decode cX12_primary 86 = .ok (.aload_n 0, 1) := by decide +kernel
theorem dX12_primary_87 : decode cX12_primary 87 = .ok (.dup, 1) := by decide +kernel
theorem dX12_primary_88 : decode cX12_primary 88 = .ok (.getfield 297, 3) := by decide +kernel
theorem dX12_primary_91 : decode cX12_primary 91 = .ok (.iconst 1, 1) := by decide +kernel
theorem dX12_primary_92 : decode cX12_primary 92 = .ok (.isub, 1) := by decide +kernel
theorem dX12_primary_93 : decode cX12_primary 93 = .ok (.putfield 297, 3) := by decide +kernel
theorem dX12_primary_96 : decode cX12_primary 96 = .ok (.aload_n 0, 1) := by decide +kernel
theorem dX12_primary_97 : decode cX12_primary 97 = .ok (.invokevirtual 214, 3) := by decide +kernel
theorem dX12_primary_100 : decode cX12_primary 100 = .ok (.return_, 1) := by decide +kernel
theorem dX12_primary_101 : decode cX12_primary 101 = .ok (.aload_n 0, 1) := by decide +kernel
theorem dX12_primary_102 : decode cX12_primary 102 = .ok (.getfield 173, 3) := by decide +kernel
theorem dX12_primary_105 : decode cX12_primary 105 = .ok (.iconst 2, 1) := by decide +kernel
theorem dX12_primary_106 : decode cX12_primary 106 = .ok (.if_icmp .ne 7, 3) := by decide +kernel
theorem dX12_primary_109 : decode cX12_primary 109 = .ok (.iconst 1, 1) := by decide +kernel
theorem dX12_primary_110 : decode cX12_primary 110 = .ok (.goto 4, 3) := by decide +kernel
theorem dX12_primary_113 : decode cX12_primary 113 = .ok (.iconst 0, 1) := by decide +kernel
theorem dX12_primary_114 : decode cX12_primary 114 = .ok (.istore_n 1, 1) := by decide +kernel
theorem dX12_primary_115 : decode cX12_primary 115 = .ok (.iload_n 1, 1) := by decide +kernel
theorem dX12_primary_116 : decode cX12_primary 116 = .ok (.ifCond .eq 21, 3) := by decide +kernel
theorem dX12_primary_119 : decode cX12_primary 119 = .ok (.aload_n 0, 1) := by decide +kernel
theorem dX12_primary_120 : decode cX12_primary 120 = .ok (.getfield 183, 3) := by decide +kernel
theorem dX12_primary_123 : decode cX12_primary 123 = .ok (.sipush 9999, 3) := by decide +kernel
theorem dX12_primary_126 : decode cX12_primary 126 = .ok (.if_icmp .le 11, 3) := by decide +kernel
theorem dX12_primary_129 : decode cX12_primary 129 = .ok (.aload_n 0, 1) := by decide +kernel
theorem dX12_primary_130 : decode cX12_primary 130 = .ok (.iconst 2, 1) := by decide +kernel
theorem dX12_primary_131 : decode cX12_primary 131 = .ok (.invokevirtual 217, 3) := by decide +kernel
theorem dX12_primary_134 : decode cX12_primary 134 = .ok (.goto 28, 3) := by decide +kernel
theorem dX12_primary_137 : decode cX12_primary 137 = .ok (.iload_n 1, 1) := by decide +kernel
theorem dX12_primary_138 : decode cX12_primary 138 = .ok (.ifCond .ne 24, 3) := by decide +kernel
theorem dX12_primary_141 : decode cX12_primary 141 = .ok (.aload_n 0, 1) := by decide +kernel
theorem dX12_primary_142 : decode cX12_primary 142 = .ok (.getfield 173, 3) := by decide +kernel
theorem dX12_primary_145 : decode cX12_primary 145 = .ok (.ifCond .ne 12, 3) := by decide +kernel
theorem dX12_primary_148 : decode cX12_primary 148 = .ok (.aload_n 0, 1) := by decide +kernel
theorem dX12_primary_149 : decode cX12_primary 149 = .ok (.getfield 183, 3) := by decide +kernel
theorem dX12_primary_152 : decode cX12_primary 152 = .ok (.bipush 14, 2) := by decide +kernel
theorem dX12_primary_154 : decode cX12_primary 154 = .ok (.if_icmp .ge 8, 3) := by decide +kernel
theorem dX12_primary_157 : decode cX12_primary 157 = .ok (.aload_n 0, 1) := by decide +kernel
theorem dX12_primary_158 : decode cX12_primary 158 = .ok (.iconst 1, 1) := by decide +kernel
theorem dX12_primary_159 : decode cX12_primary 159 = .ok (.invokevirtual 217, 3) := by decide +kernel
theorem dX12_primary_162 : decode cX12_primary 162 = .ok (.aload_n 0, 1) := by decide +kernel
theorem dX12_primary_163 : decode cX12_primary 163 = .ok (.invokevirtual 279, 3) := by decide +kernel
theorem dX12_primary_166 : decode cX12_primary 166 = .ok (.aload_n 0, 1) := by decide +kernel
theorem dX12_primary_167 : decode cX12_primary 167 = .ok (.iload_n 1, 1) := by decide +kernel
theorem dX12_primary_168 : decode cX12_primary 168 = .ok (.ifCond .eq 7, 3) := by decide +kernel
theorem dX12_primary_171 : decode cX12_primary 171 = .ok (.iconst 0, 1) := by decide +kernel
theorem dX12_primary_172 : decode cX12_primary 172 = .ok (.goto 4, 3) := by decide +kernel
theorem dX12_primary_175 : decode cX12_primary 175 = .ok (.iconst 1, 1) := by decide +kernel
theorem dX12_primary_176 : decode cX12_primary 176 = .ok (.iload_n 1, 1) := by decide +kernel
theorem dX12_primary_177 : decode cX12_primary 177 = .ok (.ifCond .eq 10, 3) := by decide +kernel
theorem dX12_primary_180 : decode cX12_primary 180 = .ok (.aload_n 0, 1) := by decide +kernel
theorem dX12_primary_181 : decode cX12_primary 181 = .ok (.getfield 183, 3) := by decide +kernel
theorem dX12_primary_184 : decode cX12_primary 184 = .ok (.goto 10, 3) := by decide +kernel
theorem dX12_primary_187 : decode cX12_primary 187 = .ok (.aload_n 0, 1) := by decide +kernel
theorem dX12_primary_188 : decode cX12_primary 188 = .ok (.getfield 183, 3) := by decide +kernel
theorem dX12_primary_191 : decode cX12_primary 191 = .ok (.bipush 14, 2) := by decide +kernel
theorem dX12_primary_193 : decode cX12_primary 193 = .ok (.isub, 1) := by decide +kernel
theorem dX12_primary_194 : decode cX12_primary 194 = .ok (.invokevirtual 282, 3) := by decide +kernel
theorem dX12_primary_197 : decode cX12_primary 197 = .ok (.aload_n 0, 1) := by decide +kernel
theorem dX12_primary_198 : decode cX12_primary 198 = .ok (.invokevirtual 232, 3) := by decide +kernel
theorem dX12_primary_201 : decode cX12_primary 201 = .ok (.return_, 1) := by decide +kernel
theorem dX12_half_0 : decode cX12_half 0 = .ok (.aload_n 0, 1) := by decide +kernel
theorem dX12_half_1 : decode cX12_half 1 = .ok (.arraylength, 1) := by decide +kernel
theorem dX12_half_2 : decode cX12_half 2 = .ok (.iconst 2, 1) := by decide +kernel
theorem dX12_half_3 : decode cX12_half 3 = .ok (.idiv, 1) := by decide +kernel
theorem dX12_half_4 : decode cX12_half 4 = .ok (.istore_n 1, 1) := by decide +kernel
theorem dX12_half_5 : decode cX12_half 5 = .ok (.iconst 0, 1) := by decide +kernel
theorem dX12_half_6 : decode cX12_half 6 = .ok (.istore_n 2, 1) := by decide +kernel
theorem dX12_half_7 : decode cX12_half 7 = .ok (.iload_n 2, 1) := by decide +kernel
theorem dX12_half_8 : decode cX12_half 8 = .ok (.iload_n 1, 1) := by decide +kernel
theorem dX12_half_9 : decode cX12_half 9 = .ok (.if_icmp .ge 17, 3) := by decide +kernel
theorem dX12_half_12 : decode cX12_half 12 = .ok (.aload_n 0, 1) := by decide +kernel
theorem dX12_half_13 : decode cX12_half 13 = .ok (.iload_n 2, 1) := by decide +kernel
theorem dX12_half_14 : decode cX12_half 14 = .ok (.aload_n 0, 1) := by decide +kernel
theorem dX12_half_15 : decode cX12_half 15 = .ok (.iload_n 1, 1) := by decide +kernel
theorem dX12_half_16 : decode cX12_half 16 = .ok (.iload_n 2, 1) := by decide +kernel
theorem dX12_half_17 : decode cX12_half 17 = .ok (.iadd, 1) := by decide +kernel
theorem dX12_half_18 : decode cX12_half 18 = .ok (.iaload, 1) := by decide +kernel
theorem dX12_half_19 : decode cX12_half 19 = .ok (.iastore, 1) := by decide +kernel
theorem dX12_half_20 : decode cX12_half 20 = .ok (.iinc 2 1, 3) := by decide +kernel
theorem dX12_half_23 : decode cX12_half 23 = .ok (.goto (-16), 3) := by decide +kernel
theorem dX12_half_26 : decode cX12_half 26 = .ok (.return_, 1) := by decide +kernel
theorem dX12_text_0 : decode cX12_text 0 = .ok (.aload_n 0, 1) := by decide +kernel
theorem dX12_text_1 : decode cX12_text 1 = .ok (.iconst 0, 1) := by decide +kernel
theorem dX12_text_2 : decode cX12_text 2 = .ok (.putfield 154, 3) := by decide +kernel
theorem dX12_text_5 : decode cX12_text 5 = .ok (.iload_n 1, 1) := by decide +kernel
theorem dX12_text_6 : decode cX12_text 6 = .ok (.ifCond .lt 11, 3) := by decide +kernel
theorem dX12_text_9 : decode cX12_text 9 = .ok (.iload_n 1, 1) := by decide +kernel
theorem dX12_text_10 : decode cX12_text 10 = .ok (.aload_n 0, 1) := by decide +kernel
theorem dX12_text_11 : decode cX12_text 11 = .ok (.getfield 157, 3) := by decide +kernel
theorem dX12_text_14 : decode cX12_text 14 = .ok (.if_icmp .le 6, 3) := by decide +kernel
theorem dX12_text_17 : decode cX12_text 17 = .ok (.bipush (-2), 2) := by decide +kernel
theorem dX12_text_19 : decode cX12_text 19 = .ok (.ireturn, 1) := by decide +kernel
theorem dX12_text_20 : decode cX12_text 20 = .ok (.aload_n 0, 1) := by decide +kernel
theorem dX12_text_21 : decode cX12_text 21 = .ok (.iload_n 1, 1) := by decide +kernel
theorem dX12_text_22 : decode cX12_text 22 = .ok (.putfield 163, 3) := by decide +kernel
theorem dX12_text_25 : decode cX12_text 25 = .ok (.aload_n 0, 1) := by decide +kernel
theorem dX12_text_26 : decode cX12_text 26 = .ok (.iconst 0, 1) := by decide +kernel
theorem dX12_text_27 : decode cX12_text 27 = .ok (.putfield 157, 3) := by decide +kernel
theorem dX12_text_30 : decode cX12_text 30 = .ok (.aload_n 0, 1) := by decide +kernel
theorem dX12_text_31 : decode cX12_text 31 = .ok (.iconst 0, 1) := by decide +kernel
theorem dX12_text_32 : decode cX12_text 32 = .ok (.putfield 160, 3) := by decide +kernel
theorem dX12_text_35 : decode cX12_text 35 = .ok (.aload_n 0, 1) := by decide +kernel
theorem dX12_text_36 : decode cX12_text 36 = .ok (.iconst 0, 1) := by decide +kernel
theorem dX12_text_37 : decode cX12_text 37 = .ok (.putfield 208, 3) := by decide +kernel
theorem dX12_text_40 : decode cX12_text 40 = .ok (.aload_n 0, 1) := by decide +kernel
theorem dX12_text_41 : decode cX12_text 41 = .ok (.iconst (-1), 1) := by decide +kernel
theorem dX12_text_42 : decode cX12_text 42 = .ok (.putfield 211, 3) := by decide +kernel
theorem dX12_text_45 : decode cX12_text 45 = .ok (.iconst 0, 1) := by decide +kernel
theorem dX12_text_46 : decode cX12_text 46 = .ok (.istore_n 2, 1) := by decide +kernel
theorem dX12_text_47 : decode cX12_text 47 = .ok (.iload_n 2, 1) := by decide +kernel
theorem dX12_text_48 : decode cX12_text 48 = .ok (.bipush 8, 2) := by decide +kernel
theorem dX12_text_50 : decode cX12_text 50 = .ok (.if_icmp .ge 25, 3) := by decide +kernel
theorem dX12_text_53 : decode cX12_text 53 = .ok (.aload_n 0, 1) := by decide +kernel
theorem dX12_text_54 : decode cX12_text 54 = .ok (.iload_n 2, 1) := by decide +kernel
theorem dX12_text_55 : decode cX12_text 55 = .ok (.iload_n 2, 1) := by decide +kernel
theorem dX12_text_56 : decode cX12_text 56 = .ok (.iconst 5, 1) := by decide +kernel
theorem dX12_text_57 : decode cX12_text 57 = .ok (.if_icmp .ne 8, 3) := by decide +kernel
theorem dX12_text_60 : decode cX12_text 60 = .ok (.bipush 100, 2) := by decide +kernel
theorem dX12_text_62 : decode cX12_text 62 = .ok (.goto 4, 3) := by decide +kernel
theorem dX12_text_65 : decode cX12_text 65 = .ok (.iconst 0, 1) := by decide +kernel
theorem dX12_text_66 : decode cX12_text 66 = .ok (.invokevirtual 248, 3) := by decide +kernel
theorem dX12_text_69 : decode cX12_text 69 = .ok (.iinc 2 1, 3) := by decide +kernel
theorem dX12_text_72 : decode cX12_text 72 = .ok (.goto (-25), 3) := by decide +kernel
theorem dX12_text_75 : decode cX12_text 75 = .ok (.iconst 3, 1) := by decide +kernel
theorem dX12_text_76 : decode cX12_text 76 = .ok (.istore_n 2, 1) := by decide +kernel
theorem dX12_text_77 : decode cX12_text 77 = .ok (.iload_n 2, 1) := by decide +kernel
theorem dX12_text_78 : decode cX12_text 78 = .ok (.bipush 6, 2) := by decide +kernel
theorem dX12_text_80 : decode cX12_text 80 = .ok (.if_icmp .ge 23, 3) := by decide +kernel
theorem dX12_text_83 : decode cX12_text 83 = .ok (.aload_n 0, 1) := by decide +kernel
theorem dX12_text_84 : decode cX12_text 84 = .ok (.getfield 61, 3) := by decide +kernel
theorem dX12_text_87 : decode cX12_text 87 = .ok (.iload_n 2, 1) := by decide +kernel
theorem dX12_text_88 : decode cX12_text 88 = .ok (.iconst 0, 1) := by decide +kernel
theorem dX12_text_89 : decode cX12_text 89 = .ok (.iastore, 1) := by decide +kernel
theorem dX12_text_90 : decode cX12_text 90 = .ok (.aload_n 0, 1) := by decide +kernel
theorem dX12_text_91 : decode cX12_text 91 = .ok (.getfield 64, 3) := by decide +kernel
theorem dX12_text_94 : decode cX12_text 94 = .ok (.iload_n 2, 1) := by decide +kernel
theorem dX12_text_95 : decode cX12_text 95 = .ok (.iconst 0, 1) := by decide +kernel
theorem dX12_text_96 : decode cX12_text 96 = .ok (.iastore, 1) := by decide +kernel
theorem dX12_text_97 : decode cX12_text 97 = .ok (.iinc 2 1, 3) := by decide +kernel
theorem dX12_text_100 : decode cX12_text 100 = .ok (.goto (-23), 3) := by decide +kernel
theorem dX12_text_103 : decode cX12_text 103 = .ok (.aload_n 0, 1) := by decide +kernel
theorem dX12_text_104 : decode cX12_text 104 = .ok (.iconst 0, 1) := by decide +kernel
theorem dX12_text_105 : decode cX12_text 105 = .ok (.putfield 238, 3) := by decide +kernel
theorem dX12_text_108 : decode cX12_text 108 = .ok (.aload_n 0, 1) := by decide +kernel
theorem dX12_text_109 : decode cX12_text 109 = .ok (.iconst 0, 1) := by decide +kernel
theorem dX12_text_110 : decode cX12_text 110 = .ok (.putfield 264, 3) := by decide +kernel
theorem dX12_text_113 : decode cX12_text 113 = .ok (.aload_n 0, 1) := by decide +kernel
theorem dX12_text_114 : decode cX12_text 114 = .ok (.iconst 0, 1) := by decide +kernel
theorem dX12_text_115 : decode cX12_text 115 = .ok (.putfield 297, 3) := by decide +kernel
theorem dX12_text_118 : decode cX12_text 118 = .ok (.aload_n 0, 1) := by decide +kernel
theorem dX12_text_119 : decode cX12_text 119 = .ok (.iconst 0, 1) := by decide +kernel
theorem dX12_text_120 : decode cX12_text 120 = .ok (.putfield 270, 3) := by decide +kernel
theorem dX12_text_123 : decode cX12_text 123 = .ok (.aload_n 0, 1) := by decide +kernel
theorem dX12_text_124 : decode cX12_text 124 = .ok (.invokevirtual 214, 3) := by decide +kernel
theorem dX12_text_127 : decode cX12_text 127 = .ok (.aload_n 0, 1) := by decide +kernel
theorem dX12_text_128 : decode cX12_text 128 = .ok (.getfield 208, 3) := by decide +kernel
theorem dX12_text_131 : decode cX12_text 131 = .ok (.ifCond .ne 18, 3) := by decide +kernel
theorem dX12_text_134 : decode cX12_text 134 = .ok (.aload_n 0, 1) := by decide +kernel
theorem dX12_text_135 : decode cX12_text 135 = .ok (.getfield 173, 3) := by decide +kernel
theorem dX12_text_138 : decode cX12_text 138 = .ok (.iconst 4, 1) := by decide +kernel
theorem dX12_text_139 : decode cX12_text 139 = .ok (.if_icmp .eq 10, 3) := by decide +kernel
theorem dX12_text_142 : decode cX12_text 142 = .ok (.aload_n 0, 1) := by decide +kernel
theorem dX12_text_143 : decode cX12_text 143 = .ok (.invokevirtual 300, 3) := by decide +kernel
theorem dX12_text_146 : decode cX12_text 146 = .ok (.goto (-19), 3) := by decide +kernel
theorem dX12_text_149 : decode cX12_text 149 = .ok (.aload_n 0, 1) := by decide +kernel
theorem dX12_text_150 : decode cX12_text 150 = .ok (.aload_n 0, 1) := by decide +kernel
theorem dX12_text_151 : decode cX12_text 151 = .ok (.getfield 208, 3) := by decide +kernel
theorem dX12_text_154 : decode cX12_text 154 = .ok (.putfield 303, 3) := by decide +kernel
theorem dX12_text_157 : decode cX12_text 157 = .ok (.aload_n 0, 1) := by decide +kernel
theorem dX12_text_158 : decode cX12_text 158 = .ok (.aload_n 0, 1) := by decide +kernel
theorem dX12_text_159 : decode cX12_text 159 = .ok (.getfield 211, 3) := by decide +kernel
theorem dX12_text_162 : decode cX12_text 162 = .ok (.putfield 73, 3) := by decide +kernel
theorem dX12_text_165 : decode cX12_text 165 = .ok (.aload_n 0, 1) := by decide +kernel
theorem dX12_text_166 : decode cX12_text 166 = .ok (.getfield 208, 3) := by decide +kernel
theorem dX12_text_169 : decode cX12_text 169 = .ok (.ifCond .eq 5, 3) := by decide +kernel
theorem dX12_text_172 : decode cX12_text 172 = .ok (.iconst (-1), 1) := by decide +kernel
theorem dX12_text_173 : decode cX12_text 173 = .ok (.ireturn, 1) := by decide +kernel
theorem dX12_text_174 : decode cX12_text 174 = .ok (.aload_n 0, 1) := by decide +kernel
theorem dX12_text_175 : decode cX12_text 175 = .ok (.getfield 13, 3) := by decide +kernel
theorem dX12_text_178 : decode cX12_text 178 = .ok (.invokestatic 306, 3) := by decide +kernel
theorem dX12_text_181 : decode cX12_text 181 = .ok (.aload_n 0, 1) := by decide +kernel
theorem dX12_text_182 : decode cX12_text 182 = .ok (.getfield 16, 3) := by decide +kernel
theorem dX12_text_185 : decode cX12_text 185 = .ok (.invokestatic 306, 3) := by decide +kernel
theorem dX12_text_188 : decode cX12_text 188 = .ok (.aload_n 0, 1) := by decide +kernel
theorem dX12_text_189 : decode cX12_text 189 = .ok (.getfield 19, 3) := by decide +kernel
theorem dX12_text_192 : decode cX12_text 192 = .ok (.invokestatic 306, 3) := by decide +kernel
theorem dX12_text_195 : decode cX12_text 195 = .ok (.aload_n 0, 1) := by decide +kernel
theorem dX12_text_196 : decode cX12_text 196 = .ok (.getfield 22, 3) := by decide +kernel
theorem dX12_text_199 : decode cX12_text 199 = .ok (.invokestatic 306, 3) := by decide +kernel
theorem dX12_text_202 : decode cX12_text 202 = .ok (.aload_n 0, 1) := by decide +kernel
theorem dX12_text_203 : decode cX12_text 203 = .ok (.getfield 25, 3) := by decide +kernel
theorem dX12_text_206 : decode cX12_text 206 = .ok (.invokestatic 306, 3) := by decide +kernel
theorem dX12_text_209 : decode cX12_text 209 = .ok (.aload_n 0, 1) := by decide +kernel
theorem dX12_text_210 : decode cX12_text 210 = .ok (.getfield 28, 3) := by decide +kernel
theorem dX12_text_213 : decode cX12_text 213 = .ok (.invokestatic 306, 3) := by decide +kernel
theorem dX12_text_216 : decode cX12_text 216 = .ok (.aload_n 0, 1) := by decide +kernel
theorem dX12_text_217 : decode cX12_text 217 = .ok (.getfield 31, 3) := by decide +kernel
theorem dX12_text_220 : decode cX12_text 220 = .ok (.invokestatic 306, 3) := by decide +kernel
theorem dX12_text_223 : decode cX12_text 223 = .ok (.aload_n 0, 1) := by decide +kernel
theorem dX12_text_224 : decode cX12_text 224 = .ok (.getfield 34, 3) := by decide +kernel
theorem dX12_text_227 : decode cX12_text 227 = .ok (.invokestatic 306, 3) := by decide +kernel
theorem dX12_text_230 : decode cX12_text 230 = .ok (.aload_n 0, 1) := by decide +kernel
theorem dX12_text_231 : decode cX12_text 231 = .ok (.getfield 37, 3) := by decide +kernel
theorem dX12_text_234 : decode cX12_text 234 = .ok (.invokestatic 306, 3) := by decide +kernel
theorem dX12_text_237 : decode cX12_text 237 = .ok (.aload_n 0, 1) := by decide +kernel
theorem dX12_text_238 : decode cX12_text 238 = .ok (.getfield 40, 3) := by decide +kernel
theorem dX12_text_241 : decode cX12_text 241 = .ok (.invokestatic 306, 3) := by decide +kernel
theorem dX12_text_244 : decode cX12_text 244 = .ok (.aload_n 0, 1) := by decide +kernel
theorem dX12_text_245 : decode cX12_text 245 = .ok (.getfield 43, 3) := by decide +kernel
theorem dX12_text_248 : decode cX12_text 248 = .ok (.invokestatic 306, 3) := by decide +kernel
theorem dX12_text_251 : decode cX12_text 251 = .ok (.aload_n 0, 1) := by decide +kernel
theorem dX12_text_252 : decode cX12_text 252 = .ok (.getfield 46, 3) := by decide +kernel
theorem dX12_text_255 : decode cX12_text 255 = .ok (.invokestatic 306, 3) := by decide +kernel
theorem dX12_text_258 : decode cX12_text 258 = .ok (.aload_n 0, 1) := by decide +kernel
theorem dX12_text_259 : decode cX12_text 259 = .ok (.getfield 49, 3) := by decide +kernel
theorem dX12_text_262 : decode cX12_text 262 = .ok (.invokestatic 306, 3) := by decide +kernel
theorem dX12_text_265 : decode cX12_text 265 = .ok (.aload_n 0, 1) := by decide +kernel
theorem dX12_text_266 : decode cX12_text 266 = .ok (.getfield 52, 3) := by decide +kernel
theorem dX12_text_269 : decode cX12_text 269 = .ok (.invokestatic 306, 3) := by decide +kernel
theorem dX12_text_272 : decode cX12_text 272 = .ok (.aload_n 0, 1) := by decide +kernel
theorem dX12_text_273 : decode cX12_text 273 = .ok (.getfield 55, 3) := by decide +kernel
theorem dX12_text_276 : decode cX12_text 276 = .ok (.invokestatic 306, 3) := by decide +kernel
theorem dX12_text_279 : decode cX12_text 279 = .ok (.aload_n 0, 1) := by decide +kernel
theorem dX12_text_280 : decode cX12_text 280 = .ok (.getfield 58, 3) := by decide +kernel
theorem dX12_text_283 : decode cX12_text 283 = .ok (.invokestatic 306, 3) := by decide +kernel
theorem dX12_text_286 : decode cX12_text 286 = .ok (.aload_n 0, 1) := by decide +kernel
theorem dX12_text_287 : decode cX12_text 287 = .ok (.getfield 61, 3) := by decide +kernel
theorem dX12_text_290 : decode cX12_text 290 = .ok (.invokestatic 306, 3) := by decide +kernel
theorem dX12_text_293 : decode cX12_text 293 = .ok (.aload_n 0, 1) := by decide +kernel
theorem dX12_text_294 : decode cX12_text 294 = .ok (.getfield 64, 3) := by decide +kernel
theorem dX12_text_297 : decode cX12_text 297 = .ok (.invokestatic 306, 3) := by decide +kernel
theorem dX12_text_300 : decode cX12_text 300 = .ok (.aload_n 0, 1) := by decide +kernel
theorem dX12_text_301 : decode cX12_text 301 = .ok (.getfield 67, 3) := by decide +kernel
theorem dX12_text_304 : decode cX12_text 304 = .ok (.invokestatic 306, 3) := by decide +kernel
theorem dX12_text_307 : decode cX12_text 307 = .ok (.aload_n 0, 1) := by decide +kernel
theorem dX12_text_308 : decode cX12_text 308 = .ok (.getfield 70, 3) := by decide +kernel
theorem dX12_text_311 : decode cX12_text 311 = .ok (.invokestatic 306, 3) := by decide +kernel
theorem dX12_text_314 : decode cX12_text 314 = .ok (.aload_n 0, 1) := by decide +kernel
theorem dX12_text_315 : decode cX12_text 315 = .ok (.iconst 0, 1) := by decide +kernel
theorem dX12_text_316 : decode cX12_text 316 = .ok (.putfield 310, 3) := by decide +kernel
theorem dX12_text_319 : decode cX12_text 319 = .ok (.aload_n 0, 1) := by decide +kernel
theorem dX12_text_320 : decode cX12_text 320 = .ok (.iconst (-1), 1) := by decide +kernel
theorem dX12_text_321 : decode cX12_text 321 = .ok (.putfield 126, 3) := by decide +kernel
theorem dX12_text_324 : decode cX12_text 324 = .ok (.aload_n 0, 1) := by decide +kernel
theorem dX12_text_325 : decode cX12_text 325 = .ok (.iconst 0, 1) := by decide +kernel
theorem dX12_text_326 : decode cX12_text 326 = .ok (.putfield 313, 3) := by decide +kernel
theorem dX12_text_329 : decode cX12_text 329 = .ok (.aload_n 0, 1) := by decide +kernel
theorem dX12_text_330 : decode cX12_text 330 = .ok (.iconst 0, 1) := by decide +kernel
theorem dX12_text_331 : decode cX12_text 331 = .ok (.putfield 317, 3) := by decide +kernel
theorem dX12_text_334 : decode cX12_text 334 = .ok (.aload_n 0, 1) := by decide +kernel
theorem dX12_text_335 : decode cX12_text 335 = .ok (.invokevirtual 151, 3) := by decide +kernel
theorem dX12_text_338 : decode cX12_text 338 = .ok (.aload_n 0, 1) := by decide +kernel
theorem dX12_text_339 : decode cX12_text 339 = .ok (.getfield 264, 3) := by decide +kernel
theorem dX12_text_342 : decode cX12_text 342 = .ok (.ireturn, 1) := by decide +kernel
theorem dX12_fault_0 : decode cX12_fault 0 = .ok (.aload_n 0, 1) := by decide +kernel
theorem dX12_fault_1 : decode cX12_fault 1 = .ok (.iconst 0, 1) := by decide +kernel
theorem dX12_fault_2 : decode cX12_fault 2 = .ok (.putfield 154, 3) := by decide +kernel
theorem dX12_fault_5 : decode cX12_fault 5 = .ok (.iload_n 1, 1) := by decide +kernel
theorem dX12_fault_6 : decode cX12_fault 6 = .ok (.ifCond .ne 10, 3) := by decide +kernel
theorem dX12_fault_9 : decode cX12_fault 9 = .ok (.aload_n 0, 1) := by decide +kernel
theorem dX12_fault_10 : decode cX12_fault 10 = .ok (.getfield 303, 3) := by decide +kernel
theorem dX12_fault_13 : decode cX12_fault 13 = .ok (.goto 16, 3) := by decide +kernel
theorem dX12_fault_16 : decode cX12_fault 16 = .ok (.iload_n 1, 1) := by decide +kernel
theorem dX12_fault_17 : decode cX12_fault 17 = .ok (.iconst 1, 1) := by decide +kernel
theorem dX12_fault_18 : decode cX12_fault 18 = .ok (.if_icmp .ne 10, 3) := by decide +kernel
theorem dX12_fault_21 : decode cX12_fault 21 = .ok (.aload_n 0, 1) := by decide +kernel
theorem dX12_fault_22 : decode cX12_fault 22 = .ok (.getfield 73, 3) := by decide +kernel
theorem dX12_fault_25 : decode cX12_fault 25 = .ok (.goto 4, 3) := by decide +kernel
theorem dX12_fault_28 : decode cX12_fault 28 = .ok (.iconst (-1), 1) := by decide +kernel
theorem dX12_fault_29 : decode cX12_fault 29 = .ok (.ireturn, 1) := by decide +kernel
theorem dX12_named_0 : decode cX12_named 0 = .ok (.aload_n 0, 1) := by decide +kernel
theorem dX12_named_1 : decode cX12_named 1 = .ok (.iconst 0, 1) := by decide +kernel
theorem dX12_named_2 : decode cX12_named 2 = .ok (.putfield 154, 3) := by decide +kernel
theorem dX12_named_5 : decode cX12_named 5 = .ok (.iload_n 1, 1) := by decide +kernel
theorem dX12_named_6 : decode cX12_named 6 = .ok (.lookupswitch 58 #[(0, 26), (1, 42)], 26) := by decide +kernel
theorem dX12_named_32 : decode cX12_named 32 = .ok (.aload_n 0, 1) := by decide +kernel
theorem dX12_named_33 : decode cX12_named 33 = .ok (.getfield 16, 3) := by decide +kernel
theorem dX12_named_36 : decode cX12_named 36 = .ok (.iconst 0, 1) := by decide +kernel
theorem dX12_named_37 : decode cX12_named 37 = .ok (.aload_n 0, 1) := by decide +kernel
theorem dX12_named_38 : decode cX12_named 38 = .ok (.getfield 13, 3) := by decide +kernel
theorem dX12_named_41 : decode cX12_named 41 = .ok (.iconst 0, 1) := by decide +kernel
theorem dX12_named_42 : decode cX12_named 42 = .ok (.iaload, 1) := by decide +kernel
theorem dX12_named_43 : decode cX12_named 43 = .ok (.iload_n 2, 1) := by decide +kernel
theorem dX12_named_44 : decode cX12_named 44 = .ok (.invokestatic 220, 3) := by decide +kernel
theorem dX12_named_47 : decode cX12_named 47 = .ok (.ireturn, 1) := by decide +kernel
theorem dX12_named_48 : decode cX12_named 48 = .ok (.aload_n 0, 1) := by decide +kernel
theorem dX12_named_49 : decode cX12_named 49 = .ok (.getfield 25, 3) := by decide +kernel
theorem dX12_named_52 : decode cX12_named 52 = .ok (.iconst 0, 1) := by decide +kernel
theorem dX12_named_53 : decode cX12_named 53 = .ok (.aload_n 0, 1) := by decide +kernel
theorem dX12_named_54 : decode cX12_named 54 = .ok (.getfield 13, 3) := by decide +kernel
theorem dX12_named_57 : decode cX12_named 57 = .ok (.iconst 1, 1) := by decide +kernel
theorem dX12_named_58 : decode cX12_named 58 = .ok (.iaload, 1) := by decide +kernel
theorem dX12_named_59 : decode cX12_named 59 = .ok (.iload_n 2, 1) := by decide +kernel
theorem dX12_named_60 : decode cX12_named 60 = .ok (.invokestatic 220, 3) := by decide +kernel
theorem dX12_named_63 : decode cX12_named 63 = .ok (.ireturn, 1) := by decide +kernel
theorem dX12_named_64 : decode cX12_named 64 = .ok (.iconst (-1), 1) := by decide +kernel
theorem dX12_named_65 : decode cX12_named 65 = .ok (.ireturn, 1) := by decide +kernel
theorem dX12_is_0 : decode cX12_is 0 = .ok (.iload_n 0, 1) := by decide +kernel
theorem dX12_is_1 : decode cX12_is 1 = .ok (.ifCond .eq 7, 3) := by decide +kernel
theorem dX12_is_4 : decode cX12_is 4 = .ok (.lconst 1, 1) := by decide +kernel
theorem dX12_is_5 : decode cX12_is 5 = .ok (.goto 4, 3) := by decide +kernel
theorem dX12_is_8 : decode cX12_is 8 = .ok (.lconst 0, 1) := by decide +kernel
theorem dX12_is_9 : decode cX12_is 9 = .ok (.lreturn, 1) := by decide +kernel
theorem dX12_works_0 : decode cX12_works 0 = .ok (.aload_n 0, 1) := by decide +kernel
theorem dX12_works_1 : decode cX12_works 1 = .ok (.getfield 81, 3) := by decide +kernel
theorem dX12_works_4 : decode cX12_works 4 = .ok (.aload_n 0, 1) := by decide +kernel
theorem dX12_works_5 : decode cX12_works 5 = .ok (.getfield 320, 3) := by decide +kernel
theorem dX12_works_8 : decode cX12_works 8 = .ok (.iconst 1, 1) := by decide +kernel
theorem dX12_works_9 : decode cX12_works 9 = .ok (.isub, 1) := by decide +kernel
theorem dX12_works_10 : decode cX12_works 10 = .ok (.laload, 1) := by decide +kernel
theorem dX12_works_11 : decode cX12_works 11 = .ok (.lstore_n 2, 1) := by decide +kernel
theorem dX12_works_12 : decode cX12_works 12 = .ok (.iload_n 1, 1) := by decide +kernel
theorem dX12_works_13 : decode cX12_works 13 = .ok (.sipush 260, 3) := by decide +kernel
theorem dX12_works_16 : decode cX12_works 16 = .ok (.if_icmp .ne 30, 3) := by decide +kernel
theorem dX12_works_19 : decode cX12_works 19 = .ok (.aload_n 0, 1) := by decide +kernel
theorem dX12_works_20 : decode cX12_works 20 = .ok (.getfield 81, 3) := by decide +kernel
theorem dX12_works_23 : decode cX12_works 23 = .ok (.aload_n 0, 1) := by decide +kernel
theorem dX12_works_24 : decode cX12_works 24 = .ok (.getfield 320, 3) := by decide +kernel
theorem dX12_works_27 : decode cX12_works 27 = .ok (.iconst 1, 1) := by decide +kernel
theorem dX12_works_28 : decode cX12_works 28 = .ok (.isub, 1) := by decide +kernel
theorem dX12_works_29 : decode cX12_works 29 = .ok (.lload_n 2, 1) := by decide +kernel
theorem dX12_works_30 : decode cX12_works 30 = .ok (.lconst 0, 1) := by decide +kernel
theorem dX12_works_31 : decode cX12_works 31 = .ok (.lcmp, 1) := by decide +kernel
theorem dX12_works_32 : decode cX12_works 32 = .ok (.ifCond .ne 7, 3) := by decide +kernel
theorem dX12_works_35 : decode cX12_works 35 = .ok (.iconst 1, 1) := by decide +kernel
theorem dX12_works_36 : decode cX12_works 36 = .ok (.goto 4, 3) := by decide +kernel
theorem dX12_works_39 : decode cX12_works 39 = .ok (.iconst 0, 1) := by decide +kernel
theorem dX12_works_40 : decode cX12_works 40 = .ok (.invokestatic 323, 3) := by decide +kernel
theorem dX12_works_43 : decode cX12_works 43 = .ok (.lastore, 1) := by decide +kernel
theorem dX12_works_44 : decode cX12_works 44 = .ok (.iconst 1, 1) := by decide +kernel
theorem dX12_works_45 : decode cX12_works 45 = .ok (.ireturn, 1) := by decide +kernel
theorem dX12_works_46 : decode cX12_works 46 = .ok (.aload_n 0, 1) := by decide +kernel
theorem dX12_works_47 : decode cX12_works 47 = .ok (.getfield 81, 3) := by decide +kernel
theorem dX12_works_50 : decode cX12_works 50 = .ok (.aload_n 0, 1) := by decide +kernel
theorem dX12_works_51 : decode cX12_works 51 = .ok (.getfield 320, 3) := by decide +kernel
theorem dX12_works_54 : decode cX12_works 54 = .ok (.iconst 2, 1) := by decide +kernel
theorem dX12_works_55 : decode cX12_works 55 = .ok (.isub, 1) := by decide +kernel
theorem dX12_works_56 : decode cX12_works 56 = .ok (.laload, 1) := by decide +kernel
theorem dX12_works_57 : decode cX12_works 57 = .ok (.lstore 4, 2) := by decide +kernel
theorem dX12_works_59 : decode cX12_works 59 = .ok (.aload_n 0, 1) := by decide +kernel
theorem dX12_works_60 : decode cX12_works 60 = .ok (.dup, 1) := by decide +kernel
theorem dX12_works_61 : decode cX12_works 61 = .ok (.getfield 320, 3) := by decide +kernel
theorem dX12_works_64 : decode cX12_works 64 = .ok (.iconst 1, 1) := by decide +kernel
theorem dX12_works_65 : decode cX12_works 65 = .ok (.isub, 1) := by decide +kernel
theorem dX12_works_66 : decode cX12_works 66 = .ok (.putfield 320, 3) := by decide +kernel
theorem dX12_works_69 : decode cX12_works 69 = .ok (.iload_n 1, 1) := by decide +kernel
theorem dX12_works_70 : decode cX12_works 70 = .ok (.lookupswitch 314 #[(42, 116), (43, 98), (45, 107), (47, 151), (60, 168), (61, 208), (62, 188), (256, 228), (257, 268), (258, 248), (261, 288)], 98) := by decide +kernel
theorem dX12_works_168 : decode cX12_works 168 = .ok (.lload 4, 2) := by decide +kernel
theorem dX12_works_170 : decode cX12_works 170 = .ok (.lload_n 2, 1) := by decide +kernel
theorem dX12_works_171 : decode cX12_works 171 = .ok (.ladd, 1) := by decide +kernel
theorem dX12_works_172 : decode cX12_works 172 = .ok (.lstore 6, 2) := by decide +kernel
theorem dX12_works_174 : decode cX12_works 174 = .ok (.goto 233, 3) := by decide +kernel
theorem dX12_works_177 : decode cX12_works 177 = .ok (.lload 4, 2) := by decide +kernel
theorem dX12_works_179 : decode cX12_works 179 = .ok (.lload_n 2, 1) := by decide +kernel
theorem dX12_works_180 : decode cX12_works 180 = .ok (.lsub, 1) := by decide +kernel
theorem dX12_works_181 : decode cX12_works 181 = .ok (.lstore 6, 2) := by decide +kernel
theorem dX12_works_183 : decode cX12_works 183 = .ok (.goto 224, 3) := by decide +kernel
theorem dX12_works_186 : decode cX12_works 186 = .ok (.lload 4, 2) := by decide +kernel
theorem dX12_works_188 : decode cX12_works 188 = .ok (.lconst 0, 1) := by decide +kernel
theorem dX12_works_189 : decode cX12_works 189 = .ok (.lcmp, 1) := by decide +kernel
theorem dX12_works_190 : decode cX12_works 190 = .ok (.ifCond .eq 22, 3) := by decide +kernel
theorem dX12_works_193 : decode cX12_works 193 = .ok (.lload_n 2, 1) := by decide +kernel
theorem dX12_works_194 : decode cX12_works 194 = .ok (.invokestatic 327, 3) := by decide +kernel
theorem dX12_works_197 : decode cX12_works 197 = .ok (.ldc2_w 333, 3) := by decide +kernel
theorem dX12_works_200 : decode cX12_works 200 = .ok (.lload 4, 2) := by decide +kernel
theorem dX12_works_202 : decode cX12_works 202 = .ok (.invokestatic 327, 3) := by decide +kernel
theorem dX12_works_205 : decode cX12_works 205 = .ok (.ldiv, 1) := by decide +kernel
theorem dX12_works_206 : decode cX12_works 206 = .ok (.lcmp, 1) := by decide +kernel
theorem dX12_works_207 : decode cX12_works 207 = .ok (.ifCond .le 5, 3) := by decide +kernel
theorem dX12_works_210 : decode cX12_works 210 = .ok (.iconst 0, 1) := by decide +kernel
theorem dX12_works_211 : decode cX12_works 211 = .ok (.ireturn, 1) := by decide +kernel
theorem dX12_works_212 : decode cX12_works 212 = .ok (.lload 4, 2) := by decide +kernel
theorem dX12_works_214 : decode cX12_works 214 = .ok (.lload_n 2, 1) := by decide +kernel
theorem dX12_works_215 : decode cX12_works 215 = .ok (.lmul, 1) := by decide +kernel
theorem dX12_works_216 : decode cX12_works 216 = .ok (.lstore 6, 2) := by decide +kernel
theorem dX12_works_218 : decode cX12_works 218 = .ok (.goto 189, 3) := by decide +kernel
theorem dX12_works_221 : decode cX12_works 221 = .ok (.lload_n 2, 1) := by decide +kernel
theorem dX12_works_222 : decode cX12_works 222 = .ok (.lconst 0, 1) := by decide +kernel
theorem dX12_works_223 : decode cX12_works 223 = .ok (.lcmp, 1) := by decide +kernel
theorem dX12_works_224 : decode cX12_works 224 = .ok (.ifCond .ne 5, 3) := by decide +kernel
theorem dX12_works_227 : decode cX12_works 227 = .ok (.iconst 0, 1) := by decide +kernel
theorem dX12_works_228 : decode cX12_works 228 = .ok (.ireturn, 1) := by decide +kernel
theorem dX12_works_229 : decode cX12_works 229 = .ok (.lload 4, 2) := by decide +kernel
theorem dX12_works_231 : decode cX12_works 231 = .ok (.lload_n 2, 1) := by decide +kernel
theorem dX12_works_232 : decode cX12_works 232 = .ok (.ldiv, 1) := by decide +kernel
theorem dX12_works_233 : decode cX12_works 233 = .ok (.lstore 6, 2) := by decide +kernel
theorem dX12_works_235 : decode cX12_works 235 = .ok (.goto 172, 3) := by decide +kernel
theorem dX12_works_238 : decode cX12_works 238 = .ok (.lload 4, 2) := by decide +kernel
theorem dX12_works_240 : decode cX12_works 240 = .ok (.lload_n 2, 1) := by decide +kernel
theorem dX12_works_241 : decode cX12_works 241 = .ok (.lcmp, 1) := by decide +kernel
theorem dX12_works_242 : decode cX12_works 242 = .ok (.ifCond .ge 7, 3) := by decide +kernel
theorem dX12_works_245 : decode cX12_works 245 = .ok (.iconst 1, 1) := by decide +kernel
theorem dX12_works_246 : decode cX12_works 246 = .ok (.goto 4, 3) := by decide +kernel
theorem dX12_works_249 : decode cX12_works 249 = .ok (.iconst 0, 1) := by decide +kernel
theorem dX12_works_250 : decode cX12_works 250 = .ok (.invokestatic 323, 3) := by decide +kernel
theorem dX12_works_253 : decode cX12_works 253 = .ok (.lstore 6, 2) := by decide +kernel
theorem dX12_works_255 : decode cX12_works 255 = .ok (.goto 152, 3) := by decide +kernel
theorem dX12_works_258 : decode cX12_works 258 = .ok (.lload 4, 2) := by decide +kernel
theorem dX12_works_260 : decode cX12_works 260 = .ok (.lload_n 2, 1) := by decide +kernel
theorem dX12_works_261 : decode cX12_works 261 = .ok (.lcmp, 1) := by decide +kernel
theorem dX12_works_262 : decode cX12_works 262 = .ok (.ifCond .le 7, 3) := by decide +kernel
theorem dX12_works_265 : decode cX12_works 265 = .ok (.iconst 1, 1) := by decide +kernel
theorem dX12_works_266 : decode cX12_works 266 = .ok (.goto 4, 3) := by decide +kernel
theorem dX12_works_269 : decode cX12_works 269 = .ok (.iconst 0, 1) := by decide +kernel
theorem dX12_works_270 : decode cX12_works 270 = .ok (.invokestatic 323, 3) := by decide +kernel
theorem dX12_works_273 : decode cX12_works 273 = .ok (.lstore 6, 2) := by decide +kernel
theorem dX12_works_275 : decode cX12_works 275 = .ok (.goto 132, 3) := by decide +kernel
theorem dX12_works_278 : decode cX12_works 278 = .ok (.lload 4, 2) := by decide +kernel
theorem dX12_works_280 : decode cX12_works 280 = .ok (.lload_n 2, 1) := by decide +kernel
theorem dX12_works_281 : decode cX12_works 281 = .ok (.lcmp, 1) := by decide +kernel
theorem dX12_works_282 : decode cX12_works 282 = .ok (.ifCond .ne 7, 3) := by decide +kernel
theorem dX12_works_285 : decode cX12_works 285 = .ok (.iconst 1, 1) := by decide +kernel
theorem dX12_works_286 : decode cX12_works 286 = .ok (.goto 4, 3) := by decide +kernel
theorem dX12_works_289 : decode cX12_works 289 = .ok (.iconst 0, 1) := by decide +kernel
theorem dX12_works_290 : decode cX12_works 290 = .ok (.invokestatic 323, 3) := by decide +kernel
theorem dX12_works_293 : decode cX12_works 293 = .ok (.lstore 6, 2) := by decide +kernel
theorem dX12_works_295 : decode cX12_works 295 = .ok (.goto 112, 3) := by decide +kernel
theorem dX12_works_298 : decode cX12_works 298 = .ok (.lload 4, 2) := by decide +kernel
theorem dX12_works_300 : decode cX12_works 300 = .ok (.lload_n 2, 1) := by decide +kernel
theorem dX12_works_301 : decode cX12_works 301 = .ok (.lcmp, 1) := by decide +kernel
theorem dX12_works_302 : decode cX12_works 302 = .ok (.ifCond .gt 7, 3) := by decide +kernel
theorem dX12_works_305 : decode cX12_works 305 = .ok (.iconst 1, 1) := by decide +kernel
theorem dX12_works_306 : decode cX12_works 306 = .ok (.goto 4, 3) := by decide +kernel
theorem dX12_works_309 : decode cX12_works 309 = .ok (.iconst 0, 1) := by decide +kernel
theorem dX12_works_310 : decode cX12_works 310 = .ok (.invokestatic 323, 3) := by decide +kernel
theorem dX12_works_313 : decode cX12_works 313 = .ok (.lstore 6, 2) := by decide +kernel
theorem dX12_works_315 : decode cX12_works 315 = .ok (.goto 92, 3) := by decide +kernel
theorem dX12_works_318 : decode cX12_works 318 = .ok (.lload 4, 2) := by decide +kernel
theorem dX12_works_320 : decode cX12_works 320 = .ok (.lload_n 2, 1) := by decide +kernel
theorem dX12_works_321 : decode cX12_works 321 = .ok (.lcmp, 1) := by decide +kernel
theorem dX12_works_322 : decode cX12_works 322 = .ok (.ifCond .lt 7, 3) := by decide +kernel
theorem dX12_works_325 : decode cX12_works 325 = .ok (.iconst 1, 1) := by decide +kernel
theorem dX12_works_326 : decode cX12_works 326 = .ok (.goto 4, 3) := by decide +kernel
theorem dX12_works_329 : decode cX12_works 329 = .ok (.iconst 0, 1) := by decide +kernel
theorem dX12_works_330 : decode cX12_works 330 = .ok (.invokestatic 323, 3) := by decide +kernel
theorem dX12_works_333 : decode cX12_works 333 = .ok (.lstore 6, 2) := by decide +kernel
theorem dX12_works_335 : decode cX12_works 335 = .ok (.goto 72, 3) := by decide +kernel
theorem dX12_works_338 : decode cX12_works 338 = .ok (.lload 4, 2) := by decide +kernel
theorem dX12_works_340 : decode cX12_works 340 = .ok (.lload_n 2, 1) := by decide +kernel
theorem dX12_works_341 : decode cX12_works 341 = .ok (.lcmp, 1) := by decide +kernel
theorem dX12_works_342 : decode cX12_works 342 = .ok (.ifCond .eq 7, 3) := by decide +kernel
theorem dX12_works_345 : decode cX12_works 345 = .ok (.iconst 1, 1) := by decide +kernel
theorem dX12_works_346 : decode cX12_works 346 = .ok (.goto 4, 3) := by decide +kernel
theorem dX12_works_349 : decode cX12_works 349 = .ok (.iconst 0, 1) := by decide +kernel
theorem dX12_works_350 : decode cX12_works 350 = .ok (.invokestatic 323, 3) := by decide +kernel
theorem dX12_works_353 : decode cX12_works 353 = .ok (.lstore 6, 2) := by decide +kernel
theorem dX12_works_355 : decode cX12_works 355 = .ok (.goto 52, 3) := by decide +kernel
theorem dX12_works_358 : decode cX12_works 358 = .ok (.lload 4, 2) := by decide +kernel
theorem dX12_works_360 : decode cX12_works 360 = .ok (.lconst 0, 1) := by decide +kernel
theorem dX12_works_361 : decode cX12_works 361 = .ok (.lcmp, 1) := by decide +kernel
theorem dX12_works_362 : decode cX12_works 362 = .ok (.ifCond .eq 13, 3) := by decide +kernel
theorem dX12_works_365 : decode cX12_works 365 = .ok (.lload_n 2, 1) := by decide +kernel
theorem dX12_works_366 : decode cX12_works 366 = .ok (.lconst 0, 1) := by decide +kernel
theorem dX12_works_367 : decode cX12_works 367 = .ok (.lcmp, 1) := by decide +kernel
theorem dX12_works_368 : decode cX12_works 368 = .ok (.ifCond .eq 7, 3) := by decide +kernel
theorem dX12_works_371 : decode cX12_works 371 = .ok (.iconst 1, 1) := by decide +kernel
theorem dX12_works_372 : decode cX12_works 372 = .ok (.goto 4, 3) := by decide +kernel
theorem dX12_works_375 : decode cX12_works 375 = .ok (.iconst 0, 1) := by decide +kernel
theorem dX12_works_376 : decode cX12_works 376 = .ok (.invokestatic 323, 3) := by decide +kernel
theorem dX12_works_379 : decode cX12_works 379 = .ok (.lstore 6, 2) := by decide +kernel
theorem dX12_works_381 : decode cX12_works 381 = .ok (.goto 26, 3) := by decide +kernel
theorem dX12_works_384 : decode cX12_works 384 = .ok (.lload 4, 2) := by decide +kernel
theorem dX12_works_386 : decode cX12_works 386 = .ok (.lconst 0, 1) := by decide +kernel
theorem dX12_works_387 : decode cX12_works 387 = .ok (.lcmp, 1) := by decide +kernel
theorem dX12_works_388 : decode cX12_works 388 = .ok (.ifCond .ne 9, 3) := by decide +kernel
theorem dX12_works_391 : decode cX12_works 391 = .ok (.lload_n 2, 1) := by decide +kernel
theorem dX12_works_392 : decode cX12_works 392 = .ok (.lconst 0, 1) := by decide +kernel
theorem dX12_works_393 : decode cX12_works 393 = .ok (.lcmp, 1) := by decide +kernel
theorem dX12_works_394 : decode cX12_works 394 = .ok (.ifCond .eq 7, 3) := by decide +kernel
theorem dX12_works_397 : decode cX12_works 397 = .ok (.iconst 1, 1) := by decide +kernel
theorem dX12_works_398 : decode cX12_works 398 = .ok (.goto 4, 3) := by decide +kernel
theorem dX12_works_401 : decode cX12_works 401 = .ok (.iconst 0, 1) := by decide +kernel
theorem dX12_works_402 : decode cX12_works 402 = .ok (.invokestatic 323, 3) := by decide +kernel
theorem dX12_works_405 : decode cX12_works 405 = .ok (.lstore 6, 2) := by decide +kernel
theorem dX12_works_407 : decode cX12_works 407 = .ok (.aload_n 0, 1) := by decide +kernel
theorem dX12_works_408 : decode cX12_works 408 = .ok (.getfield 81, 3) := by decide +kernel
theorem dX12_works_411 : decode cX12_works 411 = .ok (.aload_n 0, 1) := by decide +kernel
theorem dX12_works_412 : decode cX12_works 412 = .ok (.getfield 320, 3) := by decide +kernel
theorem dX12_works_415 : decode cX12_works 415 = .ok (.iconst 1, 1) := by decide +kernel
theorem dX12_works_416 : decode cX12_works 416 = .ok (.isub, 1) := by decide +kernel
theorem dX12_works_417 : decode cX12_works 417 = .ok (.lload 6, 2) := by decide +kernel
theorem dX12_works_419 : decode cX12_works 419 = .ok (.lastore, 1) := by decide +kernel
theorem dX12_works_420 : decode cX12_works 420 = .ok (.lload 6, 2) := by decide +kernel
theorem dX12_works_422 : decode cX12_works 422 = .ok (.ldc2_w 333, 3) := by decide +kernel
theorem dX12_works_425 : decode cX12_works 425 = .ok (.lcmp, 1) := by decide +kernel
theorem dX12_works_426 : decode cX12_works 426 = .ok (.ifCond .gt 16, 3) := by decide +kernel
theorem dX12_works_429 : decode cX12_works 429 = .ok (.lload 6, 2) := by decide +kernel
theorem dX12_works_431 : decode cX12_works 431 = .ok (.ldc2_w 335, 3) := by decide +kernel
theorem dX12_works_434 : decode cX12_works 434 = .ok (.lcmp, 1) := by decide +kernel
theorem dX12_works_435 : decode cX12_works 435 = .ok (.ifCond .lt 7, 3) := by decide +kernel
theorem dX12_works_438 : decode cX12_works 438 = .ok (.iconst 1, 1) := by decide +kernel
theorem dX12_works_439 : decode cX12_works 439 = .ok (.goto 4, 3) := by decide +kernel
theorem dX12_works_442 : decode cX12_works 442 = .ok (.iconst 0, 1) := by decide +kernel
theorem dX12_works_443 : decode cX12_works 443 = .ok (.ireturn, 1) := by decide +kernel
theorem dX12_goes_0 : decode cX12_goes 0 = .ok (.aload_n 0, 1) := by decide +kernel
theorem dX12_goes_1 : decode cX12_goes 1 = .ok (.iconst 0, 1) := by decide +kernel
theorem dX12_goes_2 : decode cX12_goes 2 = .ok (.putfield 320, 3) := by decide +kernel
theorem dX12_goes_5 : decode cX12_goes 5 = .ok (.aload_n 0, 1) := by decide +kernel
theorem dX12_goes_6 : decode cX12_goes 6 = .ok (.getfield 61, 3) := by decide +kernel
theorem dX12_goes_9 : decode cX12_goes 9 = .ok (.iload_n 1, 1) := by decide +kernel
theorem dX12_goes_10 : decode cX12_goes 10 = .ok (.iaload, 1) := by decide +kernel
theorem dX12_goes_11 : decode cX12_goes 11 = .ok (.istore_n 2, 1) := by decide +kernel
theorem dX12_goes_12 : decode cX12_goes 12 = .ok (.iload_n 2, 1) := by decide +kernel
theorem dX12_goes_13 : decode cX12_goes 13 = .ok (.aload_n 0, 1) := by decide +kernel
theorem dX12_goes_14 : decode cX12_goes 14 = .ok (.getfield 64, 3) := by decide +kernel
theorem dX12_goes_17 : decode cX12_goes 17 = .ok (.iload_n 1, 1) := by decide +kernel
theorem dX12_goes_18 : decode cX12_goes 18 = .ok (.iaload, 1) := by decide +kernel
theorem dX12_goes_19 : decode cX12_goes 19 = .ok (.if_icmp .ge 83, 3) := by decide +kernel
theorem dX12_goes_22 : decode cX12_goes 22 = .ok (.aload_n 0, 1) := by decide +kernel
theorem dX12_goes_23 : decode cX12_goes 23 = .ok (.getfield 67, 3) := by decide +kernel
theorem dX12_goes_26 : decode cX12_goes 26 = .ok (.iload_n 2, 1) := by decide +kernel
theorem dX12_goes_27 : decode cX12_goes 27 = .ok (.iaload, 1) := by decide +kernel
theorem dX12_goes_28 : decode cX12_goes 28 = .ok (.iconst 2, 1) := by decide +kernel
theorem dX12_goes_29 : decode cX12_goes 29 = .ok (.if_icmp .ne 18, 3) := by decide +kernel
theorem dX12_goes_32 : decode cX12_goes 32 = .ok (.aload_n 0, 1) := by decide +kernel
theorem dX12_goes_33 : decode cX12_goes 33 = .ok (.aload_n 0, 1) := by decide +kernel
theorem dX12_goes_34 : decode cX12_goes 34 = .ok (.getfield 70, 3) := by decide +kernel
theorem dX12_goes_37 : decode cX12_goes 37 = .ok (.iload_n 2, 1) := by decide +kernel
theorem dX12_goes_38 : decode cX12_goes 38 = .ok (.iaload, 1) := by decide +kernel
theorem dX12_goes_39 : decode cX12_goes 39 = .ok (.invokevirtual 337, 3) := by decide +kernel
theorem dX12_goes_42 : decode cX12_goes 42 = .ok (.ifCond .ne 54, 3) := by decide +kernel
theorem dX12_goes_45 : decode cX12_goes 45 = .ok (.iconst 0, 1) := by decide +kernel
theorem dX12_goes_46 : decode cX12_goes 46 = .ok (.ireturn, 1) := by decide +kernel
theorem dX12_goes_47 : decode cX12_goes 47 = .ok (.aload_n 0, 1) := by decide +kernel
theorem dX12_goes_48 : decode cX12_goes 48 = .ok (.getfield 81, 3) := by decide +kernel
theorem dX12_goes_51 : decode cX12_goes 51 = .ok (.aload_n 0, 1) := by decide +kernel
theorem dX12_goes_52 : decode cX12_goes 52 = .ok (.getfield 320, 3) := by decide +kernel
theorem dX12_goes_55 : decode cX12_goes 55 = .ok (.aload_n 0, 1) := by decide +kernel
theorem dX12_goes_56 : decode cX12_goes 56 = .ok (.getfield 67, 3) := by decide +kernel
theorem dX12_goes_59 : decode cX12_goes 59 = .ok (.iload_n 2, 1) := by decide +kernel
theorem dX12_goes_60 : decode cX12_goes 60 = .ok (.iaload, 1) := by decide +kernel
theorem dX12_goes_61 : decode cX12_goes 61 = .ok (.ifCond .ne 13, 3) := by decide +kernel
theorem dX12_goes_64 : decode cX12_goes 64 = .ok (.aload_n 0, 1) := by decide +kernel
theorem dX12_goes_65 : decode cX12_goes 65 = .ok (.getfield 70, 3) := by decide +kernel
theorem dX12_goes_68 : decode cX12_goes 68 = .ok (.iload_n 2, 1) := by decide +kernel
theorem dX12_goes_69 : decode cX12_goes 69 = .ok (.iaload, 1) := by decide +kernel
theorem dX12_goes_70 : decode cX12_goes 70 = .ok (.i2l, 1) := by decide +kernel
theorem dX12_goes_71 : decode cX12_goes 71 = .ok (.goto 14, 3) := by decide +kernel
theorem dX12_goes_74 : decode cX12_goes 74 = .ok (.aload_n 0, 1) := by decide +kernel
theorem dX12_goes_75 : decode cX12_goes 75 = .ok (.getfield 77, 3) := by decide +kernel
theorem dX12_goes_78 : decode cX12_goes 78 = .ok (.aload_n 0, 1) := by decide +kernel
theorem dX12_goes_79 : decode cX12_goes 79 = .ok (.getfield 70, 3) := by decide +kernel
theorem dX12_goes_82 : decode cX12_goes 82 = .ok (.iload_n 2, 1) := by decide +kernel
theorem dX12_goes_83 : decode cX12_goes 83 = .ok (.iaload, 1) := by decide +kernel
theorem dX12_goes_84 : decode cX12_goes 84 = .ok (.laload, 1) := by decide +kernel
theorem dX12_goes_85 : decode cX12_goes 85 = .ok (.lastore, 1) := by decide +kernel
theorem dX12_goes_86 : decode cX12_goes 86 = .ok (.aload_n 0, 1) := by decide +kernel
theorem dX12_goes_87 : decode cX12_goes 87 = .ok (.dup, 1) := by decide +kernel
theorem dX12_goes_88 : decode cX12_goes 88 = .ok (.getfield 320, 3) := by decide +kernel
theorem dX12_goes_91 : decode cX12_goes 91 = .ok (.iconst 1, 1) := by decide +kernel
theorem dX12_goes_92 : decode cX12_goes 92 = .ok (.iadd, 1) := by decide +kernel
theorem dX12_goes_93 : decode cX12_goes 93 = .ok (.putfield 320, 3) := by decide +kernel
theorem dX12_goes_96 : decode cX12_goes 96 = .ok (.iinc 2 1, 3) := by decide +kernel
theorem dX12_goes_99 : decode cX12_goes 99 = .ok (.goto (-87), 3) := by decide +kernel
theorem dX12_goes_102 : decode cX12_goes 102 = .ok (.iconst 1, 1) := by decide +kernel
theorem dX12_goes_103 : decode cX12_goes 103 = .ok (.ireturn, 1) := by decide +kernel
theorem dX12_hasLaw_0 : decode cX12_hasLaw 0 = .ok (.aload_n 0, 1) := by decide +kernel
theorem dX12_hasLaw_1 : decode cX12_hasLaw 1 = .ok (.getfield 64, 3) := by decide +kernel
theorem dX12_hasLaw_4 : decode cX12_hasLaw 4 = .ok (.iload_n 1, 1) := by decide +kernel
theorem dX12_hasLaw_5 : decode cX12_hasLaw 5 = .ok (.iaload, 1) := by decide +kernel
theorem dX12_hasLaw_6 : decode cX12_hasLaw 6 = .ok (.aload_n 0, 1) := by decide +kernel
theorem dX12_hasLaw_7 : decode cX12_hasLaw 7 = .ok (.getfield 61, 3) := by decide +kernel
theorem dX12_hasLaw_10 : decode cX12_hasLaw 10 = .ok (.iload_n 1, 1) := by decide +kernel
theorem dX12_hasLaw_11 : decode cX12_hasLaw 11 = .ok (.iaload, 1) := by decide +kernel
theorem dX12_hasLaw_12 : decode cX12_hasLaw 12 = .ok (.if_icmp .le 7, 3) := by decide +kernel
theorem dX12_hasLaw_15 : decode cX12_hasLaw 15 = .ok (.iconst 1, 1) := by decide +kernel
theorem dX12_hasLaw_16 : decode cX12_hasLaw 16 = .ok (.goto 4, 3) := by decide +kernel
theorem dX12_hasLaw_19 : decode cX12_hasLaw 19 = .ok (.iconst 0, 1) := by decide +kernel
theorem dX12_hasLaw_20 : decode cX12_hasLaw 20 = .ok (.ireturn, 1) := by decide +kernel
theorem dX12_starts_0 : decode cX12_starts 0 = .ok (.aload_n 0, 1) := by decide +kernel
theorem dX12_starts_1 : decode cX12_starts 1 = .ok (.getfield 84, 3) := by decide +kernel
theorem dX12_starts_4 : decode cX12_starts 4 = .ok (.iload_n 1, 1) := by decide +kernel
theorem dX12_starts_5 : decode cX12_starts 5 = .ok (.iconst 0, 1) := by decide +kernel
theorem dX12_starts_6 : decode cX12_starts 6 = .ok (.iastore, 1) := by decide +kernel
theorem dX12_starts_7 : decode cX12_starts 7 = .ok (.aload_n 0, 1) := by decide +kernel
theorem dX12_starts_8 : decode cX12_starts 8 = .ok (.getfield 87, 3) := by decide +kernel
theorem dX12_starts_11 : decode cX12_starts 11 = .ok (.iload_n 1, 1) := by decide +kernel
theorem dX12_starts_12 : decode cX12_starts 12 = .ok (.aload_n 0, 1) := by decide +kernel
theorem dX12_starts_13 : decode cX12_starts 13 = .ok (.getfield 13, 3) := by decide +kernel
theorem dX12_starts_16 : decode cX12_starts 16 = .ok (.bipush 6, 2) := by decide +kernel
theorem dX12_starts_18 : decode cX12_starts 18 = .ok (.iaload, 1) := by decide +kernel
theorem dX12_starts_19 : decode cX12_starts 19 = .ok (.iastore, 1) := by decide +kernel
theorem dX12_starts_20 : decode cX12_starts 20 = .ok (.aload_n 0, 1) := by decide +kernel
theorem dX12_starts_21 : decode cX12_starts 21 = .ok (.getfield 90, 3) := by decide +kernel
theorem dX12_starts_24 : decode cX12_starts 24 = .ok (.iload_n 1, 1) := by decide +kernel
theorem dX12_starts_25 : decode cX12_starts 25 = .ok (.iconst 0, 1) := by decide +kernel
theorem dX12_starts_26 : decode cX12_starts 26 = .ok (.iastore, 1) := by decide +kernel
theorem dX12_starts_27 : decode cX12_starts 27 = .ok (.iconst 0, 1) := by decide +kernel
theorem dX12_starts_28 : decode cX12_starts 28 = .ok (.istore_n 2, 1) := by decide +kernel
theorem dX12_starts_29 : decode cX12_starts 29 = .ok (.iload_n 2, 1) := by decide +kernel
theorem dX12_starts_30 : decode cX12_starts 30 = .ok (.bipush 6, 2) := by decide +kernel
theorem dX12_starts_32 : decode cX12_starts 32 = .ok (.if_icmp .ge 132, 3) := by decide +kernel
theorem dX12_starts_35 : decode cX12_starts 35 = .ok (.bipush 6, 2) := by decide +kernel
theorem dX12_starts_37 : decode cX12_starts 37 = .ok (.iload_n 1, 1) := by decide +kernel
theorem dX12_starts_38 : decode cX12_starts 38 = .ok (.imul, 1) := by decide +kernel
theorem dX12_starts_39 : decode cX12_starts 39 = .ok (.iload_n 2, 1) := by decide +kernel
theorem dX12_starts_40 : decode cX12_starts 40 = .ok (.iadd, 1) := by decide +kernel
theorem dX12_starts_41 : decode cX12_starts 41 = .ok (.istore_n 3, 1) := by decide +kernel
theorem dX12_starts_42 : decode cX12_starts 42 = .ok (.aload_n 0, 1) := by decide +kernel
theorem dX12_starts_43 : decode cX12_starts 43 = .ok (.getfield 93, 3) := by decide +kernel
theorem dX12_starts_46 : decode cX12_starts 46 = .ok (.iload_n 3, 1) := by decide +kernel
theorem dX12_starts_47 : decode cX12_starts 47 = .ok (.iload_n 2, 1) := by decide +kernel
theorem dX12_starts_48 : decode cX12_starts 48 = .ok (.aload_n 0, 1) := by decide +kernel
theorem dX12_starts_49 : decode cX12_starts 49 = .ok (.getfield 13, 3) := by decide +kernel
theorem dX12_starts_52 : decode cX12_starts 52 = .ok (.iconst 1, 1) := by decide +kernel
theorem dX12_starts_53 : decode cX12_starts 53 = .ok (.iaload, 1) := by decide +kernel
theorem dX12_starts_54 : decode cX12_starts 54 = .ok (.if_icmp .ge 12, 3) := by decide +kernel
theorem dX12_starts_57 : decode cX12_starts 57 = .ok (.aload_n 0, 1) := by decide +kernel
theorem dX12_starts_58 : decode cX12_starts 58 = .ok (.getfield 28, 3) := by decide +kernel
theorem dX12_starts_61 : decode cX12_starts 61 = .ok (.iload_n 2, 1) := by decide +kernel
theorem dX12_starts_62 : decode cX12_starts 62 = .ok (.iaload, 1) := by decide +kernel
theorem dX12_starts_63 : decode cX12_starts 63 = .ok (.goto 4, 3) := by decide +kernel
theorem dX12_starts_66 : decode cX12_starts 66 = .ok (.iconst 0, 1) := by decide +kernel
theorem dX12_starts_67 : decode cX12_starts 67 = .ok (.iastore, 1) := by decide +kernel
theorem dX12_starts_68 : decode cX12_starts 68 = .ok (.aload_n 0, 1) := by decide +kernel
theorem dX12_starts_69 : decode cX12_starts 69 = .ok (.getfield 96, 3) := by decide +kernel
theorem dX12_starts_72 : decode cX12_starts 72 = .ok (.iload_n 3, 1) := by decide +kernel
theorem dX12_starts_73 : decode cX12_starts 73 = .ok (.iload_n 2, 1) := by decide +kernel
theorem dX12_starts_74 : decode cX12_starts 74 = .ok (.aload_n 0, 1) := by decide +kernel
theorem dX12_starts_75 : decode cX12_starts 75 = .ok (.getfield 13, 3) := by decide +kernel
theorem dX12_starts_78 : decode cX12_starts 78 = .ok (.iconst 1, 1) := by decide +kernel
theorem dX12_starts_79 : decode cX12_starts 79 = .ok (.iaload, 1) := by decide +kernel
theorem dX12_starts_80 : decode cX12_starts 80 = .ok (.if_icmp .ge 15, 3) := by decide +kernel
theorem dX12_starts_83 : decode cX12_starts 83 = .ok (.bipush 10, 2) := by decide +kernel
theorem dX12_starts_85 : decode cX12_starts 85 = .ok (.aload_n 0, 1) := by decide +kernel
theorem dX12_starts_86 : decode cX12_starts 86 = .ok (.getfield 31, 3) := by decide +kernel
theorem dX12_starts_89 : decode cX12_starts 89 = .ok (.iload_n 2, 1) := by decide +kernel
theorem dX12_starts_90 : decode cX12_starts 90 = .ok (.iaload, 1) := by decide +kernel
theorem dX12_starts_91 : decode cX12_starts 91 = .ok (.imul, 1) := by decide +kernel
theorem dX12_starts_92 : decode cX12_starts 92 = .ok (.goto 4, 3) := by decide +kernel
theorem dX12_starts_95 : decode cX12_starts 95 = .ok (.iconst 0, 1) := by decide +kernel
theorem dX12_starts_96 : decode cX12_starts 96 = .ok (.iastore, 1) := by decide +kernel
theorem dX12_starts_97 : decode cX12_starts 97 = .ok (.aload_n 0, 1) := by decide +kernel
theorem dX12_starts_98 : decode cX12_starts 98 = .ok (.getfield 99, 3) := by decide +kernel
theorem dX12_starts_101 : decode cX12_starts 101 = .ok (.iload_n 3, 1) := by decide +kernel
theorem dX12_starts_102 : decode cX12_starts 102 = .ok (.iload_n 2, 1) := by decide +kernel
theorem dX12_starts_103 : decode cX12_starts 103 = .ok (.aload_n 0, 1) := by decide +kernel
theorem dX12_starts_104 : decode cX12_starts 104 = .ok (.getfield 13, 3) := by decide +kernel
theorem dX12_starts_107 : decode cX12_starts 107 = .ok (.iconst 0, 1) := by decide +kernel
theorem dX12_starts_108 : decode cX12_starts 108 = .ok (.iaload, 1) := by decide +kernel
theorem dX12_starts_109 : decode cX12_starts 109 = .ok (.if_icmp .ge 12, 3) := by decide +kernel
theorem dX12_starts_112 : decode cX12_starts 112 = .ok (.aload_n 0, 1) := by decide +kernel
theorem dX12_starts_113 : decode cX12_starts 113 = .ok (.getfield 19, 3) := by decide +kernel
theorem dX12_starts_116 : decode cX12_starts 116 = .ok (.iload_n 2, 1) := by decide +kernel
theorem dX12_starts_117 : decode cX12_starts 117 = .ok (.iaload, 1) := by decide +kernel
theorem dX12_starts_118 : decode cX12_starts 118 = .ok (.goto 4, 3) := by decide +kernel
theorem dX12_starts_121 : decode cX12_starts 121 = .ok (.iconst 0, 1) := by decide +kernel
theorem dX12_starts_122 : decode cX12_starts 122 = .ok (.iastore, 1) := by decide +kernel
theorem dX12_starts_123 : decode cX12_starts 123 = .ok (.aload_n 0, 1) := by decide +kernel
theorem dX12_starts_124 : decode cX12_starts 124 = .ok (.getfield 102, 3) := by decide +kernel
theorem dX12_starts_127 : decode cX12_starts 127 = .ok (.iload_n 3, 1) := by decide +kernel
theorem dX12_starts_128 : decode cX12_starts 128 = .ok (.iconst (-1), 1) := by decide +kernel
theorem dX12_starts_129 : decode cX12_starts 129 = .ok (.iastore, 1) := by decide +kernel
theorem dX12_starts_130 : decode cX12_starts 130 = .ok (.aload_n 0, 1) := by decide +kernel
theorem dX12_starts_131 : decode cX12_starts 131 = .ok (.getfield 105, 3) := by decide +kernel
theorem dX12_starts_134 : decode cX12_starts 134 = .ok (.iload_n 3, 1) := by decide +kernel
theorem dX12_starts_135 : decode cX12_starts 135 = .ok (.iconst 0, 1) := by decide +kernel
theorem dX12_starts_136 : decode cX12_starts 136 = .ok (.iastore, 1) := by decide +kernel
theorem dX12_starts_137 : decode cX12_starts 137 = .ok (.aload_n 0, 1) := by decide +kernel
theorem dX12_starts_138 : decode cX12_starts 138 = .ok (.getfield 108, 3) := by decide +kernel
theorem dX12_starts_141 : decode cX12_starts 141 = .ok (.iload_n 3, 1) := by decide +kernel
theorem dX12_starts_142 : decode cX12_starts 142 = .ok (.iconst 0, 1) := by decide +kernel
theorem dX12_starts_143 : decode cX12_starts 143 = .ok (.iastore, 1) := by decide +kernel
theorem dX12_starts_144 : decode cX12_starts 144 = .ok (.aload_n 0, 1) := by decide +kernel
theorem dX12_starts_145 : decode cX12_starts 145 = .ok (.getfield 111, 3) := by decide +kernel
theorem dX12_starts_148 : decode cX12_starts 148 = .ok (.iload_n 3, 1) := by decide +kernel
theorem dX12_starts_149 : decode cX12_starts 149 = .ok (.iconst 0, 1) := by decide +kernel
theorem dX12_starts_150 : decode cX12_starts 150 = .ok (.iastore, 1) := by decide +kernel
theorem dX12_starts_151 : decode cX12_starts 151 = .ok (.aload_n 0, 1) := by decide +kernel
theorem dX12_starts_152 : decode cX12_starts 152 = .ok (.getfield 114, 3) := by decide +kernel
theorem dX12_starts_155 : decode cX12_starts 155 = .ok (.iload_n 3, 1) := by decide +kernel
theorem dX12_starts_156 : decode cX12_starts 156 = .ok (.iconst 0, 1) := by decide +kernel
theorem dX12_starts_157 : decode cX12_starts 157 = .ok (.iastore, 1) := by decide +kernel
theorem dX12_starts_158 : decode cX12_starts 158 = .ok (.iinc 2 1, 3) := by decide +kernel
theorem dX12_starts_161 : decode cX12_starts 161 = .ok (.goto (-132), 3) := by decide +kernel
theorem dX12_starts_164 : decode cX12_starts 164 = .ok (.return_, 1) := by decide +kernel
theorem dX12_begins_0 : decode cX12_begins 0 = .ok (.aload_n 0, 1) := by decide +kernel
theorem dX12_begins_1 : decode cX12_begins 1 = .ok (.iconst 0, 1) := by decide +kernel
theorem dX12_begins_2 : decode cX12_begins 2 = .ok (.invokevirtual 340, 3) := by decide +kernel
theorem dX12_begins_5 : decode cX12_begins 5 = .ok (.return_, 1) := by decide +kernel
theorem dX12_copies_0 : decode cX12_copies 0 = .ok (.aload_n 0, 1) := by decide +kernel
theorem dX12_copies_1 : decode cX12_copies 1 = .ok (.getfield 84, 3) := by decide +kernel
theorem dX12_copies_4 : decode cX12_copies 4 = .ok (.iload_n 1, 1) := by decide +kernel
theorem dX12_copies_5 : decode cX12_copies 5 = .ok (.aload_n 0, 1) := by decide +kernel
theorem dX12_copies_6 : decode cX12_copies 6 = .ok (.getfield 84, 3) := by decide +kernel
theorem dX12_copies_9 : decode cX12_copies 9 = .ok (.iload_n 2, 1) := by decide +kernel
theorem dX12_copies_10 : decode cX12_copies 10 = .ok (.iaload, 1) := by decide +kernel
theorem dX12_copies_11 : decode cX12_copies 11 = .ok (.iastore, 1) := by decide +kernel
theorem dX12_copies_12 : decode cX12_copies 12 = .ok (.aload_n 0, 1) := by decide +kernel
theorem dX12_copies_13 : decode cX12_copies 13 = .ok (.getfield 87, 3) := by decide +kernel
theorem dX12_copies_16 : decode cX12_copies 16 = .ok (.iload_n 1, 1) := by decide +kernel
theorem dX12_copies_17 : decode cX12_copies 17 = .ok (.aload_n 0, 1) := by decide +kernel
theorem dX12_copies_18 : decode cX12_copies 18 = .ok (.getfield 87, 3) := by decide +kernel
theorem dX12_copies_21 : decode cX12_copies 21 = .ok (.iload_n 2, 1) := by decide +kernel
theorem dX12_copies_22 : decode cX12_copies 22 = .ok (.iaload, 1) := by decide +kernel
theorem dX12_copies_23 : decode cX12_copies 23 = .ok (.iastore, 1) := by decide +kernel
theorem dX12_copies_24 : decode cX12_copies 24 = .ok (.aload_n 0, 1) := by decide +kernel
theorem dX12_copies_25 : decode cX12_copies 25 = .ok (.getfield 90, 3) := by decide +kernel
theorem dX12_copies_28 : decode cX12_copies 28 = .ok (.iload_n 1, 1) := by decide +kernel
theorem dX12_copies_29 : decode cX12_copies 29 = .ok (.aload_n 0, 1) := by decide +kernel
theorem dX12_copies_30 : decode cX12_copies 30 = .ok (.getfield 90, 3) := by decide +kernel
theorem dX12_copies_33 : decode cX12_copies 33 = .ok (.iload_n 2, 1) := by decide +kernel
theorem dX12_copies_34 : decode cX12_copies 34 = .ok (.iaload, 1) := by decide +kernel
theorem dX12_copies_35 : decode cX12_copies 35 = .ok (.iastore, 1) := by decide +kernel
theorem dX12_copies_36 : decode cX12_copies 36 = .ok (.iconst 0, 1) := by decide +kernel
theorem dX12_copies_37 : decode cX12_copies 37 = .ok (.istore_n 3, 1) := by decide +kernel
theorem dX12_copies_38 : decode cX12_copies 38 = .ok (.iload_n 3, 1) := by decide +kernel
theorem dX12_copies_39 : decode cX12_copies 39 = .ok (.bipush 6, 2) := by decide +kernel
theorem dX12_copies_41 : decode cX12_copies 41 = .ok (.if_icmp .ge 137, 3) := by decide +kernel
theorem dX12_copies_44 : decode cX12_copies 44 = .ok (.bipush 6, 2) := by decide +kernel
theorem dX12_copies_46 : decode cX12_copies 46 = .ok (.iload_n 1, 1) := by decide +kernel
theorem dX12_copies_47 : decode cX12_copies 47 = .ok (.imul, 1) := by decide +kernel
theorem dX12_copies_48 : decode cX12_copies 48 = .ok (.iload_n 3, 1) := by decide +kernel
theorem dX12_copies_49 : decode cX12_copies 49 = .ok (.iadd, 1) := by decide +kernel
theorem dX12_copies_50 : decode cX12_copies 50 = .ok (.istore 4, 2) := by decide +kernel
theorem dX12_copies_52 : decode cX12_copies 52 = .ok (.bipush 6, 2) := by decide +kernel
theorem dX12_copies_54 : decode cX12_copies 54 = .ok (.iload_n 2, 1) := by decide +kernel
theorem dX12_copies_55 : decode cX12_copies 55 = .ok (.imul, 1) := by decide +kernel
theorem dX12_copies_56 : decode cX12_copies 56 = .ok (.iload_n 3, 1) := by decide +kernel
theorem dX12_copies_57 : decode cX12_copies 57 = .ok (.iadd, 1) := by decide +kernel
theorem dX12_copies_58 : decode cX12_copies 58 = .ok (.istore 5, 2) := by decide +kernel
theorem dX12_copies_60 : decode cX12_copies 60 = .ok (.aload_n 0, 1) := by decide +kernel
theorem dX12_copies_61 : decode cX12_copies 61 = .ok (.getfield 93, 3) := by decide +kernel
theorem dX12_copies_64 : decode cX12_copies 64 = .ok (.iload 4, 2) := by decide +kernel
theorem dX12_copies_66 : decode cX12_copies 66 = .ok (.aload_n 0, 1) := by decide +kernel
theorem dX12_copies_67 : decode cX12_copies 67 = .ok (.getfield 93, 3) := by decide +kernel
theorem dX12_copies_70 : decode cX12_copies 70 = .ok (.iload 5, 2) := by decide +kernel
theorem dX12_copies_72 : decode cX12_copies 72 = .ok (.iaload, 1) := by decide +kernel
theorem dX12_copies_73 : decode cX12_copies 73 = .ok (.iastore, 1) := by decide +kernel
theorem dX12_copies_74 : decode cX12_copies 74 = .ok (.aload_n 0, 1) := by decide +kernel
theorem dX12_copies_75 : decode cX12_copies 75 = .ok (.getfield 96, 3) := by decide +kernel
theorem dX12_copies_78 : decode cX12_copies 78 = .ok (.iload 4, 2) := by decide +kernel
theorem dX12_copies_80 : decode cX12_copies 80 = .ok (.aload_n 0, 1) := by decide +kernel
theorem dX12_copies_81 : decode cX12_copies 81 = .ok (.getfield 96, 3) := by decide +kernel
theorem dX12_copies_84 : decode cX12_copies 84 = .ok (.iload 5, 2) := by decide +kernel
theorem dX12_copies_86 : decode cX12_copies 86 = .ok (.iaload, 1) := by decide +kernel
theorem dX12_copies_87 : decode cX12_copies 87 = .ok (.iastore, 1) := by decide +kernel
theorem dX12_copies_88 : decode cX12_copies 88 = .ok (.aload_n 0, 1) := by decide +kernel
theorem dX12_copies_89 : decode cX12_copies 89 = .ok (.getfield 99, 3) := by decide +kernel
theorem dX12_copies_92 : decode cX12_copies 92 = .ok (.iload 4, 2) := by decide +kernel
theorem dX12_copies_94 : decode cX12_copies 94 = .ok (.aload_n 0, 1) := by decide +kernel
theorem dX12_copies_95 : decode cX12_copies 95 = .ok (.getfield 99, 3) := by decide +kernel
theorem dX12_copies_98 : decode cX12_copies 98 = .ok (.iload 5, 2) := by decide +kernel
theorem dX12_copies_100 : decode cX12_copies 100 = .ok (.iaload, 1) := by decide +kernel
theorem dX12_copies_101 : decode cX12_copies 101 = .ok (.iastore, 1) := by decide +kernel
theorem dX12_copies_102 : decode cX12_copies 102 = .ok (.aload_n 0, 1) := by decide +kernel
theorem dX12_copies_103 : decode cX12_copies 103 = .ok (.getfield 102, 3) := by decide +kernel
theorem dX12_copies_106 : decode cX12_copies 106 = .ok (.iload 4, 2) := by decide +kernel
theorem dX12_copies_108 : decode cX12_copies 108 = .ok (.aload_n 0, 1) := by decide +kernel
theorem dX12_copies_109 : decode cX12_copies 109 = .ok (.getfield 102, 3) := by decide +kernel
theorem dX12_copies_112 : decode cX12_copies 112 = .ok (.iload 5, 2) := by decide +kernel
theorem dX12_copies_114 : decode cX12_copies 114 = .ok (.iaload, 1) := by decide +kernel
theorem dX12_copies_115 : decode cX12_copies 115 = .ok (.iastore, 1) := by decide +kernel
theorem dX12_copies_116 : decode cX12_copies 116 = .ok (.aload_n 0, 1) := by decide +kernel
theorem dX12_copies_117 : decode cX12_copies 117 = .ok (.getfield 105, 3) := by decide +kernel
theorem dX12_copies_120 : decode cX12_copies 120 = .ok (.iload 4, 2) := by decide +kernel
theorem dX12_copies_122 : decode cX12_copies 122 = .ok (.aload_n 0, 1) := by decide +kernel
theorem dX12_copies_123 : decode cX12_copies 123 = .ok (.getfield 105, 3) := by decide +kernel
theorem dX12_copies_126 : decode cX12_copies 126 = .ok (.iload 5, 2) := by decide +kernel
theorem dX12_copies_128 : decode cX12_copies 128 = .ok (.iaload, 1) := by decide +kernel
theorem dX12_copies_129 : decode cX12_copies 129 = .ok (.iastore, 1) := by decide +kernel
theorem dX12_copies_130 : decode cX12_copies 130 = .ok (.aload_n 0, 1) := by decide +kernel
theorem dX12_copies_131 : decode cX12_copies 131 = .ok (.getfield 108, 3) := by decide +kernel
theorem dX12_copies_134 : decode cX12_copies 134 = .ok (.iload 4, 2) := by decide +kernel
theorem dX12_copies_136 : decode cX12_copies 136 = .ok (.aload_n 0, 1) := by decide +kernel
theorem dX12_copies_137 : decode cX12_copies 137 = .ok (.getfield 108, 3) := by decide +kernel
theorem dX12_copies_140 : decode cX12_copies 140 = .ok (.iload 5, 2) := by decide +kernel
theorem dX12_copies_142 : decode cX12_copies 142 = .ok (.iaload, 1) := by decide +kernel
theorem dX12_copies_143 : decode cX12_copies 143 = .ok (.iastore, 1) := by decide +kernel
theorem dX12_copies_144 : decode cX12_copies 144 = .ok (.aload_n 0, 1) := by decide +kernel
theorem dX12_copies_145 : decode cX12_copies 145 = .ok (.getfield 111, 3) := by decide +kernel
theorem dX12_copies_148 : decode cX12_copies 148 = .ok (.iload 4, 2) := by decide +kernel
theorem dX12_copies_150 : decode cX12_copies 150 = .ok (.aload_n 0, 1) := by decide +kernel
theorem dX12_copies_151 : decode cX12_copies 151 = .ok (.getfield 111, 3) := by decide +kernel
theorem dX12_copies_154 : decode cX12_copies 154 = .ok (.iload 5, 2) := by decide +kernel
theorem dX12_copies_156 : decode cX12_copies 156 = .ok (.iaload, 1) := by decide +kernel
theorem dX12_copies_157 : decode cX12_copies 157 = .ok (.iastore, 1) := by decide +kernel
theorem dX12_copies_158 : decode cX12_copies 158 = .ok (.aload_n 0, 1) := by decide +kernel
theorem dX12_copies_159 : decode cX12_copies 159 = .ok (.getfield 114, 3) := by decide +kernel
theorem dX12_copies_162 : decode cX12_copies 162 = .ok (.iload 4, 2) := by decide +kernel
theorem dX12_copies_164 : decode cX12_copies 164 = .ok (.aload_n 0, 1) := by decide +kernel
theorem dX12_copies_165 : decode cX12_copies 165 = .ok (.getfield 114, 3) := by decide +kernel
theorem dX12_copies_168 : decode cX12_copies 168 = .ok (.iload 5, 2) := by decide +kernel
theorem dX12_copies_170 : decode cX12_copies 170 = .ok (.iaload, 1) := by decide +kernel
theorem dX12_copies_171 : decode cX12_copies 171 = .ok (.iastore, 1) := by decide +kernel
theorem dX12_copies_172 : decode cX12_copies 172 = .ok (.iinc 3 1, 3) := by decide +kernel
theorem dX12_copies_175 : decode cX12_copies 175 = .ok (.goto (-137), 3) := by decide +kernel
theorem dX12_copies_178 : decode cX12_copies 178 = .ok (.return_, 1) := by decide +kernel
theorem dX12_isKnight_0 : decode cX12_isKnight 0 = .ok (.iload_n 1, 1) := by decide +kernel
theorem dX12_isKnight_1 : decode cX12_isKnight 1 = .ok (.ifCond .lt 17, 3) := by decide +kernel
theorem dX12_isKnight_4 : decode cX12_isKnight 4 = .ok (.iload_n 1, 1) := by decide +kernel
theorem dX12_isKnight_5 : decode cX12_isKnight 5 = .ok (.aload_n 0, 1) := by decide +kernel
theorem dX12_isKnight_6 : decode cX12_isKnight 6 = .ok (.getfield 13, 3) := by decide +kernel
theorem dX12_isKnight_9 : decode cX12_isKnight 9 = .ok (.iconst 0, 1) := by decide +kernel
theorem dX12_isKnight_10 : decode cX12_isKnight 10 = .ok (.iaload, 1) := by decide +kernel
theorem dX12_isKnight_11 : decode cX12_isKnight 11 = .ok (.if_icmp .ge 7, 3) := by decide +kernel
theorem dX12_isKnight_14 : decode cX12_isKnight 14 = .ok (.iconst 1, 1) := by decide +kernel
theorem dX12_isKnight_15 : decode cX12_isKnight 15 = .ok (.goto 4, 3) := by decide +kernel
theorem dX12_isKnight_18 : decode cX12_isKnight 18 = .ok (.iconst 0, 1) := by decide +kernel
theorem dX12_isKnight_19 : decode cX12_isKnight 19 = .ok (.ireturn, 1) := by decide +kernel
theorem dX12_isTub_0 : decode cX12_isTub 0 = .ok (.iload_n 1, 1) := by decide +kernel
theorem dX12_isTub_1 : decode cX12_isTub 1 = .ok (.ifCond .lt 17, 3) := by decide +kernel
theorem dX12_isTub_4 : decode cX12_isTub 4 = .ok (.iload_n 1, 1) := by decide +kernel
theorem dX12_isTub_5 : decode cX12_isTub 5 = .ok (.aload_n 0, 1) := by decide +kernel
theorem dX12_isTub_6 : decode cX12_isTub 6 = .ok (.getfield 13, 3) := by decide +kernel
theorem dX12_isTub_9 : decode cX12_isTub 9 = .ok (.iconst 1, 1) := by decide +kernel
theorem dX12_isTub_10 : decode cX12_isTub 10 = .ok (.iaload, 1) := by decide +kernel
theorem dX12_isTub_11 : decode cX12_isTub 11 = .ok (.if_icmp .ge 7, 3) := by decide +kernel
theorem dX12_isTub_14 : decode cX12_isTub 14 = .ok (.iconst 1, 1) := by decide +kernel
theorem dX12_isTub_15 : decode cX12_isTub 15 = .ok (.goto 4, 3) := by decide +kernel
theorem dX12_isTub_18 : decode cX12_isTub 18 = .ok (.iconst 0, 1) := by decide +kernel
theorem dX12_isTub_19 : decode cX12_isTub 19 = .ok (.ireturn, 1) := by decide +kernel
theorem dX12_whoIn_0 : decode cX12_whoIn 0 = .ok (.iconst 0, 1) := by decide +kernel
theorem dX12_whoIn_1 : decode cX12_whoIn 1 = .ok (.istore_n 3, 1) := by decide +kernel
theorem dX12_whoIn_2 : decode cX12_whoIn 2 = .ok (.iload_n 3, 1) := by decide +kernel
theorem dX12_whoIn_3 : decode cX12_whoIn 3 = .ok (.aload_n 0, 1) := by decide +kernel
theorem dX12_whoIn_4 : decode cX12_whoIn 4 = .ok (.getfield 13, 3) := by decide +kernel
theorem dX12_whoIn_7 : decode cX12_whoIn 7 = .ok (.iconst 0, 1) := by decide +kernel
theorem dX12_whoIn_8 : decode cX12_whoIn 8 = .ok (.iaload, 1) := by decide +kernel
theorem dX12_whoIn_9 : decode cX12_whoIn 9 = .ok (.if_icmp .ge 26, 3) := by decide +kernel
theorem dX12_whoIn_12 : decode cX12_whoIn 12 = .ok (.aload_n 0, 1) := by decide +kernel
theorem dX12_whoIn_13 : decode cX12_whoIn 13 = .ok (.getfield 102, 3) := by decide +kernel
theorem dX12_whoIn_16 : decode cX12_whoIn 16 = .ok (.bipush 6, 2) := by decide +kernel
theorem dX12_whoIn_18 : decode cX12_whoIn 18 = .ok (.iload_n 1, 1) := by decide +kernel
theorem dX12_whoIn_19 : decode cX12_whoIn 19 = .ok (.imul, 1) := by decide +kernel
theorem dX12_whoIn_20 : decode cX12_whoIn 20 = .ok (.iload_n 3, 1) := by decide +kernel
theorem dX12_whoIn_21 : decode cX12_whoIn 21 = .ok (.iadd, 1) := by decide +kernel
theorem dX12_whoIn_22 : decode cX12_whoIn 22 = .ok (.iaload, 1) := by decide +kernel
theorem dX12_whoIn_23 : decode cX12_whoIn 23 = .ok (.iload_n 2, 1) := by decide +kernel
theorem dX12_whoIn_24 : decode cX12_whoIn 24 = .ok (.if_icmp .ne 5, 3) := by decide +kernel
theorem dX12_whoIn_27 : decode cX12_whoIn 27 = .ok (.iload_n 3, 1) := by decide +kernel
theorem dX12_whoIn_28 : decode cX12_whoIn 28 = .ok (.ireturn, 1) := by decide +kernel
theorem dX12_whoIn_29 : decode cX12_whoIn 29 = .ok (.iinc 3 1, 3) := by decide +kernel
theorem dX12_whoIn_32 : decode cX12_whoIn 32 = .ok (.goto (-30), 3) := by decide +kernel
theorem dX12_whoIn_35 : decode cX12_whoIn 35 = .ok (.iconst (-1), 1) := by decide +kernel
theorem dX12_whoIn_36 : decode cX12_whoIn 36 = .ok (.ireturn, 1) := by decide +kernel
theorem dX12_bitsOf_0 : decode cX12_bitsOf 0 = .ok (.iconst 0, 1) := by decide +kernel
theorem dX12_bitsOf_1 : decode cX12_bitsOf 1 = .ok (.istore_n 1, 1) := by decide +kernel
theorem dX12_bitsOf_2 : decode cX12_bitsOf 2 = .ok (.iconst 0, 1) := by decide +kernel
theorem dX12_bitsOf_3 : decode cX12_bitsOf 3 = .ok (.istore_n 2, 1) := by decide +kernel
theorem dX12_bitsOf_4 : decode cX12_bitsOf 4 = .ok (.iload_n 2, 1) := by decide +kernel
theorem dX12_bitsOf_5 : decode cX12_bitsOf 5 = .ok (.bipush 10, 2) := by decide +kernel
theorem dX12_bitsOf_7 : decode cX12_bitsOf 7 = .ok (.if_icmp .ge 17, 3) := by decide +kernel
theorem dX12_bitsOf_10 : decode cX12_bitsOf 10 = .ok (.iload_n 1, 1) := by decide +kernel
theorem dX12_bitsOf_11 : decode cX12_bitsOf 11 = .ok (.iload_n 0, 1) := by decide +kernel
theorem dX12_bitsOf_12 : decode cX12_bitsOf 12 = .ok (.iload_n 2, 1) := by decide +kernel
theorem dX12_bitsOf_13 : decode cX12_bitsOf 13 = .ok (.ishr, 1) := by decide +kernel
theorem dX12_bitsOf_14 : decode cX12_bitsOf 14 = .ok (.iconst 1, 1) := by decide +kernel
theorem dX12_bitsOf_15 : decode cX12_bitsOf 15 = .ok (.iand, 1) := by decide +kernel
theorem dX12_bitsOf_16 : decode cX12_bitsOf 16 = .ok (.iadd, 1) := by decide +kernel
theorem dX12_bitsOf_17 : decode cX12_bitsOf 17 = .ok (.istore_n 1, 1) := by decide +kernel
theorem dX12_bitsOf_18 : decode cX12_bitsOf 18 = .ok (.iinc 2 1, 3) := by decide +kernel
theorem dX12_bitsOf_21 : decode cX12_bitsOf 21 = .ok (.goto (-17), 3) := by decide +kernel
theorem dX12_bitsOf_24 : decode cX12_bitsOf 24 = .ok (.iload_n 1, 1) := by decide +kernel
theorem dX12_bitsOf_25 : decode cX12_bitsOf 25 = .ok (.ireturn, 1) := by decide +kernel
theorem dX12_calls_0 : decode cX12_calls 0 = .ok (.iload_n 2, 1) := by decide +kernel
theorem dX12_calls_1 : decode cX12_calls 1 = .ok (.iconst (-1), 1) := by decide +kernel
theorem dX12_calls_2 : decode cX12_calls 2 = .ok (.if_icmp .eq 7, 3) := by decide +kernel
theorem dX12_calls_5 : decode cX12_calls 5 = .ok (.iconst 1, 1) := by decide +kernel
theorem dX12_calls_6 : decode cX12_calls 6 = .ok (.goto 4, 3) := by decide +kernel
theorem dX12_calls_9 : decode cX12_calls 9 = .ok (.iconst 0, 1) := by decide +kernel
theorem dX12_calls_10 : decode cX12_calls 10 = .ok (.istore 5, 2) := by decide +kernel
theorem dX12_calls_12 : decode cX12_calls 12 = .ok (.aload_n 0, 1) := by decide +kernel
theorem dX12_calls_13 : decode cX12_calls 13 = .ok (.getfield 77, 3) := by decide +kernel
theorem dX12_calls_16 : decode cX12_calls 16 = .ok (.iconst 0, 1) := by decide +kernel
theorem dX12_calls_17 : decode cX12_calls 17 = .ok (.aload_n 0, 1) := by decide +kernel
theorem dX12_calls_18 : decode cX12_calls 18 = .ok (.getfield 96, 3) := by decide +kernel
theorem dX12_calls_21 : decode cX12_calls 21 = .ok (.bipush 6, 2) := by decide +kernel
theorem dX12_calls_23 : decode cX12_calls 23 = .ok (.iload_n 1, 1) := by decide +kernel
theorem dX12_calls_24 : decode cX12_calls 24 = .ok (.imul, 1) := by decide +kernel
theorem dX12_calls_25 : decode cX12_calls 25 = .ok (.iload_n 3, 1) := by decide +kernel
theorem dX12_calls_26 : decode cX12_calls 26 = .ok (.iadd, 1) := by decide +kernel
theorem dX12_calls_27 : decode cX12_calls 27 = .ok (.iaload, 1) := by decide +kernel
theorem dX12_calls_28 : decode cX12_calls 28 = .ok (.bipush 10, 2) := by decide +kernel
theorem dX12_calls_30 : decode cX12_calls 30 = .ok (.idiv, 1) := by decide +kernel
theorem dX12_calls_31 : decode cX12_calls 31 = .ok (.i2l, 1) := by decide +kernel
theorem dX12_calls_32 : decode cX12_calls 32 = .ok (.lastore, 1) := by decide +kernel
theorem dX12_calls_33 : decode cX12_calls 33 = .ok (.aload_n 0, 1) := by decide +kernel
theorem dX12_calls_34 : decode cX12_calls 34 = .ok (.getfield 77, 3) := by decide +kernel
theorem dX12_calls_37 : decode cX12_calls 37 = .ok (.iconst 1, 1) := by decide +kernel
theorem dX12_calls_38 : decode cX12_calls 38 = .ok (.iload 5, 2) := by decide +kernel
theorem dX12_calls_40 : decode cX12_calls 40 = .ok (.ifCond .eq 18, 3) := by decide +kernel
theorem dX12_calls_43 : decode cX12_calls 43 = .ok (.aload_n 0, 1) := by decide +kernel
theorem dX12_calls_44 : decode cX12_calls 44 = .ok (.getfield 99, 3) := by decide +kernel
theorem dX12_calls_47 : decode cX12_calls 47 = .ok (.bipush 6, 2) := by decide +kernel
theorem dX12_calls_49 : decode cX12_calls 49 = .ok (.iload_n 1, 1) := by decide +kernel
theorem dX12_calls_50 : decode cX12_calls 50 = .ok (.imul, 1) := by decide +kernel
theorem dX12_calls_51 : decode cX12_calls 51 = .ok (.iload_n 2, 1) := by decide +kernel
theorem dX12_calls_52 : decode cX12_calls 52 = .ok (.iadd, 1) := by decide +kernel
theorem dX12_calls_53 : decode cX12_calls 53 = .ok (.iaload, 1) := by decide +kernel
theorem dX12_calls_54 : decode cX12_calls 54 = .ok (.i2l, 1) := by decide +kernel
theorem dX12_calls_55 : decode cX12_calls 55 = .ok (.goto 4, 3) := by decide +kernel
theorem dX12_calls_58 : decode cX12_calls 58 = .ok (.lconst 0, 1) := by decide +kernel
theorem dX12_calls_59 : decode cX12_calls 59 = .ok (.lastore, 1) := by decide +kernel
theorem dX12_calls_60 : decode cX12_calls 60 = .ok (.aload_n 0, 1) := by decide +kernel
theorem dX12_calls_61 : decode cX12_calls 61 = .ok (.getfield 77, 3) := by decide +kernel
theorem dX12_calls_64 : decode cX12_calls 64 = .ok (.iconst 2, 1) := by decide +kernel
theorem dX12_calls_65 : decode cX12_calls 65 = .ok (.iload 5, 2) := by decide +kernel
theorem dX12_calls_67 : decode cX12_calls 67 = .ok (.ifCond .eq 13, 3) := by decide +kernel
theorem dX12_calls_70 : decode cX12_calls 70 = .ok (.aload_n 0, 1) := by decide +kernel
theorem dX12_calls_71 : decode cX12_calls 71 = .ok (.getfield 22, 3) := by decide +kernel
theorem dX12_calls_74 : decode cX12_calls 74 = .ok (.iload_n 2, 1) := by decide +kernel
theorem dX12_calls_75 : decode cX12_calls 75 = .ok (.iaload, 1) := by decide +kernel
theorem dX12_calls_76 : decode cX12_calls 76 = .ok (.i2l, 1) := by decide +kernel
theorem dX12_calls_77 : decode cX12_calls 77 = .ok (.goto 4, 3) := by decide +kernel
theorem dX12_calls_80 : decode cX12_calls 80 = .ok (.lconst 0, 1) := by decide +kernel
theorem dX12_calls_81 : decode cX12_calls 81 = .ok (.lastore, 1) := by decide +kernel
theorem dX12_calls_82 : decode cX12_calls 82 = .ok (.aload_n 0, 1) := by decide +kernel
theorem dX12_calls_83 : decode cX12_calls 83 = .ok (.getfield 77, 3) := by decide +kernel
theorem dX12_calls_86 : decode cX12_calls 86 = .ok (.iconst 3, 1) := by decide +kernel
theorem dX12_calls_87 : decode cX12_calls 87 = .ok (.iload 5, 2) := by decide +kernel
theorem dX12_calls_89 : decode cX12_calls 89 = .ok (.ifCond .eq 18, 3) := by decide +kernel
theorem dX12_calls_92 : decode cX12_calls 92 = .ok (.aload_n 0, 1) := by decide +kernel
theorem dX12_calls_93 : decode cX12_calls 93 = .ok (.getfield 108, 3) := by decide +kernel
theorem dX12_calls_96 : decode cX12_calls 96 = .ok (.bipush 6, 2) := by decide +kernel
theorem dX12_calls_98 : decode cX12_calls 98 = .ok (.iload_n 1, 1) := by decide +kernel
theorem dX12_calls_99 : decode cX12_calls 99 = .ok (.imul, 1) := by decide +kernel
theorem dX12_calls_100 : decode cX12_calls 100 = .ok (.iload_n 2, 1) := by decide +kernel
theorem dX12_calls_101 : decode cX12_calls 101 = .ok (.iadd, 1) := by decide +kernel
theorem dX12_calls_102 : decode cX12_calls 102 = .ok (.iaload, 1) := by decide +kernel
theorem dX12_calls_103 : decode cX12_calls 103 = .ok (.i2l, 1) := by decide +kernel
theorem dX12_calls_104 : decode cX12_calls 104 = .ok (.goto 4, 3) := by decide +kernel
theorem dX12_calls_107 : decode cX12_calls 107 = .ok (.lconst 0, 1) := by decide +kernel
theorem dX12_calls_108 : decode cX12_calls 108 = .ok (.lastore, 1) := by decide +kernel
theorem dX12_calls_109 : decode cX12_calls 109 = .ok (.aload_n 0, 1) := by decide +kernel
theorem dX12_calls_110 : decode cX12_calls 110 = .ok (.getfield 77, 3) := by decide +kernel
theorem dX12_calls_113 : decode cX12_calls 113 = .ok (.iconst 4, 1) := by decide +kernel
theorem dX12_calls_114 : decode cX12_calls 114 = .ok (.aload_n 0, 1) := by decide +kernel
theorem dX12_calls_115 : decode cX12_calls 115 = .ok (.getfield 93, 3) := by decide +kernel
theorem dX12_calls_118 : decode cX12_calls 118 = .ok (.bipush 6, 2) := by decide +kernel
theorem dX12_calls_120 : decode cX12_calls 120 = .ok (.iload_n 1, 1) := by decide +kernel
theorem dX12_calls_121 : decode cX12_calls 121 = .ok (.imul, 1) := by decide +kernel
theorem dX12_calls_122 : decode cX12_calls 122 = .ok (.iload_n 3, 1) := by decide +kernel
theorem dX12_calls_123 : decode cX12_calls 123 = .ok (.iadd, 1) := by decide +kernel
theorem dX12_calls_124 : decode cX12_calls 124 = .ok (.iaload, 1) := by decide +kernel
theorem dX12_calls_125 : decode cX12_calls 125 = .ok (.i2l, 1) := by decide +kernel
theorem dX12_calls_126 : decode cX12_calls 126 = .ok (.lastore, 1) := by decide +kernel
theorem dX12_calls_127 : decode cX12_calls 127 = .ok (.aload_n 0, 1) := by decide +kernel
theorem dX12_calls_128 : decode cX12_calls 128 = .ok (.getfield 77, 3) := by decide +kernel
theorem dX12_calls_131 : decode cX12_calls 131 = .ok (.iconst 5, 1) := by decide +kernel
theorem dX12_calls_132 : decode cX12_calls 132 = .ok (.iload 4, 2) := by decide +kernel
theorem dX12_calls_134 : decode cX12_calls 134 = .ok (.i2l, 1) := by decide +kernel
theorem dX12_calls_135 : decode cX12_calls 135 = .ok (.lastore, 1) := by decide +kernel
theorem dX12_calls_136 : decode cX12_calls 136 = .ok (.aload_n 0, 1) := by decide +kernel
theorem dX12_calls_137 : decode cX12_calls 137 = .ok (.getfield 77, 3) := by decide +kernel
theorem dX12_calls_140 : decode cX12_calls 140 = .ok (.bipush 6, 2) := by decide +kernel
theorem dX12_calls_142 : decode cX12_calls 142 = .ok (.aload_n 0, 1) := by decide +kernel
theorem dX12_calls_143 : decode cX12_calls 143 = .ok (.getfield 84, 3) := by decide +kernel
theorem dX12_calls_146 : decode cX12_calls 146 = .ok (.iload_n 1, 1) := by decide +kernel
theorem dX12_calls_147 : decode cX12_calls 147 = .ok (.iaload, 1) := by decide +kernel
theorem dX12_calls_148 : decode cX12_calls 148 = .ok (.i2l, 1) := by decide +kernel
theorem dX12_calls_149 : decode cX12_calls 149 = .ok (.lastore, 1) := by decide +kernel
theorem dX12_calls_150 : decode cX12_calls 150 = .ok (.return_, 1) := by decide +kernel
theorem dX12_within_0 : decode cX12_within 0 = .ok (.aload_n 0, 1) := by decide +kernel
theorem dX12_within_1 : decode cX12_within 1 = .ok (.iload_n 1, 1) := by decide +kernel
theorem dX12_within_2 : decode cX12_within 2 = .ok (.invokevirtual 343, 3) := by decide +kernel
theorem dX12_within_5 : decode cX12_within 5 = .ok (.ifCond .eq 11, 3) := by decide +kernel
theorem dX12_within_8 : decode cX12_within 8 = .ok (.aload_n 0, 1) := by decide +kernel
theorem dX12_within_9 : decode cX12_within 9 = .ok (.iload_n 1, 1) := by decide +kernel
theorem dX12_within_10 : decode cX12_within 10 = .ok (.invokevirtual 346, 3) := by decide +kernel
theorem dX12_within_13 : decode cX12_within 13 = .ok (.ifCond .ne 6, 3) := by decide +kernel
theorem dX12_within_16 : decode cX12_within 16 = .ok (.iload 4, 2) := by decide +kernel
theorem dX12_within_18 : decode cX12_within 18 = .ok (.ireturn, 1) := by decide +kernel
theorem dX12_within_19 : decode cX12_within 19 = .ok (.iload_n 2, 1) := by decide +kernel
theorem dX12_within_20 : decode cX12_within 20 = .ok (.i2l, 1) := by decide +kernel
theorem dX12_within_21 : decode cX12_within 21 = .ok (.iload_n 3, 1) := by decide +kernel
theorem dX12_within_22 : decode cX12_within 22 = .ok (.i2l, 1) := by decide +kernel
theorem dX12_within_23 : decode cX12_within 23 = .ok (.aload_n 0, 1) := by decide +kernel
theorem dX12_within_24 : decode cX12_within 24 = .ok (.getfield 81, 3) := by decide +kernel
theorem dX12_within_27 : decode cX12_within 27 = .ok (.iconst 0, 1) := by decide +kernel
theorem dX12_within_28 : decode cX12_within 28 = .ok (.laload, 1) := by decide +kernel
theorem dX12_within_29 : decode cX12_within 29 = .ok (.invokestatic 349, 3) := by decide +kernel
theorem dX12_within_32 : decode cX12_within 32 = .ok (.invokestatic 353, 3) := by decide +kernel
theorem dX12_within_35 : decode cX12_within 35 = .ok (.l2i, 1) := by decide +kernel
theorem dX12_within_36 : decode cX12_within 36 = .ok (.ireturn, 1) := by decide +kernel
theorem dX12_isAtEase_0 : decode cX12_isAtEase 0 = .ok (.aload_n 0, 1) := by decide +kernel
theorem dX12_isAtEase_1 : decode cX12_isAtEase 1 = .ok (.iload_n 1, 1) := by decide +kernel
theorem dX12_isAtEase_2 : decode cX12_isAtEase 2 = .ok (.iload_n 2, 1) := by decide +kernel
theorem dX12_isAtEase_3 : decode cX12_isAtEase 3 = .ok (.iload_n 3, 1) := by decide +kernel
theorem dX12_isAtEase_4 : decode cX12_isAtEase 4 = .ok (.iload 4, 2) := by decide +kernel
theorem dX12_isAtEase_6 : decode cX12_isAtEase 6 = .ok (.invokevirtual 356, 3) := by decide +kernel
theorem dX12_isAtEase_9 : decode cX12_isAtEase 9 = .ok (.aload_n 0, 1) := by decide +kernel
theorem dX12_isAtEase_10 : decode cX12_isAtEase 10 = .ok (.iconst 1, 1) := by decide +kernel
theorem dX12_isAtEase_11 : decode cX12_isAtEase 11 = .ok (.invokevirtual 343, 3) := by decide +kernel
theorem dX12_isAtEase_14 : decode cX12_isAtEase 14 = .ok (.ifCond .eq 11, 3) := by decide +kernel
theorem dX12_isAtEase_17 : decode cX12_isAtEase 17 = .ok (.aload_n 0, 1) := by decide +kernel
theorem dX12_isAtEase_18 : decode cX12_isAtEase 18 = .ok (.iconst 1, 1) := by decide +kernel
theorem dX12_isAtEase_19 : decode cX12_isAtEase 19 = .ok (.invokevirtual 346, 3) := by decide +kernel
theorem dX12_isAtEase_22 : decode cX12_isAtEase 22 = .ok (.ifCond .ne 37, 3) := by decide +kernel
theorem dX12_isAtEase_25 : decode cX12_isAtEase 25 = .ok (.aload_n 0, 1) := by decide +kernel
theorem dX12_isAtEase_26 : decode cX12_isAtEase 26 = .ok (.getfield 96, 3) := by decide +kernel
theorem dX12_isAtEase_29 : decode cX12_isAtEase 29 = .ok (.bipush 6, 2) := by decide +kernel
theorem dX12_isAtEase_31 : decode cX12_isAtEase 31 = .ok (.iload_n 1, 1) := by decide +kernel
theorem dX12_isAtEase_32 : decode cX12_isAtEase 32 = .ok (.imul, 1) := by decide +kernel
theorem dX12_isAtEase_33 : decode cX12_isAtEase 33 = .ok (.iload_n 3, 1) := by decide +kernel
theorem dX12_isAtEase_34 : decode cX12_isAtEase 34 = .ok (.iadd, 1) := by decide +kernel
theorem dX12_isAtEase_35 : decode cX12_isAtEase 35 = .ok (.iaload, 1) := by decide +kernel
theorem dX12_isAtEase_36 : decode cX12_isAtEase 36 = .ok (.bipush 10, 2) := by decide +kernel
theorem dX12_isAtEase_38 : decode cX12_isAtEase 38 = .ok (.aload_n 0, 1) := by decide +kernel
theorem dX12_isAtEase_39 : decode cX12_isAtEase 39 = .ok (.getfield 99, 3) := by decide +kernel
theorem dX12_isAtEase_42 : decode cX12_isAtEase 42 = .ok (.bipush 6, 2) := by decide +kernel
theorem dX12_isAtEase_44 : decode cX12_isAtEase 44 = .ok (.iload_n 1, 1) := by decide +kernel
theorem dX12_isAtEase_45 : decode cX12_isAtEase 45 = .ok (.imul, 1) := by decide +kernel
theorem dX12_isAtEase_46 : decode cX12_isAtEase 46 = .ok (.iload_n 2, 1) := by decide +kernel
theorem dX12_isAtEase_47 : decode cX12_isAtEase 47 = .ok (.iadd, 1) := by decide +kernel
theorem dX12_isAtEase_48 : decode cX12_isAtEase 48 = .ok (.iaload, 1) := by decide +kernel
theorem dX12_isAtEase_49 : decode cX12_isAtEase 49 = .ok (.imul, 1) := by decide +kernel
theorem dX12_isAtEase_50 : decode cX12_isAtEase 50 = .ok (.if_icmp .gt 7, 3) := by decide +kernel
theorem dX12_isAtEase_53 : decode cX12_isAtEase 53 = .ok (.iconst 1, 1) := by decide +kernel
theorem dX12_isAtEase_54 : decode cX12_isAtEase 54 = .ok (.goto 4, 3) := by decide +kernel
theorem dX12_isAtEase_57 : decode cX12_isAtEase 57 = .ok (.iconst 0, 1) := by decide +kernel
theorem dX12_isAtEase_58 : decode cX12_isAtEase 58 = .ok (.ireturn, 1) := by decide +kernel
theorem dX12_isAtEase_59 : decode cX12_isAtEase 59 = .ok (.aload_n 0, 1) := by decide +kernel
theorem dX12_isAtEase_60 : decode cX12_isAtEase 60 = .ok (.getfield 81, 3) := by decide +kernel
theorem dX12_isAtEase_63 : decode cX12_isAtEase 63 = .ok (.iconst 0, 1) := by decide +kernel
theorem dX12_isAtEase_64 : decode cX12_isAtEase 64 = .ok (.laload, 1) := by decide +kernel
theorem dX12_isAtEase_65 : decode cX12_isAtEase 65 = .ok (.lconst 0, 1) := by decide +kernel
theorem dX12_isAtEase_66 : decode cX12_isAtEase 66 = .ok (.lcmp, 1) := by decide +kernel
theorem dX12_isAtEase_67 : decode cX12_isAtEase 67 = .ok (.ifCond .eq 7, 3) := by decide +kernel
theorem dX12_isAtEase_70 : decode cX12_isAtEase 70 = .ok (.iconst 1, 1) := by decide +kernel
theorem dX12_isAtEase_71 : decode cX12_isAtEase 71 = .ok (.goto 4, 3) := by decide +kernel
theorem dX12_isAtEase_74 : decode cX12_isAtEase 74 = .ok (.iconst 0, 1) := by decide +kernel
theorem dX12_isAtEase_75 : decode cX12_isAtEase 75 = .ok (.ireturn, 1) := by decide +kernel
theorem dX12_mixed_0 : decode cX12_mixed 0 = .ok (.iload_n 0, 1) := by decide +kernel
theorem dX12_mixed_1 : decode cX12_mixed 1 = .ok (.iload_n 1, 1) := by decide +kernel
theorem dX12_mixed_2 : decode cX12_mixed 2 = .ok (.imul, 1) := by decide +kernel
theorem dX12_mixed_3 : decode cX12_mixed 3 = .ok (.iload_n 2, 1) := by decide +kernel
theorem dX12_mixed_4 : decode cX12_mixed 4 = .ok (.iload_n 3, 1) := by decide +kernel
theorem dX12_mixed_5 : decode cX12_mixed 5 = .ok (.imul, 1) := by decide +kernel
theorem dX12_mixed_6 : decode cX12_mixed 6 = .ok (.iadd, 1) := by decide +kernel
theorem dX12_mixed_7 : decode cX12_mixed 7 = .ok (.iload_n 0, 1) := by decide +kernel
theorem dX12_mixed_8 : decode cX12_mixed 8 = .ok (.iload_n 2, 1) := by decide +kernel
theorem dX12_mixed_9 : decode cX12_mixed 9 = .ok (.iadd, 1) := by decide +kernel
theorem dX12_mixed_10 : decode cX12_mixed 10 = .ok (.idiv, 1) := by decide +kernel
theorem dX12_mixed_11 : decode cX12_mixed 11 = .ok (.ireturn, 1) := by decide +kernel
theorem dX12_mixes_0 : decode cX12_mixes 0 = .ok (.bipush 6, 2) := by decide +kernel
theorem dX12_mixes_2 : decode cX12_mixes 2 = .ok (.iload_n 1, 1) := by decide +kernel
theorem dX12_mixes_3 : decode cX12_mixes 3 = .ok (.imul, 1) := by decide +kernel
theorem dX12_mixes_4 : decode cX12_mixes 4 = .ok (.iload_n 2, 1) := by decide +kernel
theorem dX12_mixes_5 : decode cX12_mixes 5 = .ok (.iadd, 1) := by decide +kernel
theorem dX12_mixes_6 : decode cX12_mixes 6 = .ok (.istore 5, 2) := by decide +kernel
theorem dX12_mixes_8 : decode cX12_mixes 8 = .ok (.aload_n 0, 1) := by decide +kernel
theorem dX12_mixes_9 : decode cX12_mixes 9 = .ok (.getfield 93, 3) := by decide +kernel
theorem dX12_mixes_12 : decode cX12_mixes 12 = .ok (.iload 5, 2) := by decide +kernel
theorem dX12_mixes_14 : decode cX12_mixes 14 = .ok (.iaload, 1) := by decide +kernel
theorem dX12_mixes_15 : decode cX12_mixes 15 = .ok (.iload_n 3, 1) := by decide +kernel
theorem dX12_mixes_16 : decode cX12_mixes 16 = .ok (.iadd, 1) := by decide +kernel
theorem dX12_mixes_17 : decode cX12_mixes 17 = .ok (.sipush 999, 3) := by decide +kernel
theorem dX12_mixes_20 : decode cX12_mixes 20 = .ok (.if_icmp .le 5, 3) := by decide +kernel
theorem dX12_mixes_23 : decode cX12_mixes 23 = .ok (.iconst 0, 1) := by decide +kernel
theorem dX12_mixes_24 : decode cX12_mixes 24 = .ok (.ireturn, 1) := by decide +kernel
theorem dX12_mixes_25 : decode cX12_mixes 25 = .ok (.aload_n 0, 1) := by decide +kernel
theorem dX12_mixes_26 : decode cX12_mixes 26 = .ok (.getfield 96, 3) := by decide +kernel
theorem dX12_mixes_29 : decode cX12_mixes 29 = .ok (.iload 5, 2) := by decide +kernel
theorem dX12_mixes_31 : decode cX12_mixes 31 = .ok (.aload_n 0, 1) := by decide +kernel
theorem dX12_mixes_32 : decode cX12_mixes 32 = .ok (.getfield 93, 3) := by decide +kernel
theorem dX12_mixes_35 : decode cX12_mixes 35 = .ok (.iload 5, 2) := by decide +kernel
theorem dX12_mixes_37 : decode cX12_mixes 37 = .ok (.iaload, 1) := by decide +kernel
theorem dX12_mixes_38 : decode cX12_mixes 38 = .ok (.aload_n 0, 1) := by decide +kernel
theorem dX12_mixes_39 : decode cX12_mixes 39 = .ok (.getfield 96, 3) := by decide +kernel
theorem dX12_mixes_42 : decode cX12_mixes 42 = .ok (.iload 5, 2) := by decide +kernel
theorem dX12_mixes_44 : decode cX12_mixes 44 = .ok (.iaload, 1) := by decide +kernel
theorem dX12_mixes_45 : decode cX12_mixes 45 = .ok (.iload_n 3, 1) := by decide +kernel
theorem dX12_mixes_46 : decode cX12_mixes 46 = .ok (.iload 4, 2) := by decide +kernel
theorem dX12_mixes_48 : decode cX12_mixes 48 = .ok (.invokestatic 360, 3) := by decide +kernel
theorem dX12_mixes_51 : decode cX12_mixes 51 = .ok (.iastore, 1) := by decide +kernel
theorem dX12_mixes_52 : decode cX12_mixes 52 = .ok (.aload_n 0, 1) := by decide +kernel
theorem dX12_mixes_53 : decode cX12_mixes 53 = .ok (.getfield 93, 3) := by decide +kernel
theorem dX12_mixes_56 : decode cX12_mixes 56 = .ok (.iload 5, 2) := by decide +kernel
theorem dX12_mixes_58 : decode cX12_mixes 58 = .ok (.dup2, 1) := by decide +kernel
theorem dX12_mixes_59 : decode cX12_mixes 59 = .ok (.iaload, 1) := by decide +kernel
theorem dX12_mixes_60 : decode cX12_mixes 60 = .ok (.iload_n 3, 1) := by decide +kernel
theorem dX12_mixes_61 : decode cX12_mixes 61 = .ok (.iadd, 1) := by decide +kernel
theorem dX12_mixes_62 : decode cX12_mixes 62 = .ok (.iastore, 1) := by decide +kernel
theorem dX12_mixes_63 : decode cX12_mixes 63 = .ok (.iconst 1, 1) := by decide +kernel
theorem dX12_mixes_64 : decode cX12_mixes 64 = .ok (.ireturn, 1) := by decide +kernel
theorem dX12_flows_0 : decode cX12_flows 0 = .ok (.bipush 6, 2) := by decide +kernel
theorem dX12_flows_2 : decode cX12_flows 2 = .ok (.iload_n 1, 1) := by decide +kernel
theorem dX12_flows_3 : decode cX12_flows 3 = .ok (.imul, 1) := by decide +kernel
theorem dX12_flows_4 : decode cX12_flows 4 = .ok (.aload_n 0, 1) := by decide +kernel
theorem dX12_flows_5 : decode cX12_flows 5 = .ok (.getfield 52, 3) := by decide +kernel
theorem dX12_flows_8 : decode cX12_flows 8 = .ok (.iload_n 2, 1) := by decide +kernel
theorem dX12_flows_9 : decode cX12_flows 9 = .ok (.iaload, 1) := by decide +kernel
theorem dX12_flows_10 : decode cX12_flows 10 = .ok (.iadd, 1) := by decide +kernel
theorem dX12_flows_11 : decode cX12_flows 11 = .ok (.istore_n 3, 1) := by decide +kernel
theorem dX12_flows_12 : decode cX12_flows 12 = .ok (.aload_n 0, 1) := by decide +kernel
theorem dX12_flows_13 : decode cX12_flows 13 = .ok (.getfield 58, 3) := by decide +kernel
theorem dX12_flows_16 : decode cX12_flows 16 = .ok (.iload_n 2, 1) := by decide +kernel
theorem dX12_flows_17 : decode cX12_flows 17 = .ok (.iaload, 1) := by decide +kernel
theorem dX12_flows_18 : decode cX12_flows 18 = .ok (.aload_n 0, 1) := by decide +kernel
theorem dX12_flows_19 : decode cX12_flows 19 = .ok (.getfield 93, 3) := by decide +kernel
theorem dX12_flows_22 : decode cX12_flows 22 = .ok (.iload_n 3, 1) := by decide +kernel
theorem dX12_flows_23 : decode cX12_flows 23 = .ok (.iaload, 1) := by decide +kernel
theorem dX12_flows_24 : decode cX12_flows 24 = .ok (.iconst 1, 1) := by decide +kernel
theorem dX12_flows_25 : decode cX12_flows 25 = .ok (.isub, 1) := by decide +kernel
theorem dX12_flows_26 : decode cX12_flows 26 = .ok (.invokestatic 364, 3) := by decide +kernel
theorem dX12_flows_29 : decode cX12_flows 29 = .ok (.istore 4, 2) := by decide +kernel
theorem dX12_flows_31 : decode cX12_flows 31 = .ok (.iload 4, 2) := by decide +kernel
theorem dX12_flows_33 : decode cX12_flows 33 = .ok (.ifCond .le 36, 3) := by decide +kernel
theorem dX12_flows_36 : decode cX12_flows 36 = .ok (.aload_n 0, 1) := by decide +kernel
theorem dX12_flows_37 : decode cX12_flows 37 = .ok (.iload_n 1, 1) := by decide +kernel
theorem dX12_flows_38 : decode cX12_flows 38 = .ok (.aload_n 0, 1) := by decide +kernel
theorem dX12_flows_39 : decode cX12_flows 39 = .ok (.getfield 55, 3) := by decide +kernel
theorem dX12_flows_42 : decode cX12_flows 42 = .ok (.iload_n 2, 1) := by decide +kernel
theorem dX12_flows_43 : decode cX12_flows 43 = .ok (.iaload, 1) := by decide +kernel
theorem dX12_flows_44 : decode cX12_flows 44 = .ok (.iload 4, 2) := by decide +kernel
theorem dX12_flows_46 : decode cX12_flows 46 = .ok (.aload_n 0, 1) := by decide +kernel
theorem dX12_flows_47 : decode cX12_flows 47 = .ok (.getfield 96, 3) := by decide +kernel
theorem dX12_flows_50 : decode cX12_flows 50 = .ok (.iload_n 3, 1) := by decide +kernel
theorem dX12_flows_51 : decode cX12_flows 51 = .ok (.iaload, 1) := by decide +kernel
theorem dX12_flows_52 : decode cX12_flows 52 = .ok (.invokevirtual 366, 3) := by decide +kernel
theorem dX12_flows_55 : decode cX12_flows 55 = .ok (.ifCond .eq 14, 3) := by decide +kernel
theorem dX12_flows_58 : decode cX12_flows 58 = .ok (.aload_n 0, 1) := by decide +kernel
theorem dX12_flows_59 : decode cX12_flows 59 = .ok (.getfield 93, 3) := by decide +kernel
theorem dX12_flows_62 : decode cX12_flows 62 = .ok (.iload_n 3, 1) := by decide +kernel
theorem dX12_flows_63 : decode cX12_flows 63 = .ok (.dup2, 1) := by decide +kernel
theorem dX12_flows_64 : decode cX12_flows 64 = .ok (.iaload, 1) := by decide +kernel
theorem dX12_flows_65 : decode cX12_flows 65 = .ok (.iload 4, 2) := by decide +kernel
theorem dX12_flows_67 : decode cX12_flows 67 = .ok (.isub, 1) := by decide +kernel
theorem dX12_flows_68 : decode cX12_flows 68 = .ok (.iastore, 1) := by decide +kernel
theorem dX12_flows_69 : decode cX12_flows 69 = .ok (.return_, 1) := by decide +kernel
theorem dX12_loses_0 : decode cX12_loses 0 = .ok (.bipush 6, 2) := by decide +kernel
theorem dX12_loses_2 : decode cX12_loses 2 = .ok (.iload_n 1, 1) := by decide +kernel
theorem dX12_loses_3 : decode cX12_loses 3 = .ok (.imul, 1) := by decide +kernel
theorem dX12_loses_4 : decode cX12_loses 4 = .ok (.iload_n 2, 1) := by decide +kernel
theorem dX12_loses_5 : decode cX12_loses 5 = .ok (.iadd, 1) := by decide +kernel
theorem dX12_loses_6 : decode cX12_loses 6 = .ok (.istore_n 3, 1) := by decide +kernel
theorem dX12_loses_7 : decode cX12_loses 7 = .ok (.aload_n 0, 1) := by decide +kernel
theorem dX12_loses_8 : decode cX12_loses 8 = .ok (.iload_n 1, 1) := by decide +kernel
theorem dX12_loses_9 : decode cX12_loses 9 = .ok (.iconst (-1), 1) := by decide +kernel
theorem dX12_loses_10 : decode cX12_loses 10 = .ok (.iload_n 2, 1) := by decide +kernel
theorem dX12_loses_11 : decode cX12_loses 11 = .ok (.iconst 0, 1) := by decide +kernel
theorem dX12_loses_12 : decode cX12_loses 12 = .ok (.invokevirtual 356, 3) := by decide +kernel
theorem dX12_loses_15 : decode cX12_loses 15 = .ok (.aload_n 0, 1) := by decide +kernel
theorem dX12_loses_16 : decode cX12_loses 16 = .ok (.getfield 96, 3) := by decide +kernel
theorem dX12_loses_19 : decode cX12_loses 19 = .ok (.iload_n 3, 1) := by decide +kernel
theorem dX12_loses_20 : decode cX12_loses 20 = .ok (.iconst 0, 1) := by decide +kernel
theorem dX12_loses_21 : decode cX12_loses 21 = .ok (.aload_n 0, 1) := by decide +kernel
theorem dX12_loses_22 : decode cX12_loses 22 = .ok (.getfield 96, 3) := by decide +kernel
theorem dX12_loses_25 : decode cX12_loses 25 = .ok (.iload_n 3, 1) := by decide +kernel
theorem dX12_loses_26 : decode cX12_loses 26 = .ok (.iaload, 1) := by decide +kernel
theorem dX12_loses_27 : decode cX12_loses 27 = .ok (.aload_n 0, 1) := by decide +kernel
theorem dX12_loses_28 : decode cX12_loses 28 = .ok (.iconst 0, 1) := by decide +kernel
theorem dX12_loses_29 : decode cX12_loses 29 = .ok (.iconst 0, 1) := by decide +kernel
theorem dX12_loses_30 : decode cX12_loses 30 = .ok (.bipush 99, 2) := by decide +kernel
theorem dX12_loses_32 : decode cX12_loses 32 = .ok (.iconst 0, 1) := by decide +kernel
theorem dX12_loses_33 : decode cX12_loses 33 = .ok (.aload_n 0, 1) := by decide +kernel
theorem dX12_loses_34 : decode cX12_loses 34 = .ok (.getfield 96, 3) := by decide +kernel
theorem dX12_loses_37 : decode cX12_loses 37 = .ok (.iload_n 3, 1) := by decide +kernel
theorem dX12_loses_38 : decode cX12_loses 38 = .ok (.iaload, 1) := by decide +kernel
theorem dX12_loses_39 : decode cX12_loses 39 = .ok (.sipush 200, 3) := by decide +kernel
theorem dX12_loses_42 : decode cX12_loses 42 = .ok (.isub, 1) := by decide +kernel
theorem dX12_loses_43 : decode cX12_loses 43 = .ok (.bipush 50, 2) := by decide +kernel
theorem dX12_loses_45 : decode cX12_loses 45 = .ok (.idiv, 1) := by decide +kernel
theorem dX12_loses_46 : decode cX12_loses 46 = .ok (.invokestatic 370, 3) := by decide +kernel
theorem dX12_loses_49 : decode cX12_loses 49 = .ok (.invokevirtual 372, 3) := by decide +kernel
theorem dX12_loses_52 : decode cX12_loses 52 = .ok (.isub, 1) := by decide +kernel
theorem dX12_loses_53 : decode cX12_loses 53 = .ok (.invokestatic 370, 3) := by decide +kernel
theorem dX12_loses_56 : decode cX12_loses 56 = .ok (.iastore, 1) := by decide +kernel
theorem dX12_loses_57 : decode cX12_loses 57 = .ok (.return_, 1) := by decide +kernel
theorem dX12_sits_0 : decode cX12_sits 0 = .ok (.aload_n 0, 1) := by decide +kernel
theorem dX12_sits_1 : decode cX12_sits 1 = .ok (.getfield 102, 3) := by decide +kernel
theorem dX12_sits_4 : decode cX12_sits 4 = .ok (.bipush 6, 2) := by decide +kernel
theorem dX12_sits_6 : decode cX12_sits 6 = .ok (.iload_n 1, 1) := by decide +kernel
theorem dX12_sits_7 : decode cX12_sits 7 = .ok (.imul, 1) := by decide +kernel
theorem dX12_sits_8 : decode cX12_sits 8 = .ok (.iload_n 2, 1) := by decide +kernel
theorem dX12_sits_9 : decode cX12_sits 9 = .ok (.iadd, 1) := by decide +kernel
theorem dX12_sits_10 : decode cX12_sits 10 = .ok (.iload_n 3, 1) := by decide +kernel
theorem dX12_sits_11 : decode cX12_sits 11 = .ok (.iastore, 1) := by decide +kernel
theorem dX12_sits_12 : decode cX12_sits 12 = .ok (.aload_n 0, 1) := by decide +kernel
theorem dX12_sits_13 : decode cX12_sits 13 = .ok (.getfield 105, 3) := by decide +kernel
theorem dX12_sits_16 : decode cX12_sits 16 = .ok (.bipush 6, 2) := by decide +kernel
theorem dX12_sits_18 : decode cX12_sits 18 = .ok (.iload_n 1, 1) := by decide +kernel
theorem dX12_sits_19 : decode cX12_sits 19 = .ok (.imul, 1) := by decide +kernel
theorem dX12_sits_20 : decode cX12_sits 20 = .ok (.iload_n 2, 1) := by decide +kernel
theorem dX12_sits_21 : decode cX12_sits 21 = .ok (.iadd, 1) := by decide +kernel
theorem dX12_sits_22 : decode cX12_sits 22 = .ok (.iconst 0, 1) := by decide +kernel
theorem dX12_sits_23 : decode cX12_sits 23 = .ok (.iastore, 1) := by decide +kernel
theorem dX12_sits_24 : decode cX12_sits 24 = .ok (.return_, 1) := by decide +kernel
