theorem dL_law_0 : decode cL_law 0 = .ok (.new 8, 3) := by decide +kernel
theorem dL_law_3 : decode cL_law 3 = .ok (.dup, 1) := by decide +kernel
theorem dL_law_4 : decode cL_law 4 = .ok (.invokespecial 17, 3) := by decide +kernel
theorem dL_law_7 : decode cL_law 7 = .ok (.astore_n 1, 1) := by decide +kernel
theorem dL_law_8 : decode cL_law 8 = .ok (.new 18, 3) := by decide +kernel
theorem dL_law_11 : decode cL_law 11 = .ok (.dup, 1) := by decide +kernel
theorem dL_law_12 : decode cL_law 12 = .ok (.invokespecial 20, 3) := by decide +kernel
theorem dL_law_15 : decode cL_law 15 = .ok (.astore_n 2, 1) := by decide +kernel
theorem dL_law_16 : decode cL_law 16 = .ok (.iconst 1, 1) := by decide +kernel
theorem dL_law_17 : decode cL_law 17 = .ok (.newarray .long, 2) := by decide +kernel
theorem dL_law_19 : decode cL_law 19 = .ok (.astore_n 3, 1) := by decide +kernel
theorem dL_law_20 : decode cL_law 20 = .ok (.iconst 0, 1) := by decide +kernel
theorem dL_law_21 : decode cL_law 21 = .ok (.istore 4, 2) := by decide +kernel
theorem dL_law_23 : decode cL_law 23 = .ok (.iload 4, 2) := by decide +kernel
theorem dL_law_25 : decode cL_law 25 = .ok (.aload_n 0, 1) := by decide +kernel
theorem dL_law_26 : decode cL_law 26 = .ok (.arraylength, 1) := by decide +kernel
theorem dL_law_27 : decode cL_law 27 = .ok (.bipush 6, 2) := by decide +kernel
theorem dL_law_29 : decode cL_law 29 = .ok (.isub, 1) := by decide +kernel
theorem dL_law_30 : decode cL_law 30 = .ok (.if_icmp .gt 1514, 3) := by decide +kernel
theorem dL_law_33 : decode cL_law 33 = .ok (.aload_n 0, 1) := by decide +kernel
theorem dL_law_34 : decode cL_law 34 = .ok (.iload 4, 2) := by decide +kernel
theorem dL_law_36 : decode cL_law 36 = .ok (.iaload, 1) := by decide +kernel
theorem dL_law_37 : decode cL_law 37 = .ok (.bipush 63, 2) := by decide +kernel
theorem dL_law_39 : decode cL_law 39 = .ok (.iand, 1) := by decide +kernel
theorem dL_law_40 : decode cL_law 40 = .ok (.tableswitch 1498 0 36 #[164, 237, 262, 287, 324, 392, 429, 466, 516, 553, 602, 639, 664, 689, 738, 775, 800, 825, 862, 887, 924, 949, 998, 1023, 1060, 1109, 1147, 1224, 1249, 1274, 1299, 1336, 1385, 1434, 1447, 1460, 1473], 164) := by decide +kernel
theorem dL_law_204 : decode cL_law 204 = .ok (.aload_n 1, 1) := by decide +kernel
theorem dL_law_205 : decode cL_law 205 = .ok (.aload_n 0, 1) := by decide +kernel
theorem dL_law_206 : decode cL_law 206 = .ok (.iload 4, 2) := by decide +kernel
theorem dL_law_208 : decode cL_law 208 = .ok (.iconst 1, 1) := by decide +kernel
theorem dL_law_209 : decode cL_law 209 = .ok (.iadd, 1) := by decide +kernel
theorem dL_law_210 : decode cL_law 210 = .ok (.iaload, 1) := by decide +kernel
theorem dL_law_211 : decode cL_law 211 = .ok (.aload_n 0, 1) := by decide +kernel
theorem dL_law_212 : decode cL_law 212 = .ok (.iload 4, 2) := by decide +kernel
theorem dL_law_214 : decode cL_law 214 = .ok (.iconst 2, 1) := by decide +kernel
theorem dL_law_215 : decode cL_law 215 = .ok (.iadd, 1) := by decide +kernel
theorem dL_law_216 : decode cL_law 216 = .ok (.iaload, 1) := by decide +kernel
theorem dL_law_217 : decode cL_law 217 = .ok (.aload_n 0, 1) := by decide +kernel
theorem dL_law_218 : decode cL_law 218 = .ok (.iload 4, 2) := by decide +kernel
theorem dL_law_220 : decode cL_law 220 = .ok (.iconst 3, 1) := by decide +kernel
theorem dL_law_221 : decode cL_law 221 = .ok (.iadd, 1) := by decide +kernel
theorem dL_law_222 : decode cL_law 222 = .ok (.iaload, 1) := by decide +kernel
theorem dL_law_223 : decode cL_law 223 = .ok (.aload_n 0, 1) := by decide +kernel
theorem dL_law_224 : decode cL_law 224 = .ok (.iload 4, 2) := by decide +kernel
theorem dL_law_226 : decode cL_law 226 = .ok (.iconst 4, 1) := by decide +kernel
theorem dL_law_227 : decode cL_law 227 = .ok (.iadd, 1) := by decide +kernel
theorem dL_law_228 : decode cL_law 228 = .ok (.iaload, 1) := by decide +kernel
theorem dL_law_229 : decode cL_law 229 = .ok (.aload_n 0, 1) := by decide +kernel
theorem dL_law_230 : decode cL_law 230 = .ok (.iload 4, 2) := by decide +kernel
theorem dL_law_232 : decode cL_law 232 = .ok (.iconst 5, 1) := by decide +kernel
theorem dL_law_233 : decode cL_law 233 = .ok (.iadd, 1) := by decide +kernel
theorem dL_law_234 : decode cL_law 234 = .ok (.iaload, 1) := by decide +kernel
theorem dL_law_235 : decode cL_law 235 = .ok (.invokevirtual 21, 3) := by decide +kernel
theorem dL_law_238 : decode cL_law 238 = .ok (.aload_n 2, 1) := by decide +kernel
theorem dL_law_239 : decode cL_law 239 = .ok (.aload_n 0, 1) := by decide +kernel
theorem dL_law_240 : decode cL_law 240 = .ok (.iload 4, 2) := by decide +kernel
theorem dL_law_242 : decode cL_law 242 = .ok (.iconst 1, 1) := by decide +kernel
theorem dL_law_243 : decode cL_law 243 = .ok (.iadd, 1) := by decide +kernel
theorem dL_law_244 : decode cL_law 244 = .ok (.iaload, 1) := by decide +kernel
theorem dL_law_245 : decode cL_law 245 = .ok (.aload_n 0, 1) := by decide +kernel
theorem dL_law_246 : decode cL_law 246 = .ok (.iload 4, 2) := by decide +kernel
theorem dL_law_248 : decode cL_law 248 = .ok (.iconst 2, 1) := by decide +kernel
theorem dL_law_249 : decode cL_law 249 = .ok (.iadd, 1) := by decide +kernel
theorem dL_law_250 : decode cL_law 250 = .ok (.iaload, 1) := by decide +kernel
theorem dL_law_251 : decode cL_law 251 = .ok (.aload_n 0, 1) := by decide +kernel
theorem dL_law_252 : decode cL_law 252 = .ok (.iload 4, 2) := by decide +kernel
theorem dL_law_254 : decode cL_law 254 = .ok (.iconst 3, 1) := by decide +kernel
theorem dL_law_255 : decode cL_law 255 = .ok (.iadd, 1) := by decide +kernel
theorem dL_law_256 : decode cL_law 256 = .ok (.iaload, 1) := by decide +kernel
theorem dL_law_257 : decode cL_law 257 = .ok (.aload_n 0, 1) := by decide +kernel
theorem dL_law_258 : decode cL_law 258 = .ok (.iload 4, 2) := by decide +kernel
theorem dL_law_260 : decode cL_law 260 = .ok (.iconst 4, 1) := by decide +kernel
theorem dL_law_261 : decode cL_law 261 = .ok (.iadd, 1) := by decide +kernel
theorem dL_law_262 : decode cL_law 262 = .ok (.iaload, 1) := by decide +kernel
theorem dL_law_263 : decode cL_law 263 = .ok (.aload_n 0, 1) := by decide +kernel
theorem dL_law_264 : decode cL_law 264 = .ok (.iload 4, 2) := by decide +kernel
theorem dL_law_266 : decode cL_law 266 = .ok (.iconst 5, 1) := by decide +kernel
theorem dL_law_267 : decode cL_law 267 = .ok (.iadd, 1) := by decide +kernel
theorem dL_law_268 : decode cL_law 268 = .ok (.iaload, 1) := by decide +kernel
theorem dL_law_269 : decode cL_law 269 = .ok (.invokevirtual 25, 3) := by decide +kernel
theorem dL_law_272 : decode cL_law 272 = .ok (.if_icmp .eq 1266, 3) := by decide +kernel
theorem dL_law_275 : decode cL_law 275 = .ok (.iconst 0, 1) := by decide +kernel
theorem dL_law_276 : decode cL_law 276 = .ok (.ireturn, 1) := by decide +kernel
theorem dL_law_277 : decode cL_law 277 = .ok (.aload_n 1, 1) := by decide +kernel
theorem dL_law_278 : decode cL_law 278 = .ok (.aload_n 0, 1) := by decide +kernel
theorem dL_law_279 : decode cL_law 279 = .ok (.iload 4, 2) := by decide +kernel
theorem dL_law_281 : decode cL_law 281 = .ok (.iconst 1, 1) := by decide +kernel
theorem dL_law_282 : decode cL_law 282 = .ok (.iadd, 1) := by decide +kernel
theorem dL_law_283 : decode cL_law 283 = .ok (.iaload, 1) := by decide +kernel
theorem dL_law_284 : decode cL_law 284 = .ok (.invokevirtual 26, 3) := by decide +kernel
theorem dL_law_287 : decode cL_law 287 = .ok (.aload_n 2, 1) := by decide +kernel
theorem dL_law_288 : decode cL_law 288 = .ok (.aload_n 0, 1) := by decide +kernel
theorem dL_law_289 : decode cL_law 289 = .ok (.iload 4, 2) := by decide +kernel
theorem dL_law_291 : decode cL_law 291 = .ok (.iconst 1, 1) := by decide +kernel
theorem dL_law_292 : decode cL_law 292 = .ok (.iadd, 1) := by decide +kernel
theorem dL_law_293 : decode cL_law 293 = .ok (.iaload, 1) := by decide +kernel
theorem dL_law_294 : decode cL_law 294 = .ok (.invokevirtual 30, 3) := by decide +kernel
theorem dL_law_297 : decode cL_law 297 = .ok (.if_icmp .eq 1241, 3) := by decide +kernel
theorem dL_law_300 : decode cL_law 300 = .ok (.iconst 0, 1) := by decide +kernel
theorem dL_law_301 : decode cL_law 301 = .ok (.ireturn, 1) := by decide +kernel
theorem dL_law_302 : decode cL_law 302 = .ok (.aload_n 1, 1) := by decide +kernel
theorem dL_law_303 : decode cL_law 303 = .ok (.aload_n 0, 1) := by decide +kernel
theorem dL_law_304 : decode cL_law 304 = .ok (.iload 4, 2) := by decide +kernel
theorem dL_law_306 : decode cL_law 306 = .ok (.iconst 1, 1) := by decide +kernel
theorem dL_law_307 : decode cL_law 307 = .ok (.iadd, 1) := by decide +kernel
theorem dL_law_308 : decode cL_law 308 = .ok (.iaload, 1) := by decide +kernel
theorem dL_law_309 : decode cL_law 309 = .ok (.invokevirtual 31, 3) := by decide +kernel
theorem dL_law_312 : decode cL_law 312 = .ok (.aload_n 2, 1) := by decide +kernel
theorem dL_law_313 : decode cL_law 313 = .ok (.aload_n 0, 1) := by decide +kernel
theorem dL_law_314 : decode cL_law 314 = .ok (.iload 4, 2) := by decide +kernel
theorem dL_law_316 : decode cL_law 316 = .ok (.iconst 1, 1) := by decide +kernel
theorem dL_law_317 : decode cL_law 317 = .ok (.iadd, 1) := by decide +kernel
theorem dL_law_318 : decode cL_law 318 = .ok (.iaload, 1) := by decide +kernel
theorem dL_law_319 : decode cL_law 319 = .ok (.invokevirtual 34, 3) := by decide +kernel
theorem dL_law_322 : decode cL_law 322 = .ok (.if_icmp .eq 1216, 3) := by decide +kernel
theorem dL_law_325 : decode cL_law 325 = .ok (.iconst 0, 1) := by decide +kernel
theorem dL_law_326 : decode cL_law 326 = .ok (.ireturn, 1) := by decide +kernel
theorem dL_law_327 : decode cL_law 327 = .ok (.aload_n 1, 1) := by decide +kernel
theorem dL_law_328 : decode cL_law 328 = .ok (.aload_n 0, 1) := by decide +kernel
theorem dL_law_329 : decode cL_law 329 = .ok (.iload 4, 2) := by decide +kernel
theorem dL_law_331 : decode cL_law 331 = .ok (.iconst 1, 1) := by decide +kernel
theorem dL_law_332 : decode cL_law 332 = .ok (.iadd, 1) := by decide +kernel
theorem dL_law_333 : decode cL_law 333 = .ok (.iaload, 1) := by decide +kernel
theorem dL_law_334 : decode cL_law 334 = .ok (.aload_n 0, 1) := by decide +kernel
theorem dL_law_335 : decode cL_law 335 = .ok (.iload 4, 2) := by decide +kernel
theorem dL_law_337 : decode cL_law 337 = .ok (.iconst 2, 1) := by decide +kernel
theorem dL_law_338 : decode cL_law 338 = .ok (.iadd, 1) := by decide +kernel
theorem dL_law_339 : decode cL_law 339 = .ok (.iaload, 1) := by decide +kernel
theorem dL_law_340 : decode cL_law 340 = .ok (.invokevirtual 35, 3) := by decide +kernel
theorem dL_law_343 : decode cL_law 343 = .ok (.aload_n 2, 1) := by decide +kernel
theorem dL_law_344 : decode cL_law 344 = .ok (.aload_n 0, 1) := by decide +kernel
theorem dL_law_345 : decode cL_law 345 = .ok (.iload 4, 2) := by decide +kernel
theorem dL_law_347 : decode cL_law 347 = .ok (.iconst 1, 1) := by decide +kernel
theorem dL_law_348 : decode cL_law 348 = .ok (.iadd, 1) := by decide +kernel
theorem dL_law_349 : decode cL_law 349 = .ok (.iaload, 1) := by decide +kernel
theorem dL_law_350 : decode cL_law 350 = .ok (.aload_n 0, 1) := by decide +kernel
theorem dL_law_351 : decode cL_law 351 = .ok (.iload 4, 2) := by decide +kernel
theorem dL_law_353 : decode cL_law 353 = .ok (.iconst 2, 1) := by decide +kernel
theorem dL_law_354 : decode cL_law 354 = .ok (.iadd, 1) := by decide +kernel
theorem dL_law_355 : decode cL_law 355 = .ok (.iaload, 1) := by decide +kernel
theorem dL_law_356 : decode cL_law 356 = .ok (.invokevirtual 38, 3) := by decide +kernel
theorem dL_law_359 : decode cL_law 359 = .ok (.if_icmp .eq 1179, 3) := by decide +kernel
theorem dL_law_362 : decode cL_law 362 = .ok (.iconst 0, 1) := by decide +kernel
theorem dL_law_363 : decode cL_law 363 = .ok (.ireturn, 1) := by decide +kernel
theorem dL_law_364 : decode cL_law 364 = .ok (.aload_n 1, 1) := by decide +kernel
theorem dL_law_365 : decode cL_law 365 = .ok (.aload_n 0, 1) := by decide +kernel
theorem dL_law_366 : decode cL_law 366 = .ok (.iload 4, 2) := by decide +kernel
theorem dL_law_368 : decode cL_law 368 = .ok (.iconst 1, 1) := by decide +kernel
theorem dL_law_369 : decode cL_law 369 = .ok (.iadd, 1) := by decide +kernel
theorem dL_law_370 : decode cL_law 370 = .ok (.iaload, 1) := by decide +kernel
theorem dL_law_371 : decode cL_law 371 = .ok (.aload_n 0, 1) := by decide +kernel
theorem dL_law_372 : decode cL_law 372 = .ok (.iload 4, 2) := by decide +kernel
theorem dL_law_374 : decode cL_law 374 = .ok (.iconst 2, 1) := by decide +kernel
theorem dL_law_375 : decode cL_law 375 = .ok (.iadd, 1) := by decide +kernel
theorem dL_law_376 : decode cL_law 376 = .ok (.iaload, 1) := by decide +kernel
theorem dL_law_377 : decode cL_law 377 = .ok (.aload_n 3, 1) := by decide +kernel
theorem dL_law_378 : decode cL_law 378 = .ok (.invokestatic 39, 3) := by decide +kernel
theorem dL_law_381 : decode cL_law 381 = .ok (.istore 5, 2) := by decide +kernel
theorem dL_law_383 : decode cL_law 383 = .ok (.aload_n 2, 1) := by decide +kernel
theorem dL_law_384 : decode cL_law 384 = .ok (.aload_n 0, 1) := by decide +kernel
theorem dL_law_385 : decode cL_law 385 = .ok (.iload 4, 2) := by decide +kernel
theorem dL_law_387 : decode cL_law 387 = .ok (.iconst 1, 1) := by decide +kernel
theorem dL_law_388 : decode cL_law 388 = .ok (.iadd, 1) := by decide +kernel
theorem dL_law_389 : decode cL_law 389 = .ok (.iaload, 1) := by decide +kernel
theorem dL_law_390 : decode cL_law 390 = .ok (.aload_n 0, 1) := by decide +kernel
theorem dL_law_391 : decode cL_law 391 = .ok (.iload 4, 2) := by decide +kernel
theorem dL_law_393 : decode cL_law 393 = .ok (.iconst 2, 1) := by decide +kernel
theorem dL_law_394 : decode cL_law 394 = .ok (.iadd, 1) := by decide +kernel
theorem dL_law_395 : decode cL_law 395 = .ok (.iaload, 1) := by decide +kernel
theorem dL_law_396 : decode cL_law 396 = .ok (.invokevirtual 44, 3) := by decide +kernel
theorem dL_law_399 : decode cL_law 399 = .ok (.istore 6, 2) := by decide +kernel
theorem dL_law_401 : decode cL_law 401 = .ok (.aload_n 2, 1) := by decide +kernel
theorem dL_law_402 : decode cL_law 402 = .ok (.invokevirtual 45, 3) := by decide +kernel
theorem dL_law_405 : decode cL_law 405 = .ok (.iload 5, 2) := by decide +kernel
theorem dL_law_407 : decode cL_law 407 = .ok (.if_icmp .eq 5, 3) := by decide +kernel
theorem dL_law_410 : decode cL_law 410 = .ok (.iconst 0, 1) := by decide +kernel
theorem dL_law_411 : decode cL_law 411 = .ok (.ireturn, 1) := by decide +kernel
theorem dL_law_412 : decode cL_law 412 = .ok (.iload 5, 2) := by decide +kernel
theorem dL_law_414 : decode cL_law 414 = .ok (.ifCond .ne 15, 3) := by decide +kernel
theorem dL_law_417 : decode cL_law 417 = .ok (.aload_n 3, 1) := by decide +kernel
theorem dL_law_418 : decode cL_law 418 = .ok (.iconst 0, 1) := by decide +kernel
theorem dL_law_419 : decode cL_law 419 = .ok (.laload, 1) := by decide +kernel
theorem dL_law_420 : decode cL_law 420 = .ok (.iload 6, 2) := by decide +kernel
theorem dL_law_422 : decode cL_law 422 = .ok (.i2l, 1) := by decide +kernel
theorem dL_law_423 : decode cL_law 423 = .ok (.lcmp, 1) := by decide +kernel
theorem dL_law_424 : decode cL_law 424 = .ok (.ifCond .eq 5, 3) := by decide +kernel
theorem dL_law_427 : decode cL_law 427 = .ok (.iconst 0, 1) := by decide +kernel
theorem dL_law_428 : decode cL_law 428 = .ok (.ireturn, 1) := by decide +kernel
theorem dL_law_429 : decode cL_law 429 = .ok (.goto 1109, 3) := by decide +kernel
theorem dL_law_432 : decode cL_law 432 = .ok (.aload_n 1, 1) := by decide +kernel
theorem dL_law_433 : decode cL_law 433 = .ok (.aload_n 0, 1) := by decide +kernel
theorem dL_law_434 : decode cL_law 434 = .ok (.iload 4, 2) := by decide +kernel
theorem dL_law_436 : decode cL_law 436 = .ok (.iconst 1, 1) := by decide +kernel
theorem dL_law_437 : decode cL_law 437 = .ok (.iadd, 1) := by decide +kernel
theorem dL_law_438 : decode cL_law 438 = .ok (.iaload, 1) := by decide +kernel
theorem dL_law_439 : decode cL_law 439 = .ok (.aload_n 0, 1) := by decide +kernel
theorem dL_law_440 : decode cL_law 440 = .ok (.iload 4, 2) := by decide +kernel
theorem dL_law_442 : decode cL_law 442 = .ok (.iconst 2, 1) := by decide +kernel
theorem dL_law_443 : decode cL_law 443 = .ok (.iadd, 1) := by decide +kernel
theorem dL_law_444 : decode cL_law 444 = .ok (.iaload, 1) := by decide +kernel
theorem dL_law_445 : decode cL_law 445 = .ok (.invokevirtual 49, 3) := by decide +kernel
theorem dL_law_448 : decode cL_law 448 = .ok (.aload_n 2, 1) := by decide +kernel
theorem dL_law_449 : decode cL_law 449 = .ok (.aload_n 0, 1) := by decide +kernel
theorem dL_law_450 : decode cL_law 450 = .ok (.iload 4, 2) := by decide +kernel
theorem dL_law_452 : decode cL_law 452 = .ok (.iconst 1, 1) := by decide +kernel
theorem dL_law_453 : decode cL_law 453 = .ok (.iadd, 1) := by decide +kernel
theorem dL_law_454 : decode cL_law 454 = .ok (.iaload, 1) := by decide +kernel
theorem dL_law_455 : decode cL_law 455 = .ok (.aload_n 0, 1) := by decide +kernel
theorem dL_law_456 : decode cL_law 456 = .ok (.iload 4, 2) := by decide +kernel
theorem dL_law_458 : decode cL_law 458 = .ok (.iconst 2, 1) := by decide +kernel
theorem dL_law_459 : decode cL_law 459 = .ok (.iadd, 1) := by decide +kernel
theorem dL_law_460 : decode cL_law 460 = .ok (.iaload, 1) := by decide +kernel
theorem dL_law_461 : decode cL_law 461 = .ok (.invokevirtual 52, 3) := by decide +kernel
theorem dL_law_464 : decode cL_law 464 = .ok (.if_icmp .eq 1074, 3) := by decide +kernel
theorem dL_law_467 : decode cL_law 467 = .ok (.iconst 0, 1) := by decide +kernel
theorem dL_law_468 : decode cL_law 468 = .ok (.ireturn, 1) := by decide +kernel
theorem dL_law_469 : decode cL_law 469 = .ok (.aload_n 1, 1) := by decide +kernel
theorem dL_law_470 : decode cL_law 470 = .ok (.aload_n 0, 1) := by decide +kernel
theorem dL_law_471 : decode cL_law 471 = .ok (.iload 4, 2) := by decide +kernel
theorem dL_law_473 : decode cL_law 473 = .ok (.iconst 1, 1) := by decide +kernel
theorem dL_law_474 : decode cL_law 474 = .ok (.iadd, 1) := by decide +kernel
theorem dL_law_475 : decode cL_law 475 = .ok (.iaload, 1) := by decide +kernel
theorem dL_law_476 : decode cL_law 476 = .ok (.aload_n 0, 1) := by decide +kernel
theorem dL_law_477 : decode cL_law 477 = .ok (.iload 4, 2) := by decide +kernel
theorem dL_law_479 : decode cL_law 479 = .ok (.iconst 2, 1) := by decide +kernel
theorem dL_law_480 : decode cL_law 480 = .ok (.iadd, 1) := by decide +kernel
theorem dL_law_481 : decode cL_law 481 = .ok (.iaload, 1) := by decide +kernel
theorem dL_law_482 : decode cL_law 482 = .ok (.invokevirtual 53, 3) := by decide +kernel
theorem dL_law_485 : decode cL_law 485 = .ok (.aload_n 2, 1) := by decide +kernel
theorem dL_law_486 : decode cL_law 486 = .ok (.aload_n 0, 1) := by decide +kernel
theorem dL_law_487 : decode cL_law 487 = .ok (.iload 4, 2) := by decide +kernel
theorem dL_law_489 : decode cL_law 489 = .ok (.iconst 1, 1) := by decide +kernel
theorem dL_law_490 : decode cL_law 490 = .ok (.iadd, 1) := by decide +kernel
theorem dL_law_491 : decode cL_law 491 = .ok (.iaload, 1) := by decide +kernel
theorem dL_law_492 : decode cL_law 492 = .ok (.aload_n 0, 1) := by decide +kernel
theorem dL_law_493 : decode cL_law 493 = .ok (.iload 4, 2) := by decide +kernel
theorem dL_law_495 : decode cL_law 495 = .ok (.iconst 2, 1) := by decide +kernel
theorem dL_law_496 : decode cL_law 496 = .ok (.iadd, 1) := by decide +kernel
theorem dL_law_497 : decode cL_law 497 = .ok (.iaload, 1) := by decide +kernel
theorem dL_law_498 : decode cL_law 498 = .ok (.invokevirtual 56, 3) := by decide +kernel
theorem dL_law_501 : decode cL_law 501 = .ok (.if_icmp .eq 1037, 3) := by decide +kernel
theorem dL_law_504 : decode cL_law 504 = .ok (.iconst 0, 1) := by decide +kernel
theorem dL_law_505 : decode cL_law 505 = .ok (.ireturn, 1) := by decide +kernel
theorem dL_law_506 : decode cL_law 506 = .ok (.aload_n 1, 1) := by decide +kernel
theorem dL_law_507 : decode cL_law 507 = .ok (.aload_n 0, 1) := by decide +kernel
theorem dL_law_508 : decode cL_law 508 = .ok (.iload 4, 2) := by decide +kernel
theorem dL_law_510 : decode cL_law 510 = .ok (.iconst 1, 1) := by decide +kernel
theorem dL_law_511 : decode cL_law 511 = .ok (.iadd, 1) := by decide +kernel
theorem dL_law_512 : decode cL_law 512 = .ok (.iaload, 1) := by decide +kernel
theorem dL_law_513 : decode cL_law 513 = .ok (.aload_n 0, 1) := by decide +kernel
theorem dL_law_514 : decode cL_law 514 = .ok (.iload 4, 2) := by decide +kernel
theorem dL_law_516 : decode cL_law 516 = .ok (.iconst 2, 1) := by decide +kernel
theorem dL_law_517 : decode cL_law 517 = .ok (.iadd, 1) := by decide +kernel
theorem dL_law_518 : decode cL_law 518 = .ok (.iaload, 1) := by decide +kernel
theorem dL_law_519 : decode cL_law 519 = .ok (.aload_n 0, 1) := by decide +kernel
theorem dL_law_520 : decode cL_law 520 = .ok (.iload 4, 2) := by decide +kernel
theorem dL_law_522 : decode cL_law 522 = .ok (.iconst 3, 1) := by decide +kernel
theorem dL_law_523 : decode cL_law 523 = .ok (.iadd, 1) := by decide +kernel
theorem dL_law_524 : decode cL_law 524 = .ok (.iaload, 1) := by decide +kernel
theorem dL_law_525 : decode cL_law 525 = .ok (.invokevirtual 57, 3) := by decide +kernel
theorem dL_law_528 : decode cL_law 528 = .ok (.aload_n 2, 1) := by decide +kernel
theorem dL_law_529 : decode cL_law 529 = .ok (.aload_n 0, 1) := by decide +kernel
theorem dL_law_530 : decode cL_law 530 = .ok (.iload 4, 2) := by decide +kernel
theorem dL_law_532 : decode cL_law 532 = .ok (.iconst 1, 1) := by decide +kernel
theorem dL_law_533 : decode cL_law 533 = .ok (.iadd, 1) := by decide +kernel
theorem dL_law_534 : decode cL_law 534 = .ok (.iaload, 1) := by decide +kernel
theorem dL_law_535 : decode cL_law 535 = .ok (.aload_n 0, 1) := by decide +kernel
theorem dL_law_536 : decode cL_law 536 = .ok (.iload 4, 2) := by decide +kernel
theorem dL_law_538 : decode cL_law 538 = .ok (.iconst 2, 1) := by decide +kernel
theorem dL_law_539 : decode cL_law 539 = .ok (.iadd, 1) := by decide +kernel
theorem dL_law_540 : decode cL_law 540 = .ok (.iaload, 1) := by decide +kernel
theorem dL_law_541 : decode cL_law 541 = .ok (.aload_n 0, 1) := by decide +kernel
theorem dL_law_542 : decode cL_law 542 = .ok (.iload 4, 2) := by decide +kernel
theorem dL_law_544 : decode cL_law 544 = .ok (.iconst 3, 1) := by decide +kernel
theorem dL_law_545 : decode cL_law 545 = .ok (.iadd, 1) := by decide +kernel
theorem dL_law_546 : decode cL_law 546 = .ok (.iaload, 1) := by decide +kernel
theorem dL_law_547 : decode cL_law 547 = .ok (.invokevirtual 61, 3) := by decide +kernel
theorem dL_law_550 : decode cL_law 550 = .ok (.lcmp, 1) := by decide +kernel
theorem dL_law_551 : decode cL_law 551 = .ok (.ifCond .eq 987, 3) := by decide +kernel
theorem dL_law_554 : decode cL_law 554 = .ok (.iconst 0, 1) := by decide +kernel
theorem dL_law_555 : decode cL_law 555 = .ok (.ireturn, 1) := by decide +kernel
theorem dL_law_556 : decode cL_law 556 = .ok (.aload_n 1, 1) := by decide +kernel
theorem dL_law_557 : decode cL_law 557 = .ok (.aload_n 0, 1) := by decide +kernel
theorem dL_law_558 : decode cL_law 558 = .ok (.iload 4, 2) := by decide +kernel
theorem dL_law_560 : decode cL_law 560 = .ok (.iconst 1, 1) := by decide +kernel
theorem dL_law_561 : decode cL_law 561 = .ok (.iadd, 1) := by decide +kernel
theorem dL_law_562 : decode cL_law 562 = .ok (.iaload, 1) := by decide +kernel
theorem dL_law_563 : decode cL_law 563 = .ok (.aload_n 0, 1) := by decide +kernel
theorem dL_law_564 : decode cL_law 564 = .ok (.iload 4, 2) := by decide +kernel
theorem dL_law_566 : decode cL_law 566 = .ok (.iconst 2, 1) := by decide +kernel
theorem dL_law_567 : decode cL_law 567 = .ok (.iadd, 1) := by decide +kernel
theorem dL_law_568 : decode cL_law 568 = .ok (.iaload, 1) := by decide +kernel
theorem dL_law_569 : decode cL_law 569 = .ok (.invokevirtual 62, 3) := by decide +kernel
theorem dL_law_572 : decode cL_law 572 = .ok (.aload_n 2, 1) := by decide +kernel
theorem dL_law_573 : decode cL_law 573 = .ok (.aload_n 0, 1) := by decide +kernel
theorem dL_law_574 : decode cL_law 574 = .ok (.iload 4, 2) := by decide +kernel
theorem dL_law_576 : decode cL_law 576 = .ok (.iconst 1, 1) := by decide +kernel
theorem dL_law_577 : decode cL_law 577 = .ok (.iadd, 1) := by decide +kernel
theorem dL_law_578 : decode cL_law 578 = .ok (.iaload, 1) := by decide +kernel
theorem dL_law_579 : decode cL_law 579 = .ok (.aload_n 0, 1) := by decide +kernel
theorem dL_law_580 : decode cL_law 580 = .ok (.iload 4, 2) := by decide +kernel
theorem dL_law_582 : decode cL_law 582 = .ok (.iconst 2, 1) := by decide +kernel
theorem dL_law_583 : decode cL_law 583 = .ok (.iadd, 1) := by decide +kernel
theorem dL_law_584 : decode cL_law 584 = .ok (.iaload, 1) := by decide +kernel
theorem dL_law_585 : decode cL_law 585 = .ok (.invokevirtual 65, 3) := by decide +kernel
theorem dL_law_588 : decode cL_law 588 = .ok (.if_icmp .eq 950, 3) := by decide +kernel
theorem dL_law_591 : decode cL_law 591 = .ok (.iconst 0, 1) := by decide +kernel
theorem dL_law_592 : decode cL_law 592 = .ok (.ireturn, 1) := by decide +kernel
theorem dL_law_593 : decode cL_law 593 = .ok (.aload_n 1, 1) := by decide +kernel
theorem dL_law_594 : decode cL_law 594 = .ok (.aload_n 0, 1) := by decide +kernel
theorem dL_law_595 : decode cL_law 595 = .ok (.iload 4, 2) := by decide +kernel
theorem dL_law_597 : decode cL_law 597 = .ok (.iconst 1, 1) := by decide +kernel
theorem dL_law_598 : decode cL_law 598 = .ok (.iadd, 1) := by decide +kernel
theorem dL_law_599 : decode cL_law 599 = .ok (.iaload, 1) := by decide +kernel
theorem dL_law_600 : decode cL_law 600 = .ok (.aload_n 0, 1) := by decide +kernel
theorem dL_law_601 : decode cL_law 601 = .ok (.iload 4, 2) := by decide +kernel
theorem dL_law_603 : decode cL_law 603 = .ok (.iconst 2, 1) := by decide +kernel
theorem dL_law_604 : decode cL_law 604 = .ok (.iadd, 1) := by decide +kernel
theorem dL_law_605 : decode cL_law 605 = .ok (.iaload, 1) := by decide +kernel
theorem dL_law_606 : decode cL_law 606 = .ok (.aload_n 0, 1) := by decide +kernel
theorem dL_law_607 : decode cL_law 607 = .ok (.iload 4, 2) := by decide +kernel
theorem dL_law_609 : decode cL_law 609 = .ok (.iconst 3, 1) := by decide +kernel
theorem dL_law_610 : decode cL_law 610 = .ok (.iadd, 1) := by decide +kernel
theorem dL_law_611 : decode cL_law 611 = .ok (.iaload, 1) := by decide +kernel
theorem dL_law_612 : decode cL_law 612 = .ok (.invokevirtual 66, 3) := by decide +kernel
theorem dL_law_615 : decode cL_law 615 = .ok (.aload_n 2, 1) := by decide +kernel
theorem dL_law_616 : decode cL_law 616 = .ok (.aload_n 0, 1) := by decide +kernel
theorem dL_law_617 : decode cL_law 617 = .ok (.iload 4, 2) := by decide +kernel
theorem dL_law_619 : decode cL_law 619 = .ok (.iconst 1, 1) := by decide +kernel
theorem dL_law_620 : decode cL_law 620 = .ok (.iadd, 1) := by decide +kernel
theorem dL_law_621 : decode cL_law 621 = .ok (.iaload, 1) := by decide +kernel
theorem dL_law_622 : decode cL_law 622 = .ok (.aload_n 0, 1) := by decide +kernel
theorem dL_law_623 : decode cL_law 623 = .ok (.iload 4, 2) := by decide +kernel
theorem dL_law_625 : decode cL_law 625 = .ok (.iconst 2, 1) := by decide +kernel
theorem dL_law_626 : decode cL_law 626 = .ok (.iadd, 1) := by decide +kernel
theorem dL_law_627 : decode cL_law 627 = .ok (.iaload, 1) := by decide +kernel
theorem dL_law_628 : decode cL_law 628 = .ok (.aload_n 0, 1) := by decide +kernel
theorem dL_law_629 : decode cL_law 629 = .ok (.iload 4, 2) := by decide +kernel
theorem dL_law_631 : decode cL_law 631 = .ok (.iconst 3, 1) := by decide +kernel
theorem dL_law_632 : decode cL_law 632 = .ok (.iadd, 1) := by decide +kernel
theorem dL_law_633 : decode cL_law 633 = .ok (.iaload, 1) := by decide +kernel
theorem dL_law_634 : decode cL_law 634 = .ok (.invokevirtual 70, 3) := by decide +kernel
theorem dL_law_637 : decode cL_law 637 = .ok (.if_icmp .eq 901, 3) := by decide +kernel
theorem dL_law_640 : decode cL_law 640 = .ok (.iconst 0, 1) := by decide +kernel
theorem dL_law_641 : decode cL_law 641 = .ok (.ireturn, 1) := by decide +kernel
theorem dL_law_642 : decode cL_law 642 = .ok (.aload_n 1, 1) := by decide +kernel
theorem dL_law_643 : decode cL_law 643 = .ok (.aload_n 0, 1) := by decide +kernel
theorem dL_law_644 : decode cL_law 644 = .ok (.iload 4, 2) := by decide +kernel
theorem dL_law_646 : decode cL_law 646 = .ok (.iconst 1, 1) := by decide +kernel
theorem dL_law_647 : decode cL_law 647 = .ok (.iadd, 1) := by decide +kernel
theorem dL_law_648 : decode cL_law 648 = .ok (.iaload, 1) := by decide +kernel
theorem dL_law_649 : decode cL_law 649 = .ok (.aload_n 0, 1) := by decide +kernel
theorem dL_law_650 : decode cL_law 650 = .ok (.iload 4, 2) := by decide +kernel
theorem dL_law_652 : decode cL_law 652 = .ok (.iconst 2, 1) := by decide +kernel
theorem dL_law_653 : decode cL_law 653 = .ok (.iadd, 1) := by decide +kernel
theorem dL_law_654 : decode cL_law 654 = .ok (.iaload, 1) := by decide +kernel
theorem dL_law_655 : decode cL_law 655 = .ok (.invokevirtual 71, 3) := by decide +kernel
theorem dL_law_658 : decode cL_law 658 = .ok (.aload_n 2, 1) := by decide +kernel
theorem dL_law_659 : decode cL_law 659 = .ok (.aload_n 0, 1) := by decide +kernel
theorem dL_law_660 : decode cL_law 660 = .ok (.iload 4, 2) := by decide +kernel
theorem dL_law_662 : decode cL_law 662 = .ok (.iconst 1, 1) := by decide +kernel
theorem dL_law_663 : decode cL_law 663 = .ok (.iadd, 1) := by decide +kernel
theorem dL_law_664 : decode cL_law 664 = .ok (.iaload, 1) := by decide +kernel
theorem dL_law_665 : decode cL_law 665 = .ok (.aload_n 0, 1) := by decide +kernel
theorem dL_law_666 : decode cL_law 666 = .ok (.iload 4, 2) := by decide +kernel
theorem dL_law_668 : decode cL_law 668 = .ok (.iconst 2, 1) := by decide +kernel
theorem dL_law_669 : decode cL_law 669 = .ok (.iadd, 1) := by decide +kernel
theorem dL_law_670 : decode cL_law 670 = .ok (.iaload, 1) := by decide +kernel
theorem dL_law_671 : decode cL_law 671 = .ok (.invokevirtual 75, 3) := by decide +kernel
theorem dL_law_674 : decode cL_law 674 = .ok (.if_icmp .eq 864, 3) := by decide +kernel
theorem dL_law_677 : decode cL_law 677 = .ok (.iconst 0, 1) := by decide +kernel
theorem dL_law_678 : decode cL_law 678 = .ok (.ireturn, 1) := by decide +kernel
theorem dL_law_679 : decode cL_law 679 = .ok (.aload_n 1, 1) := by decide +kernel
theorem dL_law_680 : decode cL_law 680 = .ok (.aload_n 0, 1) := by decide +kernel
theorem dL_law_681 : decode cL_law 681 = .ok (.iload 4, 2) := by decide +kernel
theorem dL_law_683 : decode cL_law 683 = .ok (.iconst 1, 1) := by decide +kernel
theorem dL_law_684 : decode cL_law 684 = .ok (.iadd, 1) := by decide +kernel
theorem dL_law_685 : decode cL_law 685 = .ok (.iaload, 1) := by decide +kernel
theorem dL_law_686 : decode cL_law 686 = .ok (.invokevirtual 76, 3) := by decide +kernel
theorem dL_law_689 : decode cL_law 689 = .ok (.aload_n 2, 1) := by decide +kernel
theorem dL_law_690 : decode cL_law 690 = .ok (.aload_n 0, 1) := by decide +kernel
theorem dL_law_691 : decode cL_law 691 = .ok (.iload 4, 2) := by decide +kernel
theorem dL_law_693 : decode cL_law 693 = .ok (.iconst 1, 1) := by decide +kernel
theorem dL_law_694 : decode cL_law 694 = .ok (.iadd, 1) := by decide +kernel
theorem dL_law_695 : decode cL_law 695 = .ok (.iaload, 1) := by decide +kernel
theorem dL_law_696 : decode cL_law 696 = .ok (.invokevirtual 80, 3) := by decide +kernel
theorem dL_law_699 : decode cL_law 699 = .ok (.if_icmp .eq 839, 3) := by decide +kernel
theorem dL_law_702 : decode cL_law 702 = .ok (.iconst 0, 1) := by decide +kernel
theorem dL_law_703 : decode cL_law 703 = .ok (.ireturn, 1) := by decide +kernel
theorem dL_law_704 : decode cL_law 704 = .ok (.aload_n 1, 1) := by decide +kernel
theorem dL_law_705 : decode cL_law 705 = .ok (.aload_n 0, 1) := by decide +kernel
theorem dL_law_706 : decode cL_law 706 = .ok (.iload 4, 2) := by decide +kernel
theorem dL_law_708 : decode cL_law 708 = .ok (.iconst 1, 1) := by decide +kernel
theorem dL_law_709 : decode cL_law 709 = .ok (.iadd, 1) := by decide +kernel
theorem dL_law_710 : decode cL_law 710 = .ok (.iaload, 1) := by decide +kernel
theorem dL_law_711 : decode cL_law 711 = .ok (.invokevirtual 81, 3) := by decide +kernel
theorem dL_law_714 : decode cL_law 714 = .ok (.aload_n 2, 1) := by decide +kernel
theorem dL_law_715 : decode cL_law 715 = .ok (.aload_n 0, 1) := by decide +kernel
theorem dL_law_716 : decode cL_law 716 = .ok (.iload 4, 2) := by decide +kernel
theorem dL_law_718 : decode cL_law 718 = .ok (.iconst 1, 1) := by decide +kernel
theorem dL_law_719 : decode cL_law 719 = .ok (.iadd, 1) := by decide +kernel
theorem dL_law_720 : decode cL_law 720 = .ok (.iaload, 1) := by decide +kernel
theorem dL_law_721 : decode cL_law 721 = .ok (.invokevirtual 84, 3) := by decide +kernel
theorem dL_law_724 : decode cL_law 724 = .ok (.if_icmp .eq 814, 3) := by decide +kernel
theorem dL_law_727 : decode cL_law 727 = .ok (.iconst 0, 1) := by decide +kernel
theorem dL_law_728 : decode cL_law 728 = .ok (.ireturn, 1) := by decide +kernel
theorem dL_law_729 : decode cL_law 729 = .ok (.aload_n 1, 1) := by decide +kernel
theorem dL_law_730 : decode cL_law 730 = .ok (.aload_n 0, 1) := by decide +kernel
theorem dL_law_731 : decode cL_law 731 = .ok (.iload 4, 2) := by decide +kernel
theorem dL_law_733 : decode cL_law 733 = .ok (.iconst 1, 1) := by decide +kernel
theorem dL_law_734 : decode cL_law 734 = .ok (.iadd, 1) := by decide +kernel
theorem dL_law_735 : decode cL_law 735 = .ok (.iaload, 1) := by decide +kernel
theorem dL_law_736 : decode cL_law 736 = .ok (.aload_n 0, 1) := by decide +kernel
theorem dL_law_737 : decode cL_law 737 = .ok (.iload 4, 2) := by decide +kernel
theorem dL_law_739 : decode cL_law 739 = .ok (.iconst 2, 1) := by decide +kernel
theorem dL_law_740 : decode cL_law 740 = .ok (.iadd, 1) := by decide +kernel
theorem dL_law_741 : decode cL_law 741 = .ok (.iaload, 1) := by decide +kernel
theorem dL_law_742 : decode cL_law 742 = .ok (.aload_n 0, 1) := by decide +kernel
theorem dL_law_743 : decode cL_law 743 = .ok (.iload 4, 2) := by decide +kernel
theorem dL_law_745 : decode cL_law 745 = .ok (.iconst 3, 1) := by decide +kernel
theorem dL_law_746 : decode cL_law 746 = .ok (.iadd, 1) := by decide +kernel
theorem dL_law_747 : decode cL_law 747 = .ok (.iaload, 1) := by decide +kernel
theorem dL_law_748 : decode cL_law 748 = .ok (.invokevirtual 85, 3) := by decide +kernel
theorem dL_law_751 : decode cL_law 751 = .ok (.aload_n 2, 1) := by decide +kernel
theorem dL_law_752 : decode cL_law 752 = .ok (.aload_n 0, 1) := by decide +kernel
theorem dL_law_753 : decode cL_law 753 = .ok (.iload 4, 2) := by decide +kernel
theorem dL_law_755 : decode cL_law 755 = .ok (.iconst 1, 1) := by decide +kernel
theorem dL_law_756 : decode cL_law 756 = .ok (.iadd, 1) := by decide +kernel
theorem dL_law_757 : decode cL_law 757 = .ok (.iaload, 1) := by decide +kernel
theorem dL_law_758 : decode cL_law 758 = .ok (.aload_n 0, 1) := by decide +kernel
theorem dL_law_759 : decode cL_law 759 = .ok (.iload 4, 2) := by decide +kernel
theorem dL_law_761 : decode cL_law 761 = .ok (.iconst 2, 1) := by decide +kernel
theorem dL_law_762 : decode cL_law 762 = .ok (.iadd, 1) := by decide +kernel
theorem dL_law_763 : decode cL_law 763 = .ok (.iaload, 1) := by decide +kernel
theorem dL_law_764 : decode cL_law 764 = .ok (.aload_n 0, 1) := by decide +kernel
theorem dL_law_765 : decode cL_law 765 = .ok (.iload 4, 2) := by decide +kernel
theorem dL_law_767 : decode cL_law 767 = .ok (.iconst 3, 1) := by decide +kernel
theorem dL_law_768 : decode cL_law 768 = .ok (.iadd, 1) := by decide +kernel
theorem dL_law_769 : decode cL_law 769 = .ok (.iaload, 1) := by decide +kernel
theorem dL_law_770 : decode cL_law 770 = .ok (.invokevirtual 88, 3) := by decide +kernel
theorem dL_law_773 : decode cL_law 773 = .ok (.if_icmp .eq 765, 3) := by decide +kernel
theorem dL_law_776 : decode cL_law 776 = .ok (.iconst 0, 1) := by decide +kernel
theorem dL_law_777 : decode cL_law 777 = .ok (.ireturn, 1) := by decide +kernel
theorem dL_law_778 : decode cL_law 778 = .ok (.aload_n 1, 1) := by decide +kernel
theorem dL_law_779 : decode cL_law 779 = .ok (.aload_n 0, 1) := by decide +kernel
theorem dL_law_780 : decode cL_law 780 = .ok (.iload 4, 2) := by decide +kernel
theorem dL_law_782 : decode cL_law 782 = .ok (.iconst 1, 1) := by decide +kernel
theorem dL_law_783 : decode cL_law 783 = .ok (.iadd, 1) := by decide +kernel
theorem dL_law_784 : decode cL_law 784 = .ok (.iaload, 1) := by decide +kernel
theorem dL_law_785 : decode cL_law 785 = .ok (.aload_n 0, 1) := by decide +kernel
theorem dL_law_786 : decode cL_law 786 = .ok (.iload 4, 2) := by decide +kernel
theorem dL_law_788 : decode cL_law 788 = .ok (.iconst 2, 1) := by decide +kernel
theorem dL_law_789 : decode cL_law 789 = .ok (.iadd, 1) := by decide +kernel
theorem dL_law_790 : decode cL_law 790 = .ok (.iaload, 1) := by decide +kernel
theorem dL_law_791 : decode cL_law 791 = .ok (.invokevirtual 89, 3) := by decide +kernel
theorem dL_law_794 : decode cL_law 794 = .ok (.aload_n 2, 1) := by decide +kernel
theorem dL_law_795 : decode cL_law 795 = .ok (.aload_n 0, 1) := by decide +kernel
theorem dL_law_796 : decode cL_law 796 = .ok (.iload 4, 2) := by decide +kernel
theorem dL_law_798 : decode cL_law 798 = .ok (.iconst 1, 1) := by decide +kernel
theorem dL_law_799 : decode cL_law 799 = .ok (.iadd, 1) := by decide +kernel
theorem dL_law_800 : decode cL_law 800 = .ok (.iaload, 1) := by decide +kernel
theorem dL_law_801 : decode cL_law 801 = .ok (.aload_n 0, 1) := by decide +kernel
theorem dL_law_802 : decode cL_law 802 = .ok (.iload 4, 2) := by decide +kernel
theorem dL_law_804 : decode cL_law 804 = .ok (.iconst 2, 1) := by decide +kernel
theorem dL_law_805 : decode cL_law 805 = .ok (.iadd, 1) := by decide +kernel
theorem dL_law_806 : decode cL_law 806 = .ok (.iaload, 1) := by decide +kernel
theorem dL_law_807 : decode cL_law 807 = .ok (.invokevirtual 92, 3) := by decide +kernel
theorem dL_law_810 : decode cL_law 810 = .ok (.if_icmp .eq 728, 3) := by decide +kernel
theorem dL_law_813 : decode cL_law 813 = .ok (.iconst 0, 1) := by decide +kernel
theorem dL_law_814 : decode cL_law 814 = .ok (.ireturn, 1) := by decide +kernel
theorem dL_law_815 : decode cL_law 815 = .ok (.aload_n 1, 1) := by decide +kernel
theorem dL_law_816 : decode cL_law 816 = .ok (.aload_n 0, 1) := by decide +kernel
theorem dL_law_817 : decode cL_law 817 = .ok (.iload 4, 2) := by decide +kernel
theorem dL_law_819 : decode cL_law 819 = .ok (.iconst 1, 1) := by decide +kernel
theorem dL_law_820 : decode cL_law 820 = .ok (.iadd, 1) := by decide +kernel
theorem dL_law_821 : decode cL_law 821 = .ok (.iaload, 1) := by decide +kernel
theorem dL_law_822 : decode cL_law 822 = .ok (.invokevirtual 93, 3) := by decide +kernel
theorem dL_law_825 : decode cL_law 825 = .ok (.aload_n 2, 1) := by decide +kernel
theorem dL_law_826 : decode cL_law 826 = .ok (.aload_n 0, 1) := by decide +kernel
theorem dL_law_827 : decode cL_law 827 = .ok (.iload 4, 2) := by decide +kernel
theorem dL_law_829 : decode cL_law 829 = .ok (.iconst 1, 1) := by decide +kernel
theorem dL_law_830 : decode cL_law 830 = .ok (.iadd, 1) := by decide +kernel
theorem dL_law_831 : decode cL_law 831 = .ok (.iaload, 1) := by decide +kernel
theorem dL_law_832 : decode cL_law 832 = .ok (.invokevirtual 96, 3) := by decide +kernel
theorem dL_law_835 : decode cL_law 835 = .ok (.if_icmp .eq 703, 3) := by decide +kernel
theorem dL_law_838 : decode cL_law 838 = .ok (.iconst 0, 1) := by decide +kernel
theorem dL_law_839 : decode cL_law 839 = .ok (.ireturn, 1) := by decide +kernel
theorem dL_law_840 : decode cL_law 840 = .ok (.aload_n 1, 1) := by decide +kernel
theorem dL_law_841 : decode cL_law 841 = .ok (.aload_n 0, 1) := by decide +kernel
theorem dL_law_842 : decode cL_law 842 = .ok (.iload 4, 2) := by decide +kernel
theorem dL_law_844 : decode cL_law 844 = .ok (.iconst 1, 1) := by decide +kernel
theorem dL_law_845 : decode cL_law 845 = .ok (.iadd, 1) := by decide +kernel
theorem dL_law_846 : decode cL_law 846 = .ok (.iaload, 1) := by decide +kernel
theorem dL_law_847 : decode cL_law 847 = .ok (.invokevirtual 97, 3) := by decide +kernel
theorem dL_law_850 : decode cL_law 850 = .ok (.aload_n 2, 1) := by decide +kernel
theorem dL_law_851 : decode cL_law 851 = .ok (.aload_n 0, 1) := by decide +kernel
theorem dL_law_852 : decode cL_law 852 = .ok (.iload 4, 2) := by decide +kernel
theorem dL_law_854 : decode cL_law 854 = .ok (.iconst 1, 1) := by decide +kernel
theorem dL_law_855 : decode cL_law 855 = .ok (.iadd, 1) := by decide +kernel
theorem dL_law_856 : decode cL_law 856 = .ok (.iaload, 1) := by decide +kernel
theorem dL_law_857 : decode cL_law 857 = .ok (.invokevirtual 100, 3) := by decide +kernel
theorem dL_law_860 : decode cL_law 860 = .ok (.if_icmp .eq 678, 3) := by decide +kernel
theorem dL_law_863 : decode cL_law 863 = .ok (.iconst 0, 1) := by decide +kernel
theorem dL_law_864 : decode cL_law 864 = .ok (.ireturn, 1) := by decide +kernel
theorem dL_law_865 : decode cL_law 865 = .ok (.aload_n 1, 1) := by decide +kernel
theorem dL_law_866 : decode cL_law 866 = .ok (.aload_n 0, 1) := by decide +kernel
theorem dL_law_867 : decode cL_law 867 = .ok (.iload 4, 2) := by decide +kernel
theorem dL_law_869 : decode cL_law 869 = .ok (.iconst 1, 1) := by decide +kernel
theorem dL_law_870 : decode cL_law 870 = .ok (.iadd, 1) := by decide +kernel
theorem dL_law_871 : decode cL_law 871 = .ok (.iaload, 1) := by decide +kernel
theorem dL_law_872 : decode cL_law 872 = .ok (.aload_n 0, 1) := by decide +kernel
theorem dL_law_873 : decode cL_law 873 = .ok (.iload 4, 2) := by decide +kernel
theorem dL_law_875 : decode cL_law 875 = .ok (.iconst 2, 1) := by decide +kernel
theorem dL_law_876 : decode cL_law 876 = .ok (.iadd, 1) := by decide +kernel
theorem dL_law_877 : decode cL_law 877 = .ok (.iaload, 1) := by decide +kernel
theorem dL_law_878 : decode cL_law 878 = .ok (.invokevirtual 101, 3) := by decide +kernel
theorem dL_law_881 : decode cL_law 881 = .ok (.aload_n 2, 1) := by decide +kernel
theorem dL_law_882 : decode cL_law 882 = .ok (.aload_n 0, 1) := by decide +kernel
theorem dL_law_883 : decode cL_law 883 = .ok (.iload 4, 2) := by decide +kernel
theorem dL_law_885 : decode cL_law 885 = .ok (.iconst 1, 1) := by decide +kernel
theorem dL_law_886 : decode cL_law 886 = .ok (.iadd, 1) := by decide +kernel
theorem dL_law_887 : decode cL_law 887 = .ok (.iaload, 1) := by decide +kernel
theorem dL_law_888 : decode cL_law 888 = .ok (.aload_n 0, 1) := by decide +kernel
theorem dL_law_889 : decode cL_law 889 = .ok (.iload 4, 2) := by decide +kernel
theorem dL_law_891 : decode cL_law 891 = .ok (.iconst 2, 1) := by decide +kernel
theorem dL_law_892 : decode cL_law 892 = .ok (.iadd, 1) := by decide +kernel
theorem dL_law_893 : decode cL_law 893 = .ok (.iaload, 1) := by decide +kernel
theorem dL_law_894 : decode cL_law 894 = .ok (.invokevirtual 104, 3) := by decide +kernel
theorem dL_law_897 : decode cL_law 897 = .ok (.if_icmp .eq 641, 3) := by decide +kernel
theorem dL_law_900 : decode cL_law 900 = .ok (.iconst 0, 1) := by decide +kernel
theorem dL_law_901 : decode cL_law 901 = .ok (.ireturn, 1) := by decide +kernel
theorem dL_law_902 : decode cL_law 902 = .ok (.aload_n 1, 1) := by decide +kernel
theorem dL_law_903 : decode cL_law 903 = .ok (.aload_n 0, 1) := by decide +kernel
theorem dL_law_904 : decode cL_law 904 = .ok (.iload 4, 2) := by decide +kernel
theorem dL_law_906 : decode cL_law 906 = .ok (.iconst 1, 1) := by decide +kernel
theorem dL_law_907 : decode cL_law 907 = .ok (.iadd, 1) := by decide +kernel
theorem dL_law_908 : decode cL_law 908 = .ok (.iaload, 1) := by decide +kernel
theorem dL_law_909 : decode cL_law 909 = .ok (.invokevirtual 105, 3) := by decide +kernel
theorem dL_law_912 : decode cL_law 912 = .ok (.aload_n 2, 1) := by decide +kernel
theorem dL_law_913 : decode cL_law 913 = .ok (.aload_n 0, 1) := by decide +kernel
theorem dL_law_914 : decode cL_law 914 = .ok (.iload 4, 2) := by decide +kernel
theorem dL_law_916 : decode cL_law 916 = .ok (.iconst 1, 1) := by decide +kernel
theorem dL_law_917 : decode cL_law 917 = .ok (.iadd, 1) := by decide +kernel
theorem dL_law_918 : decode cL_law 918 = .ok (.iaload, 1) := by decide +kernel
theorem dL_law_919 : decode cL_law 919 = .ok (.invokevirtual 108, 3) := by decide +kernel
theorem dL_law_922 : decode cL_law 922 = .ok (.if_icmp .eq 616, 3) := by decide +kernel
theorem dL_law_925 : decode cL_law 925 = .ok (.iconst 0, 1) := by decide +kernel
theorem dL_law_926 : decode cL_law 926 = .ok (.ireturn, 1) := by decide +kernel
theorem dL_law_927 : decode cL_law 927 = .ok (.aload_n 1, 1) := by decide +kernel
theorem dL_law_928 : decode cL_law 928 = .ok (.aload_n 0, 1) := by decide +kernel
theorem dL_law_929 : decode cL_law 929 = .ok (.iload 4, 2) := by decide +kernel
theorem dL_law_931 : decode cL_law 931 = .ok (.iconst 1, 1) := by decide +kernel
theorem dL_law_932 : decode cL_law 932 = .ok (.iadd, 1) := by decide +kernel
theorem dL_law_933 : decode cL_law 933 = .ok (.iaload, 1) := by decide +kernel
theorem dL_law_934 : decode cL_law 934 = .ok (.aload_n 0, 1) := by decide +kernel
theorem dL_law_935 : decode cL_law 935 = .ok (.iload 4, 2) := by decide +kernel
theorem dL_law_937 : decode cL_law 937 = .ok (.iconst 2, 1) := by decide +kernel
theorem dL_law_938 : decode cL_law 938 = .ok (.iadd, 1) := by decide +kernel
theorem dL_law_939 : decode cL_law 939 = .ok (.iaload, 1) := by decide +kernel
theorem dL_law_940 : decode cL_law 940 = .ok (.invokevirtual 109, 3) := by decide +kernel
theorem dL_law_943 : decode cL_law 943 = .ok (.aload_n 2, 1) := by decide +kernel
theorem dL_law_944 : decode cL_law 944 = .ok (.aload_n 0, 1) := by decide +kernel
theorem dL_law_945 : decode cL_law 945 = .ok (.iload 4, 2) := by decide +kernel
theorem dL_law_947 : decode cL_law 947 = .ok (.iconst 1, 1) := by decide +kernel
theorem dL_law_948 : decode cL_law 948 = .ok (.iadd, 1) := by decide +kernel
theorem dL_law_949 : decode cL_law 949 = .ok (.iaload, 1) := by decide +kernel
theorem dL_law_950 : decode cL_law 950 = .ok (.aload_n 0, 1) := by decide +kernel
theorem dL_law_951 : decode cL_law 951 = .ok (.iload 4, 2) := by decide +kernel
theorem dL_law_953 : decode cL_law 953 = .ok (.iconst 2, 1) := by decide +kernel
theorem dL_law_954 : decode cL_law 954 = .ok (.iadd, 1) := by decide +kernel
theorem dL_law_955 : decode cL_law 955 = .ok (.iaload, 1) := by decide +kernel
theorem dL_law_956 : decode cL_law 956 = .ok (.invokevirtual 112, 3) := by decide +kernel
theorem dL_law_959 : decode cL_law 959 = .ok (.if_icmp .eq 579, 3) := by decide +kernel
theorem dL_law_962 : decode cL_law 962 = .ok (.iconst 0, 1) := by decide +kernel
theorem dL_law_963 : decode cL_law 963 = .ok (.ireturn, 1) := by decide +kernel
theorem dL_law_964 : decode cL_law 964 = .ok (.aload_n 1, 1) := by decide +kernel
theorem dL_law_965 : decode cL_law 965 = .ok (.aload_n 0, 1) := by decide +kernel
theorem dL_law_966 : decode cL_law 966 = .ok (.iload 4, 2) := by decide +kernel
theorem dL_law_968 : decode cL_law 968 = .ok (.iconst 1, 1) := by decide +kernel
theorem dL_law_969 : decode cL_law 969 = .ok (.iadd, 1) := by decide +kernel
theorem dL_law_970 : decode cL_law 970 = .ok (.iaload, 1) := by decide +kernel
theorem dL_law_971 : decode cL_law 971 = .ok (.invokevirtual 113, 3) := by decide +kernel
theorem dL_law_974 : decode cL_law 974 = .ok (.aload_n 2, 1) := by decide +kernel
theorem dL_law_975 : decode cL_law 975 = .ok (.aload_n 0, 1) := by decide +kernel
theorem dL_law_976 : decode cL_law 976 = .ok (.iload 4, 2) := by decide +kernel
theorem dL_law_978 : decode cL_law 978 = .ok (.iconst 1, 1) := by decide +kernel
theorem dL_law_979 : decode cL_law 979 = .ok (.iadd, 1) := by decide +kernel
theorem dL_law_980 : decode cL_law 980 = .ok (.iaload, 1) := by decide +kernel
theorem dL_law_981 : decode cL_law 981 = .ok (.invokevirtual 116, 3) := by decide +kernel
theorem dL_law_984 : decode cL_law 984 = .ok (.if_icmp .eq 554, 3) := by decide +kernel
theorem dL_law_987 : decode cL_law 987 = .ok (.iconst 0, 1) := by decide +kernel
theorem dL_law_988 : decode cL_law 988 = .ok (.ireturn, 1) := by decide +kernel
theorem dL_law_989 : decode cL_law 989 = .ok (.aload_n 1, 1) := by decide +kernel
theorem dL_law_990 : decode cL_law 990 = .ok (.aload_n 0, 1) := by decide +kernel
theorem dL_law_991 : decode cL_law 991 = .ok (.iload 4, 2) := by decide +kernel
theorem dL_law_993 : decode cL_law 993 = .ok (.iconst 1, 1) := by decide +kernel
theorem dL_law_994 : decode cL_law 994 = .ok (.iadd, 1) := by decide +kernel
theorem dL_law_995 : decode cL_law 995 = .ok (.iaload, 1) := by decide +kernel
theorem dL_law_996 : decode cL_law 996 = .ok (.aload_n 0, 1) := by decide +kernel
theorem dL_law_997 : decode cL_law 997 = .ok (.iload 4, 2) := by decide +kernel
theorem dL_law_999 : decode cL_law 999 = .ok (.iconst 2, 1) := by decide +kernel
theorem dL_law_1000 : decode cL_law 1000 = .ok (.iadd, 1) := by decide +kernel
theorem dL_law_1001 : decode cL_law 1001 = .ok (.iaload, 1) := by decide +kernel
theorem dL_law_1002 : decode cL_law 1002 = .ok (.aload_n 0, 1) := by decide +kernel
theorem dL_law_1003 : decode cL_law 1003 = .ok (.iload 4, 2) := by decide +kernel
theorem dL_law_1005 : decode cL_law 1005 = .ok (.iconst 3, 1) := by decide +kernel
theorem dL_law_1006 : decode cL_law 1006 = .ok (.iadd, 1) := by decide +kernel
theorem dL_law_1007 : decode cL_law 1007 = .ok (.iaload, 1) := by decide +kernel
theorem dL_law_1008 : decode cL_law 1008 = .ok (.invokevirtual 117, 3) := by decide +kernel
theorem dL_law_1011 : decode cL_law 1011 = .ok (.aload_n 2, 1) := by decide +kernel
theorem dL_law_1012 : decode cL_law 1012 = .ok (.aload_n 0, 1) := by decide +kernel
theorem dL_law_1013 : decode cL_law 1013 = .ok (.iload 4, 2) := by decide +kernel
theorem dL_law_1015 : decode cL_law 1015 = .ok (.iconst 1, 1) := by decide +kernel
theorem dL_law_1016 : decode cL_law 1016 = .ok (.iadd, 1) := by decide +kernel
theorem dL_law_1017 : decode cL_law 1017 = .ok (.iaload, 1) := by decide +kernel
theorem dL_law_1018 : decode cL_law 1018 = .ok (.aload_n 0, 1) := by decide +kernel
theorem dL_law_1019 : decode cL_law 1019 = .ok (.iload 4, 2) := by decide +kernel
theorem dL_law_1021 : decode cL_law 1021 = .ok (.iconst 2, 1) := by decide +kernel
theorem dL_law_1022 : decode cL_law 1022 = .ok (.iadd, 1) := by decide +kernel
theorem dL_law_1023 : decode cL_law 1023 = .ok (.iaload, 1) := by decide +kernel
theorem dL_law_1024 : decode cL_law 1024 = .ok (.aload_n 0, 1) := by decide +kernel
theorem dL_law_1025 : decode cL_law 1025 = .ok (.iload 4, 2) := by decide +kernel
theorem dL_law_1027 : decode cL_law 1027 = .ok (.iconst 3, 1) := by decide +kernel
theorem dL_law_1028 : decode cL_law 1028 = .ok (.iadd, 1) := by decide +kernel
theorem dL_law_1029 : decode cL_law 1029 = .ok (.iaload, 1) := by decide +kernel
theorem dL_law_1030 : decode cL_law 1030 = .ok (.invokevirtual 120, 3) := by decide +kernel
theorem dL_law_1033 : decode cL_law 1033 = .ok (.if_icmp .eq 505, 3) := by decide +kernel
theorem dL_law_1036 : decode cL_law 1036 = .ok (.iconst 0, 1) := by decide +kernel
theorem dL_law_1037 : decode cL_law 1037 = .ok (.ireturn, 1) := by decide +kernel
theorem dL_law_1038 : decode cL_law 1038 = .ok (.aload_n 1, 1) := by decide +kernel
theorem dL_law_1039 : decode cL_law 1039 = .ok (.aload_n 0, 1) := by decide +kernel
theorem dL_law_1040 : decode cL_law 1040 = .ok (.iload 4, 2) := by decide +kernel
theorem dL_law_1042 : decode cL_law 1042 = .ok (.iconst 1, 1) := by decide +kernel
theorem dL_law_1043 : decode cL_law 1043 = .ok (.iadd, 1) := by decide +kernel
theorem dL_law_1044 : decode cL_law 1044 = .ok (.iaload, 1) := by decide +kernel
theorem dL_law_1045 : decode cL_law 1045 = .ok (.invokevirtual 121, 3) := by decide +kernel
theorem dL_law_1048 : decode cL_law 1048 = .ok (.aload_n 2, 1) := by decide +kernel
theorem dL_law_1049 : decode cL_law 1049 = .ok (.aload_n 0, 1) := by decide +kernel
theorem dL_law_1050 : decode cL_law 1050 = .ok (.iload 4, 2) := by decide +kernel
theorem dL_law_1052 : decode cL_law 1052 = .ok (.iconst 1, 1) := by decide +kernel
theorem dL_law_1053 : decode cL_law 1053 = .ok (.iadd, 1) := by decide +kernel
theorem dL_law_1054 : decode cL_law 1054 = .ok (.iaload, 1) := by decide +kernel
theorem dL_law_1055 : decode cL_law 1055 = .ok (.invokevirtual 124, 3) := by decide +kernel
theorem dL_law_1058 : decode cL_law 1058 = .ok (.if_icmp .eq 480, 3) := by decide +kernel
theorem dL_law_1061 : decode cL_law 1061 = .ok (.iconst 0, 1) := by decide +kernel
theorem dL_law_1062 : decode cL_law 1062 = .ok (.ireturn, 1) := by decide +kernel
theorem dL_law_1063 : decode cL_law 1063 = .ok (.aload_n 1, 1) := by decide +kernel
theorem dL_law_1064 : decode cL_law 1064 = .ok (.aload_n 0, 1) := by decide +kernel
theorem dL_law_1065 : decode cL_law 1065 = .ok (.iload 4, 2) := by decide +kernel
theorem dL_law_1067 : decode cL_law 1067 = .ok (.iconst 1, 1) := by decide +kernel
theorem dL_law_1068 : decode cL_law 1068 = .ok (.iadd, 1) := by decide +kernel
theorem dL_law_1069 : decode cL_law 1069 = .ok (.iaload, 1) := by decide +kernel
theorem dL_law_1070 : decode cL_law 1070 = .ok (.aload_n 0, 1) := by decide +kernel
theorem dL_law_1071 : decode cL_law 1071 = .ok (.iload 4, 2) := by decide +kernel
theorem dL_law_1073 : decode cL_law 1073 = .ok (.iconst 2, 1) := by decide +kernel
theorem dL_law_1074 : decode cL_law 1074 = .ok (.iadd, 1) := by decide +kernel
theorem dL_law_1075 : decode cL_law 1075 = .ok (.iaload, 1) := by decide +kernel
theorem dL_law_1076 : decode cL_law 1076 = .ok (.invokevirtual 125, 3) := by decide +kernel
theorem dL_law_1079 : decode cL_law 1079 = .ok (.aload_n 2, 1) := by decide +kernel
theorem dL_law_1080 : decode cL_law 1080 = .ok (.aload_n 0, 1) := by decide +kernel
theorem dL_law_1081 : decode cL_law 1081 = .ok (.iload 4, 2) := by decide +kernel
theorem dL_law_1083 : decode cL_law 1083 = .ok (.iconst 1, 1) := by decide +kernel
theorem dL_law_1084 : decode cL_law 1084 = .ok (.iadd, 1) := by decide +kernel
theorem dL_law_1085 : decode cL_law 1085 = .ok (.iaload, 1) := by decide +kernel
theorem dL_law_1086 : decode cL_law 1086 = .ok (.aload_n 0, 1) := by decide +kernel
theorem dL_law_1087 : decode cL_law 1087 = .ok (.iload 4, 2) := by decide +kernel
theorem dL_law_1089 : decode cL_law 1089 = .ok (.iconst 2, 1) := by decide +kernel
theorem dL_law_1090 : decode cL_law 1090 = .ok (.iadd, 1) := by decide +kernel
theorem dL_law_1091 : decode cL_law 1091 = .ok (.iaload, 1) := by decide +kernel
theorem dL_law_1092 : decode cL_law 1092 = .ok (.invokevirtual 128, 3) := by decide +kernel
theorem dL_law_1095 : decode cL_law 1095 = .ok (.if_icmp .eq 443, 3) := by decide +kernel
theorem dL_law_1098 : decode cL_law 1098 = .ok (.iconst 0, 1) := by decide +kernel
theorem dL_law_1099 : decode cL_law 1099 = .ok (.ireturn, 1) := by decide +kernel
theorem dL_law_1100 : decode cL_law 1100 = .ok (.aload_n 1, 1) := by decide +kernel
theorem dL_law_1101 : decode cL_law 1101 = .ok (.aload_n 0, 1) := by decide +kernel
theorem dL_law_1102 : decode cL_law 1102 = .ok (.iload 4, 2) := by decide +kernel
theorem dL_law_1104 : decode cL_law 1104 = .ok (.iconst 1, 1) := by decide +kernel
theorem dL_law_1105 : decode cL_law 1105 = .ok (.iadd, 1) := by decide +kernel
theorem dL_law_1106 : decode cL_law 1106 = .ok (.iaload, 1) := by decide +kernel
theorem dL_law_1107 : decode cL_law 1107 = .ok (.aload_n 0, 1) := by decide +kernel
theorem dL_law_1108 : decode cL_law 1108 = .ok (.iload 4, 2) := by decide +kernel
theorem dL_law_1110 : decode cL_law 1110 = .ok (.iconst 2, 1) := by decide +kernel
theorem dL_law_1111 : decode cL_law 1111 = .ok (.iadd, 1) := by decide +kernel
theorem dL_law_1112 : decode cL_law 1112 = .ok (.iaload, 1) := by decide +kernel
theorem dL_law_1113 : decode cL_law 1113 = .ok (.aload_n 0, 1) := by decide +kernel
theorem dL_law_1114 : decode cL_law 1114 = .ok (.iload 4, 2) := by decide +kernel
theorem dL_law_1116 : decode cL_law 1116 = .ok (.iconst 3, 1) := by decide +kernel
theorem dL_law_1117 : decode cL_law 1117 = .ok (.iadd, 1) := by decide +kernel
theorem dL_law_1118 : decode cL_law 1118 = .ok (.iaload, 1) := by decide +kernel
theorem dL_law_1119 : decode cL_law 1119 = .ok (.invokevirtual 129, 3) := by decide +kernel
theorem dL_law_1122 : decode cL_law 1122 = .ok (.aload_n 2, 1) := by decide +kernel
theorem dL_law_1123 : decode cL_law 1123 = .ok (.aload_n 0, 1) := by decide +kernel
theorem dL_law_1124 : decode cL_law 1124 = .ok (.iload 4, 2) := by decide +kernel
theorem dL_law_1126 : decode cL_law 1126 = .ok (.iconst 1, 1) := by decide +kernel
theorem dL_law_1127 : decode cL_law 1127 = .ok (.iadd, 1) := by decide +kernel
theorem dL_law_1128 : decode cL_law 1128 = .ok (.iaload, 1) := by decide +kernel
theorem dL_law_1129 : decode cL_law 1129 = .ok (.aload_n 0, 1) := by decide +kernel
theorem dL_law_1130 : decode cL_law 1130 = .ok (.iload 4, 2) := by decide +kernel
theorem dL_law_1132 : decode cL_law 1132 = .ok (.iconst 2, 1) := by decide +kernel
theorem dL_law_1133 : decode cL_law 1133 = .ok (.iadd, 1) := by decide +kernel
theorem dL_law_1134 : decode cL_law 1134 = .ok (.iaload, 1) := by decide +kernel
theorem dL_law_1135 : decode cL_law 1135 = .ok (.aload_n 0, 1) := by decide +kernel
theorem dL_law_1136 : decode cL_law 1136 = .ok (.iload 4, 2) := by decide +kernel
theorem dL_law_1138 : decode cL_law 1138 = .ok (.iconst 3, 1) := by decide +kernel
theorem dL_law_1139 : decode cL_law 1139 = .ok (.iadd, 1) := by decide +kernel
theorem dL_law_1140 : decode cL_law 1140 = .ok (.iaload, 1) := by decide +kernel
theorem dL_law_1141 : decode cL_law 1141 = .ok (.invokevirtual 132, 3) := by decide +kernel
theorem dL_law_1144 : decode cL_law 1144 = .ok (.if_icmp .eq 394, 3) := by decide +kernel
theorem dL_law_1147 : decode cL_law 1147 = .ok (.iconst 0, 1) := by decide +kernel
theorem dL_law_1148 : decode cL_law 1148 = .ok (.ireturn, 1) := by decide +kernel
theorem dL_law_1149 : decode cL_law 1149 = .ok (.aload_n 1, 1) := by decide +kernel
theorem dL_law_1150 : decode cL_law 1150 = .ok (.aload_n 0, 1) := by decide +kernel
theorem dL_law_1151 : decode cL_law 1151 = .ok (.iload 4, 2) := by decide +kernel
theorem dL_law_1153 : decode cL_law 1153 = .ok (.iconst 1, 1) := by decide +kernel
theorem dL_law_1154 : decode cL_law 1154 = .ok (.iadd, 1) := by decide +kernel
theorem dL_law_1155 : decode cL_law 1155 = .ok (.iaload, 1) := by decide +kernel
theorem dL_law_1156 : decode cL_law 1156 = .ok (.aload_n 0, 1) := by decide +kernel
theorem dL_law_1157 : decode cL_law 1157 = .ok (.iload 4, 2) := by decide +kernel
theorem dL_law_1159 : decode cL_law 1159 = .ok (.iconst 2, 1) := by decide +kernel
theorem dL_law_1160 : decode cL_law 1160 = .ok (.iadd, 1) := by decide +kernel
theorem dL_law_1161 : decode cL_law 1161 = .ok (.iaload, 1) := by decide +kernel
theorem dL_law_1162 : decode cL_law 1162 = .ok (.invokevirtual 133, 3) := by decide +kernel
theorem dL_law_1165 : decode cL_law 1165 = .ok (.aload_n 2, 1) := by decide +kernel
theorem dL_law_1166 : decode cL_law 1166 = .ok (.aload_n 0, 1) := by decide +kernel
theorem dL_law_1167 : decode cL_law 1167 = .ok (.iload 4, 2) := by decide +kernel
theorem dL_law_1169 : decode cL_law 1169 = .ok (.iconst 1, 1) := by decide +kernel
theorem dL_law_1170 : decode cL_law 1170 = .ok (.iadd, 1) := by decide +kernel
theorem dL_law_1171 : decode cL_law 1171 = .ok (.iaload, 1) := by decide +kernel
theorem dL_law_1172 : decode cL_law 1172 = .ok (.aload_n 0, 1) := by decide +kernel
theorem dL_law_1173 : decode cL_law 1173 = .ok (.iload 4, 2) := by decide +kernel
theorem dL_law_1175 : decode cL_law 1175 = .ok (.iconst 2, 1) := by decide +kernel
theorem dL_law_1176 : decode cL_law 1176 = .ok (.iadd, 1) := by decide +kernel
theorem dL_law_1177 : decode cL_law 1177 = .ok (.iaload, 1) := by decide +kernel
theorem dL_law_1178 : decode cL_law 1178 = .ok (.invokevirtual 137, 3) := by decide +kernel
theorem dL_law_1181 : decode cL_law 1181 = .ok (.lcmp, 1) := by decide +kernel
theorem dL_law_1182 : decode cL_law 1182 = .ok (.ifCond .eq 356, 3) := by decide +kernel
theorem dL_law_1185 : decode cL_law 1185 = .ok (.iconst 0, 1) := by decide +kernel
theorem dL_law_1186 : decode cL_law 1186 = .ok (.ireturn, 1) := by decide +kernel
theorem dL_law_1187 : decode cL_law 1187 = .ok (.aload_n 1, 1) := by decide +kernel
theorem dL_law_1188 : decode cL_law 1188 = .ok (.aload_n 0, 1) := by decide +kernel
theorem dL_law_1189 : decode cL_law 1189 = .ok (.iload 4, 2) := by decide +kernel
theorem dL_law_1191 : decode cL_law 1191 = .ok (.iconst 1, 1) := by decide +kernel
theorem dL_law_1192 : decode cL_law 1192 = .ok (.iadd, 1) := by decide +kernel
theorem dL_law_1193 : decode cL_law 1193 = .ok (.iaload, 1) := by decide +kernel
theorem dL_law_1194 : decode cL_law 1194 = .ok (.aload_n 0, 1) := by decide +kernel
theorem dL_law_1195 : decode cL_law 1195 = .ok (.iload 4, 2) := by decide +kernel
theorem dL_law_1197 : decode cL_law 1197 = .ok (.iconst 2, 1) := by decide +kernel
theorem dL_law_1198 : decode cL_law 1198 = .ok (.iadd, 1) := by decide +kernel
theorem dL_law_1199 : decode cL_law 1199 = .ok (.iaload, 1) := by decide +kernel
theorem dL_law_1200 : decode cL_law 1200 = .ok (.aload_n 0, 1) := by decide +kernel
theorem dL_law_1201 : decode cL_law 1201 = .ok (.iload 4, 2) := by decide +kernel
theorem dL_law_1203 : decode cL_law 1203 = .ok (.iconst 3, 1) := by decide +kernel
theorem dL_law_1204 : decode cL_law 1204 = .ok (.iadd, 1) := by decide +kernel
theorem dL_law_1205 : decode cL_law 1205 = .ok (.iaload, 1) := by decide +kernel
theorem dL_law_1206 : decode cL_law 1206 = .ok (.aload_n 0, 1) := by decide +kernel
theorem dL_law_1207 : decode cL_law 1207 = .ok (.iload 4, 2) := by decide +kernel
theorem dL_law_1209 : decode cL_law 1209 = .ok (.iconst 4, 1) := by decide +kernel
theorem dL_law_1210 : decode cL_law 1210 = .ok (.iadd, 1) := by decide +kernel
theorem dL_law_1211 : decode cL_law 1211 = .ok (.iaload, 1) := by decide +kernel
theorem dL_law_1212 : decode cL_law 1212 = .ok (.ifCond .eq 7, 3) := by decide +kernel
theorem dL_law_1215 : decode cL_law 1215 = .ok (.iconst 1, 1) := by decide +kernel
theorem dL_law_1216 : decode cL_law 1216 = .ok (.goto 4, 3) := by decide +kernel
theorem dL_law_1219 : decode cL_law 1219 = .ok (.iconst 0, 1) := by decide +kernel
theorem dL_law_1220 : decode cL_law 1220 = .ok (.invokevirtual 138, 3) := by decide +kernel
theorem dL_law_1223 : decode cL_law 1223 = .ok (.aload_n 2, 1) := by decide +kernel
theorem dL_law_1224 : decode cL_law 1224 = .ok (.aload_n 0, 1) := by decide +kernel
theorem dL_law_1225 : decode cL_law 1225 = .ok (.iload 4, 2) := by decide +kernel
theorem dL_law_1227 : decode cL_law 1227 = .ok (.iconst 1, 1) := by decide +kernel
theorem dL_law_1228 : decode cL_law 1228 = .ok (.iadd, 1) := by decide +kernel
theorem dL_law_1229 : decode cL_law 1229 = .ok (.iaload, 1) := by decide +kernel
theorem dL_law_1230 : decode cL_law 1230 = .ok (.aload_n 0, 1) := by decide +kernel
theorem dL_law_1231 : decode cL_law 1231 = .ok (.iload 4, 2) := by decide +kernel
theorem dL_law_1233 : decode cL_law 1233 = .ok (.iconst 2, 1) := by decide +kernel
theorem dL_law_1234 : decode cL_law 1234 = .ok (.iadd, 1) := by decide +kernel
theorem dL_law_1235 : decode cL_law 1235 = .ok (.iaload, 1) := by decide +kernel
theorem dL_law_1236 : decode cL_law 1236 = .ok (.aload_n 0, 1) := by decide +kernel
theorem dL_law_1237 : decode cL_law 1237 = .ok (.iload 4, 2) := by decide +kernel
theorem dL_law_1239 : decode cL_law 1239 = .ok (.iconst 3, 1) := by decide +kernel
theorem dL_law_1240 : decode cL_law 1240 = .ok (.iadd, 1) := by decide +kernel
theorem dL_law_1241 : decode cL_law 1241 = .ok (.iaload, 1) := by decide +kernel
theorem dL_law_1242 : decode cL_law 1242 = .ok (.aload_n 0, 1) := by decide +kernel
theorem dL_law_1243 : decode cL_law 1243 = .ok (.iload 4, 2) := by decide +kernel
theorem dL_law_1245 : decode cL_law 1245 = .ok (.iconst 4, 1) := by decide +kernel
theorem dL_law_1246 : decode cL_law 1246 = .ok (.iadd, 1) := by decide +kernel
theorem dL_law_1247 : decode cL_law 1247 = .ok (.iaload, 1) := by decide +kernel
theorem dL_law_1248 : decode cL_law 1248 = .ok (.ifCond .eq 7, 3) := by decide +kernel
theorem dL_law_1251 : decode cL_law 1251 = .ok (.iconst 1, 1) := by decide +kernel
theorem dL_law_1252 : decode cL_law 1252 = .ok (.goto 4, 3) := by decide +kernel
theorem dL_law_1255 : decode cL_law 1255 = .ok (.iconst 0, 1) := by decide +kernel
theorem dL_law_1256 : decode cL_law 1256 = .ok (.invokevirtual 142, 3) := by decide +kernel
theorem dL_law_1259 : decode cL_law 1259 = .ok (.if_icmp .eq 279, 3) := by decide +kernel
theorem dL_law_1262 : decode cL_law 1262 = .ok (.iconst 0, 1) := by decide +kernel
theorem dL_law_1263 : decode cL_law 1263 = .ok (.ireturn, 1) := by decide +kernel
theorem dL_law_1264 : decode cL_law 1264 = .ok (.aload_n 1, 1) := by decide +kernel
theorem dL_law_1265 : decode cL_law 1265 = .ok (.aload_n 0, 1) := by decide +kernel
theorem dL_law_1266 : decode cL_law 1266 = .ok (.iload 4, 2) := by decide +kernel
theorem dL_law_1268 : decode cL_law 1268 = .ok (.iconst 1, 1) := by decide +kernel
theorem dL_law_1269 : decode cL_law 1269 = .ok (.iadd, 1) := by decide +kernel
theorem dL_law_1270 : decode cL_law 1270 = .ok (.iaload, 1) := by decide +kernel
theorem dL_law_1271 : decode cL_law 1271 = .ok (.invokevirtual 143, 3) := by decide +kernel
theorem dL_law_1274 : decode cL_law 1274 = .ok (.aload_n 2, 1) := by decide +kernel
theorem dL_law_1275 : decode cL_law 1275 = .ok (.aload_n 0, 1) := by decide +kernel
theorem dL_law_1276 : decode cL_law 1276 = .ok (.iload 4, 2) := by decide +kernel
theorem dL_law_1278 : decode cL_law 1278 = .ok (.iconst 1, 1) := by decide +kernel
theorem dL_law_1279 : decode cL_law 1279 = .ok (.iadd, 1) := by decide +kernel
theorem dL_law_1280 : decode cL_law 1280 = .ok (.iaload, 1) := by decide +kernel
theorem dL_law_1281 : decode cL_law 1281 = .ok (.invokevirtual 146, 3) := by decide +kernel
theorem dL_law_1284 : decode cL_law 1284 = .ok (.if_icmp .eq 254, 3) := by decide +kernel
theorem dL_law_1287 : decode cL_law 1287 = .ok (.iconst 0, 1) := by decide +kernel
theorem dL_law_1288 : decode cL_law 1288 = .ok (.ireturn, 1) := by decide +kernel
theorem dL_law_1289 : decode cL_law 1289 = .ok (.aload_n 1, 1) := by decide +kernel
theorem dL_law_1290 : decode cL_law 1290 = .ok (.aload_n 0, 1) := by decide +kernel
theorem dL_law_1291 : decode cL_law 1291 = .ok (.iload 4, 2) := by decide +kernel
theorem dL_law_1293 : decode cL_law 1293 = .ok (.iconst 1, 1) := by decide +kernel
theorem dL_law_1294 : decode cL_law 1294 = .ok (.iadd, 1) := by decide +kernel
theorem dL_law_1295 : decode cL_law 1295 = .ok (.iaload, 1) := by decide +kernel
theorem dL_law_1296 : decode cL_law 1296 = .ok (.invokevirtual 147, 3) := by decide +kernel
theorem dL_law_1299 : decode cL_law 1299 = .ok (.aload_n 2, 1) := by decide +kernel
theorem dL_law_1300 : decode cL_law 1300 = .ok (.aload_n 0, 1) := by decide +kernel
theorem dL_law_1301 : decode cL_law 1301 = .ok (.iload 4, 2) := by decide +kernel
theorem dL_law_1303 : decode cL_law 1303 = .ok (.iconst 1, 1) := by decide +kernel
theorem dL_law_1304 : decode cL_law 1304 = .ok (.iadd, 1) := by decide +kernel
theorem dL_law_1305 : decode cL_law 1305 = .ok (.iaload, 1) := by decide +kernel
theorem dL_law_1306 : decode cL_law 1306 = .ok (.invokevirtual 150, 3) := by decide +kernel
theorem dL_law_1309 : decode cL_law 1309 = .ok (.if_icmp .eq 229, 3) := by decide +kernel
theorem dL_law_1312 : decode cL_law 1312 = .ok (.iconst 0, 1) := by decide +kernel
theorem dL_law_1313 : decode cL_law 1313 = .ok (.ireturn, 1) := by decide +kernel
theorem dL_law_1314 : decode cL_law 1314 = .ok (.aload_n 1, 1) := by decide +kernel
theorem dL_law_1315 : decode cL_law 1315 = .ok (.aload_n 0, 1) := by decide +kernel
theorem dL_law_1316 : decode cL_law 1316 = .ok (.iload 4, 2) := by decide +kernel
theorem dL_law_1318 : decode cL_law 1318 = .ok (.iconst 1, 1) := by decide +kernel
theorem dL_law_1319 : decode cL_law 1319 = .ok (.iadd, 1) := by decide +kernel
theorem dL_law_1320 : decode cL_law 1320 = .ok (.iaload, 1) := by decide +kernel
theorem dL_law_1321 : decode cL_law 1321 = .ok (.invokevirtual 151, 3) := by decide +kernel
theorem dL_law_1324 : decode cL_law 1324 = .ok (.aload_n 2, 1) := by decide +kernel
theorem dL_law_1325 : decode cL_law 1325 = .ok (.aload_n 0, 1) := by decide +kernel
theorem dL_law_1326 : decode cL_law 1326 = .ok (.iload 4, 2) := by decide +kernel
theorem dL_law_1328 : decode cL_law 1328 = .ok (.iconst 1, 1) := by decide +kernel
theorem dL_law_1329 : decode cL_law 1329 = .ok (.iadd, 1) := by decide +kernel
theorem dL_law_1330 : decode cL_law 1330 = .ok (.iaload, 1) := by decide +kernel
theorem dL_law_1331 : decode cL_law 1331 = .ok (.invokevirtual 154, 3) := by decide +kernel
theorem dL_law_1334 : decode cL_law 1334 = .ok (.if_icmp .eq 204, 3) := by decide +kernel
theorem dL_law_1337 : decode cL_law 1337 = .ok (.iconst 0, 1) := by decide +kernel
theorem dL_law_1338 : decode cL_law 1338 = .ok (.ireturn, 1) := by decide +kernel
theorem dL_law_1339 : decode cL_law 1339 = .ok (.aload_n 1, 1) := by decide +kernel
theorem dL_law_1340 : decode cL_law 1340 = .ok (.aload_n 0, 1) := by decide +kernel
theorem dL_law_1341 : decode cL_law 1341 = .ok (.iload 4, 2) := by decide +kernel
theorem dL_law_1343 : decode cL_law 1343 = .ok (.iconst 1, 1) := by decide +kernel
theorem dL_law_1344 : decode cL_law 1344 = .ok (.iadd, 1) := by decide +kernel
theorem dL_law_1345 : decode cL_law 1345 = .ok (.iaload, 1) := by decide +kernel
theorem dL_law_1346 : decode cL_law 1346 = .ok (.aload_n 0, 1) := by decide +kernel
theorem dL_law_1347 : decode cL_law 1347 = .ok (.iload 4, 2) := by decide +kernel
theorem dL_law_1349 : decode cL_law 1349 = .ok (.iconst 2, 1) := by decide +kernel
theorem dL_law_1350 : decode cL_law 1350 = .ok (.iadd, 1) := by decide +kernel
theorem dL_law_1351 : decode cL_law 1351 = .ok (.iaload, 1) := by decide +kernel
theorem dL_law_1352 : decode cL_law 1352 = .ok (.invokevirtual 155, 3) := by decide +kernel
theorem dL_law_1355 : decode cL_law 1355 = .ok (.aload_n 2, 1) := by decide +kernel
theorem dL_law_1356 : decode cL_law 1356 = .ok (.aload_n 0, 1) := by decide +kernel
theorem dL_law_1357 : decode cL_law 1357 = .ok (.iload 4, 2) := by decide +kernel
theorem dL_law_1359 : decode cL_law 1359 = .ok (.iconst 1, 1) := by decide +kernel
theorem dL_law_1360 : decode cL_law 1360 = .ok (.iadd, 1) := by decide +kernel
theorem dL_law_1361 : decode cL_law 1361 = .ok (.iaload, 1) := by decide +kernel
theorem dL_law_1362 : decode cL_law 1362 = .ok (.aload_n 0, 1) := by decide +kernel
theorem dL_law_1363 : decode cL_law 1363 = .ok (.iload 4, 2) := by decide +kernel
theorem dL_law_1365 : decode cL_law 1365 = .ok (.iconst 2, 1) := by decide +kernel
theorem dL_law_1366 : decode cL_law 1366 = .ok (.iadd, 1) := by decide +kernel
theorem dL_law_1367 : decode cL_law 1367 = .ok (.iaload, 1) := by decide +kernel
theorem dL_law_1368 : decode cL_law 1368 = .ok (.invokevirtual 158, 3) := by decide +kernel
theorem dL_law_1371 : decode cL_law 1371 = .ok (.if_icmp .eq 167, 3) := by decide +kernel
theorem dL_law_1374 : decode cL_law 1374 = .ok (.iconst 0, 1) := by decide +kernel
theorem dL_law_1375 : decode cL_law 1375 = .ok (.ireturn, 1) := by decide +kernel
theorem dL_law_1376 : decode cL_law 1376 = .ok (.aload_n 1, 1) := by decide +kernel
theorem dL_law_1377 : decode cL_law 1377 = .ok (.aload_n 0, 1) := by decide +kernel
theorem dL_law_1378 : decode cL_law 1378 = .ok (.iload 4, 2) := by decide +kernel
theorem dL_law_1380 : decode cL_law 1380 = .ok (.iconst 1, 1) := by decide +kernel
theorem dL_law_1381 : decode cL_law 1381 = .ok (.iadd, 1) := by decide +kernel
theorem dL_law_1382 : decode cL_law 1382 = .ok (.iaload, 1) := by decide +kernel
theorem dL_law_1383 : decode cL_law 1383 = .ok (.aload_n 0, 1) := by decide +kernel
theorem dL_law_1384 : decode cL_law 1384 = .ok (.iload 4, 2) := by decide +kernel
theorem dL_law_1386 : decode cL_law 1386 = .ok (.iconst 2, 1) := by decide +kernel
theorem dL_law_1387 : decode cL_law 1387 = .ok (.iadd, 1) := by decide +kernel
theorem dL_law_1388 : decode cL_law 1388 = .ok (.iaload, 1) := by decide +kernel
theorem dL_law_1389 : decode cL_law 1389 = .ok (.aload_n 0, 1) := by decide +kernel
theorem dL_law_1390 : decode cL_law 1390 = .ok (.iload 4, 2) := by decide +kernel
theorem dL_law_1392 : decode cL_law 1392 = .ok (.iconst 3, 1) := by decide +kernel
theorem dL_law_1393 : decode cL_law 1393 = .ok (.iadd, 1) := by decide +kernel
theorem dL_law_1394 : decode cL_law 1394 = .ok (.iaload, 1) := by decide +kernel
theorem dL_law_1395 : decode cL_law 1395 = .ok (.invokevirtual 159, 3) := by decide +kernel
theorem dL_law_1398 : decode cL_law 1398 = .ok (.aload_n 2, 1) := by decide +kernel
theorem dL_law_1399 : decode cL_law 1399 = .ok (.aload_n 0, 1) := by decide +kernel
theorem dL_law_1400 : decode cL_law 1400 = .ok (.iload 4, 2) := by decide +kernel
theorem dL_law_1402 : decode cL_law 1402 = .ok (.iconst 1, 1) := by decide +kernel
theorem dL_law_1403 : decode cL_law 1403 = .ok (.iadd, 1) := by decide +kernel
theorem dL_law_1404 : decode cL_law 1404 = .ok (.iaload, 1) := by decide +kernel
theorem dL_law_1405 : decode cL_law 1405 = .ok (.aload_n 0, 1) := by decide +kernel
theorem dL_law_1406 : decode cL_law 1406 = .ok (.iload 4, 2) := by decide +kernel
theorem dL_law_1408 : decode cL_law 1408 = .ok (.iconst 2, 1) := by decide +kernel
theorem dL_law_1409 : decode cL_law 1409 = .ok (.iadd, 1) := by decide +kernel
theorem dL_law_1410 : decode cL_law 1410 = .ok (.iaload, 1) := by decide +kernel
theorem dL_law_1411 : decode cL_law 1411 = .ok (.aload_n 0, 1) := by decide +kernel
theorem dL_law_1412 : decode cL_law 1412 = .ok (.iload 4, 2) := by decide +kernel
theorem dL_law_1414 : decode cL_law 1414 = .ok (.iconst 3, 1) := by decide +kernel
theorem dL_law_1415 : decode cL_law 1415 = .ok (.iadd, 1) := by decide +kernel
theorem dL_law_1416 : decode cL_law 1416 = .ok (.iaload, 1) := by decide +kernel
theorem dL_law_1417 : decode cL_law 1417 = .ok (.invokevirtual 162, 3) := by decide +kernel
theorem dL_law_1420 : decode cL_law 1420 = .ok (.if_icmp .eq 118, 3) := by decide +kernel
theorem dL_law_1423 : decode cL_law 1423 = .ok (.iconst 0, 1) := by decide +kernel
theorem dL_law_1424 : decode cL_law 1424 = .ok (.ireturn, 1) := by decide +kernel
theorem dL_law_1425 : decode cL_law 1425 = .ok (.aload_n 1, 1) := by decide +kernel
theorem dL_law_1426 : decode cL_law 1426 = .ok (.aload_n 0, 1) := by decide +kernel
theorem dL_law_1427 : decode cL_law 1427 = .ok (.iload 4, 2) := by decide +kernel
theorem dL_law_1429 : decode cL_law 1429 = .ok (.iconst 1, 1) := by decide +kernel
theorem dL_law_1430 : decode cL_law 1430 = .ok (.iadd, 1) := by decide +kernel
theorem dL_law_1431 : decode cL_law 1431 = .ok (.iaload, 1) := by decide +kernel
theorem dL_law_1432 : decode cL_law 1432 = .ok (.aload_n 0, 1) := by decide +kernel
theorem dL_law_1433 : decode cL_law 1433 = .ok (.iload 4, 2) := by decide +kernel
theorem dL_law_1435 : decode cL_law 1435 = .ok (.iconst 2, 1) := by decide +kernel
theorem dL_law_1436 : decode cL_law 1436 = .ok (.iadd, 1) := by decide +kernel
theorem dL_law_1437 : decode cL_law 1437 = .ok (.iaload, 1) := by decide +kernel
theorem dL_law_1438 : decode cL_law 1438 = .ok (.aload_n 0, 1) := by decide +kernel
theorem dL_law_1439 : decode cL_law 1439 = .ok (.iload 4, 2) := by decide +kernel
theorem dL_law_1441 : decode cL_law 1441 = .ok (.iconst 3, 1) := by decide +kernel
theorem dL_law_1442 : decode cL_law 1442 = .ok (.iadd, 1) := by decide +kernel
theorem dL_law_1443 : decode cL_law 1443 = .ok (.iaload, 1) := by decide +kernel
theorem dL_law_1444 : decode cL_law 1444 = .ok (.invokevirtual 163, 3) := by decide +kernel
theorem dL_law_1447 : decode cL_law 1447 = .ok (.aload_n 2, 1) := by decide +kernel
theorem dL_law_1448 : decode cL_law 1448 = .ok (.aload_n 0, 1) := by decide +kernel
theorem dL_law_1449 : decode cL_law 1449 = .ok (.iload 4, 2) := by decide +kernel
theorem dL_law_1451 : decode cL_law 1451 = .ok (.iconst 1, 1) := by decide +kernel
theorem dL_law_1452 : decode cL_law 1452 = .ok (.iadd, 1) := by decide +kernel
theorem dL_law_1453 : decode cL_law 1453 = .ok (.iaload, 1) := by decide +kernel
theorem dL_law_1454 : decode cL_law 1454 = .ok (.aload_n 0, 1) := by decide +kernel
theorem dL_law_1455 : decode cL_law 1455 = .ok (.iload 4, 2) := by decide +kernel
theorem dL_law_1457 : decode cL_law 1457 = .ok (.iconst 2, 1) := by decide +kernel
theorem dL_law_1458 : decode cL_law 1458 = .ok (.iadd, 1) := by decide +kernel
theorem dL_law_1459 : decode cL_law 1459 = .ok (.iaload, 1) := by decide +kernel
theorem dL_law_1460 : decode cL_law 1460 = .ok (.aload_n 0, 1) := by decide +kernel
theorem dL_law_1461 : decode cL_law 1461 = .ok (.iload 4, 2) := by decide +kernel
theorem dL_law_1463 : decode cL_law 1463 = .ok (.iconst 3, 1) := by decide +kernel
theorem dL_law_1464 : decode cL_law 1464 = .ok (.iadd, 1) := by decide +kernel
theorem dL_law_1465 : decode cL_law 1465 = .ok (.iaload, 1) := by decide +kernel
theorem dL_law_1466 : decode cL_law 1466 = .ok (.invokevirtual 166, 3) := by decide +kernel
theorem dL_law_1469 : decode cL_law 1469 = .ok (.if_icmp .eq 69, 3) := by decide +kernel
theorem dL_law_1472 : decode cL_law 1472 = .ok (.iconst 0, 1) := by decide +kernel
theorem dL_law_1473 : decode cL_law 1473 = .ok (.ireturn, 1) := by decide +kernel
theorem dL_law_1474 : decode cL_law 1474 = .ok (.aload_n 1, 1) := by decide +kernel
theorem dL_law_1475 : decode cL_law 1475 = .ok (.invokevirtual 167, 3) := by decide +kernel
theorem dL_law_1478 : decode cL_law 1478 = .ok (.aload_n 2, 1) := by decide +kernel
theorem dL_law_1479 : decode cL_law 1479 = .ok (.invokevirtual 170, 3) := by decide +kernel
theorem dL_law_1482 : decode cL_law 1482 = .ok (.if_icmp .eq 56, 3) := by decide +kernel
theorem dL_law_1485 : decode cL_law 1485 = .ok (.iconst 0, 1) := by decide +kernel
theorem dL_law_1486 : decode cL_law 1486 = .ok (.ireturn, 1) := by decide +kernel
theorem dL_law_1487 : decode cL_law 1487 = .ok (.aload_n 1, 1) := by decide +kernel
theorem dL_law_1488 : decode cL_law 1488 = .ok (.invokevirtual 171, 3) := by decide +kernel
theorem dL_law_1491 : decode cL_law 1491 = .ok (.aload_n 2, 1) := by decide +kernel
theorem dL_law_1492 : decode cL_law 1492 = .ok (.invokevirtual 174, 3) := by decide +kernel
theorem dL_law_1495 : decode cL_law 1495 = .ok (.if_icmp .eq 43, 3) := by decide +kernel
theorem dL_law_1498 : decode cL_law 1498 = .ok (.iconst 0, 1) := by decide +kernel
theorem dL_law_1499 : decode cL_law 1499 = .ok (.ireturn, 1) := by decide +kernel
theorem dL_law_1500 : decode cL_law 1500 = .ok (.aload_n 1, 1) := by decide +kernel
theorem dL_law_1501 : decode cL_law 1501 = .ok (.invokevirtual 175, 3) := by decide +kernel
theorem dL_law_1504 : decode cL_law 1504 = .ok (.aload_n 2, 1) := by decide +kernel
theorem dL_law_1505 : decode cL_law 1505 = .ok (.invokevirtual 178, 3) := by decide +kernel
theorem dL_law_1508 : decode cL_law 1508 = .ok (.if_icmp .eq 30, 3) := by decide +kernel
theorem dL_law_1511 : decode cL_law 1511 = .ok (.iconst 0, 1) := by decide +kernel
theorem dL_law_1512 : decode cL_law 1512 = .ok (.ireturn, 1) := by decide +kernel
theorem dL_law_1513 : decode cL_law 1513 = .ok (.aload_n 1, 1) := by decide +kernel
theorem dL_law_1514 : decode cL_law 1514 = .ok (.aload_n 0, 1) := by decide +kernel
theorem dL_law_1515 : decode cL_law 1515 = .ok (.iload 4, 2) := by decide +kernel
theorem dL_law_1517 : decode cL_law 1517 = .ok (.iconst 1, 1) := by decide +kernel
theorem dL_law_1518 : decode cL_law 1518 = .ok (.iadd, 1) := by decide +kernel
theorem dL_law_1519 : decode cL_law 1519 = .ok (.iaload, 1) := by decide +kernel
theorem dL_law_1520 : decode cL_law 1520 = .ok (.invokevirtual 179, 3) := by decide +kernel
theorem dL_law_1523 : decode cL_law 1523 = .ok (.aload_n 2, 1) := by decide +kernel
theorem dL_law_1524 : decode cL_law 1524 = .ok (.aload_n 0, 1) := by decide +kernel
theorem dL_law_1525 : decode cL_law 1525 = .ok (.iload 4, 2) := by decide +kernel
theorem dL_law_1527 : decode cL_law 1527 = .ok (.iconst 1, 1) := by decide +kernel
theorem dL_law_1528 : decode cL_law 1528 = .ok (.iadd, 1) := by decide +kernel
theorem dL_law_1529 : decode cL_law 1529 = .ok (.iaload, 1) := by decide +kernel
theorem dL_law_1530 : decode cL_law 1530 = .ok (.invokevirtual 182, 3) := by decide +kernel
theorem dL_law_1533 : decode cL_law 1533 = .ok (.if_icmp .eq 5, 3) := by decide +kernel
theorem dL_law_1536 : decode cL_law 1536 = .ok (.iconst 0, 1) := by decide +kernel
theorem dL_law_1537 : decode cL_law 1537 = .ok (.ireturn, 1) := by decide +kernel
theorem dL_law_1538 : decode cL_law 1538 = .ok (.iinc 4 6, 3) := by decide +kernel
theorem dL_law_1541 : decode cL_law 1541 = .ok (.goto (-1518), 3) := by decide +kernel
theorem dL_law_1544 : decode cL_law 1544 = .ok (.iconst 1, 1) := by decide +kernel
theorem dL_law_1545 : decode cL_law 1545 = .ok (.ireturn, 1) := by decide +kernel
theorem tyA_cca (ca : Nat → Nat) : tyA (cca ca) = tyA ca := rfl
theorem tyA_rca (ca : Nat → Nat) : tyA (rca ca) = tyA ca := rfl
theorem wl_kF {D : va_G} {cb c1 : Nat → ClassId} {adb ad1 : Nat → Nat} {m : Mem} {H H1 : Heap} (hP : va_P D clsL (wl cb adb m) H) (hne : ∀ i j, (c1 10 ≤ i ∧ i < c1 9) → (cb 10 ≤ j ∧ j < cb 9) → ad1 i ≠ adb j) (hk : ∀ z, z < H.size → ¬ WA c1 ad1 H.size z → H1[z]? = H[z]?) : va_P D clsL (wl cb adb m) H1 := by
  refine hP.kept (fun k x hx => ?_)
  have hl : k < cb 9 - cb 10 := by
    have h1 := (List.getElem?_eq_some_iff.mp hx).1
    rw [wl_len] at h1
    exact h1
  have hlt := (hP k x hx).lt
  refine hk x.1 hlt (fun z => ?_)
  rw [wl_at2 hl] at hx
  cases hx
  rcases z with ⟨i, h1, h2⟩ | h1
  · exact hne i _ h1 ⟨Nat.le_add_right _ _, Nat.add_lt_of_lt_sub' hl⟩ h2.symm
  · exact absurd hlt (Nat.not_lt.mpr h1)
theorem oC_kF {D : va_G} {ca c1 : Nat → ClassId} {ad1 : Nat → Nat} {q : Nat} {o : Nat → Int64} {H H1 : Heap} (hO : va_P D clsL (oC ca q o) H) (hne : ∀ i, (c1 10 ≤ i ∧ i < c1 9) → ad1 i ≠ q) (hk : ∀ z, z < H.size → ¬ WA c1 ad1 H.size z → H1[z]? = H[z]?) : va_P D clsL (oC ca q o) H1 := by
  refine hO.kept (fun j x hx9 => ?_)
  have hlt := (hO j x hx9).lt
  have hj0 : j < 1 := (List.getElem?_eq_some_iff.mp hx9).1
  have hj1 : j = 0 := by omega
  subst hj1
  cases hx9
  refine hk q hlt (fun z => ?_)
  rcases z with ⟨i, h1, h2⟩ | h1
  · exact hne i h1 h2.symm
  · exact absurd hlt (Nat.not_lt.mpr h1)
section LAWR
variable {p : Program} {l : Launch} {e : Env} {R : Room} {s : State} {mm : MethodId} {args : Array Value} {below : List Frame} {meth : Method} {c : Code} {H : Heap} {locs : List Loc} {cells slots : Nat} {Q : State → Prop}
variable {cc : ByteArray} {nL : Nat} {own : String} {D : va_G} {ca ad : Nat → Nat} {A : Nat → Prop} {pc : Nat} {ls : Array Slot} {rest st0 : List Value} {m m' : Mem}
theorem backIf {r : Int32} {a : Array Value} {F : Heap → Prop} (X : CX p s mm args meth c cc nL own D ca ad A) (hI : IW D ca ad A s m H locs) (hF : ∀ H1 : Heap, (∀ z : Nat, z < H.size → ¬ WA ca ad H.size z → H1[z]? = H[z]?) → F H1) (hr : va_Run p l e R s mm args below meth c H locs cells slots 0 0 (F0 mm pc ls st0) rest (QI D ca ad H.size r m' a) (WA ca ad H.size))
    (kk : ∀ H1 locs1, IW D ca ad A s m' H1 locs1 → F H1 → W p l e R s mm args below meth c H1 locs1 cells slots Q (F0 mm (pc + 3) ls (.int r :: rest))) : W p l e R s mm args below meth c H locs cells slots Q (F0 mm pc ls st0) := by
  refine va_calli hr hI.2 (fun q _ h => wa_A X hI.2 q h) (wa_A X hI.2) (fun r1 u t H1 locs1 ht hvm hw hB hz1 hk1 hS => ?_)
  obtain ⟨rfl, rfl⟩ := hw
  exact kk H1 locs1 ⟨by rw [← ht]; exact hB.1, hS⟩ (hF H1 hk1)
theorem backLf {r : Int64} {a : Array Value} {F : Heap → Prop} (X : CX p s mm args meth c cc nL own D ca ad A) (hI : IW D ca ad A s m H locs) (hF : ∀ H1 : Heap, (∀ z : Nat, z < H.size → ¬ WA ca ad H.size z → H1[z]? = H[z]?) → F H1) (hr : va_Run p l e R s mm args below meth c H locs cells slots 0 0 (F0 mm pc ls st0) rest (QL D ca ad H.size r m' a) (WA ca ad H.size))
    (kk : ∀ H1 locs1, IW D ca ad A s m' H1 locs1 → F H1 → W p l e R s mm args below meth c H1 locs1 cells slots Q (F0 mm (pc + 3) ls (.long r :: rest))) : W p l e R s mm args below meth c H locs cells slots Q (F0 mm pc ls st0) := by
  refine va_calll hr hI.2 (fun q _ h => wa_A X hI.2 q h) (wa_A X hI.2) (fun r1 u t H1 locs1 ht hvm hw hB hz1 hk1 hS => ?_)
  obtain ⟨rfl, rfl⟩ := hw
  exact kk H1 locs1 ⟨by rw [← ht]; exact hB.1, hS⟩ (hF H1 hk1)
end LAWR
/-- the two sides' cells and the one long are apart -/
def DJ (ca adC adR : Nat → Nat) (q : Nat) : Prop := (∀ i j, ((cca ca) 10 ≤ i ∧ i < (cca ca) 9) → ((rca ca) 10 ≤ j ∧ j < (rca ca) 9) → adC i ≠ adR j) ∧ (∀ i, ((cca ca) 10 ≤ i ∧ i < (cca ca) 9) → adC i ≠ q) ∧ (∀ j, ((rca ca) 10 ≤ j ∧ j < (rca ca) 9) → adR j ≠ q)
theorem lg_cmp_self (x : Int64) : lg_cmp x x = 0 := by
  unfold lg_cmp
  rw [if_neg (by intro h; exact absurd h (by rw [gt_iff_lt]; exact Int64.lt_irrefl)), if_pos rfl]

theorem pdX11_feed : yX11_feed.cls ≠ "java/lang/invoke/MethodHandle" ∧ yX11_feed.cls ≠ "java/lang/invoke/VarHandle" ∧ (parseMethodDescriptor yX11_feed.desc).map (fun d => d.parameters.length) = some 5 := by decide +kernel
theorem mdL_21 : MD RL 21 yX11_feed cwX11_feed 5 := ⟨(tb3 (List.mem_of_getElem? (i := 59) rfl) rfl), (tb3 (List.mem_of_getElem? (i := 60) rfl) rfl), (tb3 (List.mem_of_getElem? (i := 61) rfl) rfl), (tb1 (List.mem_of_getElem? (i := 1) rfl) rfl), cmX11_feed, pdX11_feed⟩
theorem pdX12_feed : yX12_feed.cls ≠ "java/lang/invoke/MethodHandle" ∧ yX12_feed.cls ≠ "java/lang/invoke/VarHandle" ∧ (parseMethodDescriptor yX12_feed.desc).map (fun d => d.parameters.length) = some 5 := by decide +kernel
theorem mdL_25 : MD RL 25 yX12_feed cwX12_feed 5 := ⟨(tb6 (List.mem_of_getElem? (i := 238) rfl) rfl), (tb6 (List.mem_of_getElem? (i := 239) rfl) rfl), (tb7 (List.mem_of_getElem? (i := 0) rfl) rfl), (tb1 (List.mem_of_getElem? (i := 17) rfl) rfl), cmX12_feed, pdX12_feed⟩
theorem pdX11_text : yX11_text.cls ≠ "java/lang/invoke/MethodHandle" ∧ yX11_text.cls ≠ "java/lang/invoke/VarHandle" ∧ (parseMethodDescriptor yX11_text.desc).map (fun d => d.parameters.length) = some 1 := by decide +kernel
theorem mdL_26 : MD RL 26 yX11_text cwX11_text 1 := ⟨(tb3 (List.mem_of_getElem? (i := 67) rfl) rfl), (tb3 (List.mem_of_getElem? (i := 68) rfl) rfl), (tb3 (List.mem_of_getElem? (i := 69) rfl) rfl), (tb1 (List.mem_of_getElem? (i := 1) rfl) rfl), cmX11_text, pdX11_text⟩
theorem pdX12_text : yX12_text.cls ≠ "java/lang/invoke/MethodHandle" ∧ yX12_text.cls ≠ "java/lang/invoke/VarHandle" ∧ (parseMethodDescriptor yX12_text.desc).map (fun d => d.parameters.length) = some 1 := by decide +kernel
theorem mdL_30 : MD RL 30 yX12_text cwX12_text 1 := ⟨(tb7 (List.mem_of_getElem? (i := 2) rfl) rfl), (tb7 (List.mem_of_getElem? (i := 3) rfl) rfl), (tb7 (List.mem_of_getElem? (i := 4) rfl) rfl), (tb1 (List.mem_of_getElem? (i := 17) rfl) rfl), cmX12_text, pdX12_text⟩
theorem pdX11_fault : yX11_fault.cls ≠ "java/lang/invoke/MethodHandle" ∧ yX11_fault.cls ≠ "java/lang/invoke/VarHandle" ∧ (parseMethodDescriptor yX11_fault.desc).map (fun d => d.parameters.length) = some 1 := by decide +kernel
theorem mdL_31 : MD RL 31 yX11_fault cwX11_fault 1 := ⟨(tb4 (List.mem_of_getElem? (i := 10) rfl) rfl), (tb4 (List.mem_of_getElem? (i := 11) rfl) rfl), (tb4 (List.mem_of_getElem? (i := 12) rfl) rfl), (tb1 (List.mem_of_getElem? (i := 1) rfl) rfl), cmX11_fault, pdX11_fault⟩
theorem pdX12_fault : yX12_fault.cls ≠ "java/lang/invoke/MethodHandle" ∧ yX12_fault.cls ≠ "java/lang/invoke/VarHandle" ∧ (parseMethodDescriptor yX12_fault.desc).map (fun d => d.parameters.length) = some 1 := by decide +kernel
theorem mdL_34 : MD RL 34 yX12_fault cwX12_fault 1 := ⟨(tb7 (List.mem_of_getElem? (i := 130) rfl) rfl), (tb7 (List.mem_of_getElem? (i := 131) rfl) rfl), (tb7 (List.mem_of_getElem? (i := 132) rfl) rfl), (tb1 (List.mem_of_getElem? (i := 17) rfl) rfl), cmX12_fault, pdX12_fault⟩
theorem pdX11_named : yX11_named.cls ≠ "java/lang/invoke/MethodHandle" ∧ yX11_named.cls ≠ "java/lang/invoke/VarHandle" ∧ (parseMethodDescriptor yX11_named.desc).map (fun d => d.parameters.length) = some 2 := by decide +kernel
theorem mdL_35 : MD RL 35 yX11_named cwX11_named 2 := ⟨(tb4 (List.mem_of_getElem? (i := 14) rfl) rfl), (tb4 (List.mem_of_getElem? (i := 15) rfl) rfl), (tb4 (List.mem_of_getElem? (i := 16) rfl) rfl), (tb1 (List.mem_of_getElem? (i := 1) rfl) rfl), cmX11_named, pdX11_named⟩
theorem pdX12_named : yX12_named.cls ≠ "java/lang/invoke/MethodHandle" ∧ yX12_named.cls ≠ "java/lang/invoke/VarHandle" ∧ (parseMethodDescriptor yX12_named.desc).map (fun d => d.parameters.length) = some 2 := by decide +kernel
theorem mdL_38 : MD RL 38 yX12_named cwX12_named 2 := ⟨(tb7 (List.mem_of_getElem? (i := 134) rfl) rfl), (tb7 (List.mem_of_getElem? (i := 135) rfl) rfl), (tb7 (List.mem_of_getElem? (i := 136) rfl) rfl), (tb1 (List.mem_of_getElem? (i := 17) rfl) rfl), cmX12_named, pdX12_named⟩
theorem pdX12_tub : yX12_tub.cls ≠ "java/lang/invoke/MethodHandle" ∧ yX12_tub.cls ≠ "java/lang/invoke/VarHandle" ∧ (parseMethodDescriptor yX12_tub.desc).map (fun d => d.parameters.length) = some 2 := by decide +kernel
theorem mdL_44 : MD RL 44 yX12_tub cwX12_tub 2 := ⟨(tb7 (List.mem_of_getElem? (i := 138) rfl) rfl), (tb7 (List.mem_of_getElem? (i := 139) rfl) rfl), (tb7 (List.mem_of_getElem? (i := 140) rfl) rfl), (tb1 (List.mem_of_getElem? (i := 17) rfl) rfl), cmX12_tub, pdX12_tub⟩
theorem pdX12_thrown : yX12_thrown.cls ≠ "java/lang/invoke/MethodHandle" ∧ yX12_thrown.cls ≠ "java/lang/invoke/VarHandle" ∧ (parseMethodDescriptor yX12_thrown.desc).map (fun d => d.parameters.length) = some 0 := by decide +kernel
theorem mdL_45 : MD RL 45 yX12_thrown cwX12_thrown 0 := ⟨(tb6 (List.mem_of_getElem? (i := 234) rfl) rfl), (tb6 (List.mem_of_getElem? (i := 235) rfl) rfl), (tb6 (List.mem_of_getElem? (i := 236) rfl) rfl), (tb1 (List.mem_of_getElem? (i := 17) rfl) rfl), cmX12_thrown, pdX12_thrown⟩
theorem pdX11_knight : yX11_knight.cls ≠ "java/lang/invoke/MethodHandle" ∧ yX11_knight.cls ≠ "java/lang/invoke/VarHandle" ∧ (parseMethodDescriptor yX11_knight.desc).map (fun d => d.parameters.length) = some 2 := by decide +kernel
theorem mdL_49 : MD RL 49 yX11_knight cwX11_knight 2 := ⟨(tb4 (List.mem_of_getElem? (i := 19) rfl) rfl), (tb4 (List.mem_of_getElem? (i := 20) rfl) rfl), (tb4 (List.mem_of_getElem? (i := 21) rfl) rfl), (tb1 (List.mem_of_getElem? (i := 1) rfl) rfl), cmX11_knight, pdX11_knight⟩
theorem pdX12_knight : yX12_knight.cls ≠ "java/lang/invoke/MethodHandle" ∧ yX12_knight.cls ≠ "java/lang/invoke/VarHandle" ∧ (parseMethodDescriptor yX12_knight.desc).map (fun d => d.parameters.length) = some 2 := by decide +kernel
theorem mdL_52 : MD RL 52 yX12_knight cwX12_knight 2 := ⟨(tb7 (List.mem_of_getElem? (i := 153) rfl) rfl), (tb7 (List.mem_of_getElem? (i := 154) rfl) rfl), (tb7 (List.mem_of_getElem? (i := 155) rfl) rfl), (tb1 (List.mem_of_getElem? (i := 17) rfl) rfl), cmX12_knight, pdX12_knight⟩
theorem pdX11_atEase : yX11_atEase.cls ≠ "java/lang/invoke/MethodHandle" ∧ yX11_atEase.cls ≠ "java/lang/invoke/VarHandle" ∧ (parseMethodDescriptor yX11_atEase.desc).map (fun d => d.parameters.length) = some 2 := by decide +kernel
theorem mdL_53 : MD RL 53 yX11_atEase cwX11_atEase 2 := ⟨(tb4 (List.mem_of_getElem? (i := 29) rfl) rfl), (tb4 (List.mem_of_getElem? (i := 30) rfl) rfl), (tb4 (List.mem_of_getElem? (i := 31) rfl) rfl), (tb1 (List.mem_of_getElem? (i := 1) rfl) rfl), cmX11_atEase, pdX11_atEase⟩
theorem pdX12_atEase : yX12_atEase.cls ≠ "java/lang/invoke/MethodHandle" ∧ yX12_atEase.cls ≠ "java/lang/invoke/VarHandle" ∧ (parseMethodDescriptor yX12_atEase.desc).map (fun d => d.parameters.length) = some 2 := by decide +kernel
theorem mdL_56 : MD RL 56 yX12_atEase cwX12_atEase 2 := ⟨(tb7 (List.mem_of_getElem? (i := 161) rfl) rfl), (tb7 (List.mem_of_getElem? (i := 162) rfl) rfl), (tb7 (List.mem_of_getElem? (i := 163) rfl) rfl), (tb1 (List.mem_of_getElem? (i := 17) rfl) rfl), cmX12_atEase, pdX12_atEase⟩
theorem pdX11_law : yX11_law.cls ≠ "java/lang/invoke/MethodHandle" ∧ yX11_law.cls ≠ "java/lang/invoke/VarHandle" ∧ (parseMethodDescriptor yX11_law.desc).map (fun d => d.parameters.length) = some 3 := by decide +kernel
theorem mdL_57 : MD RL 57 yX11_law cwX11_law 3 := ⟨(tb4 (List.mem_of_getElem? (i := 58) rfl) rfl), (tb4 (List.mem_of_getElem? (i := 59) rfl) rfl), (tb4 (List.mem_of_getElem? (i := 60) rfl) rfl), (tb1 (List.mem_of_getElem? (i := 1) rfl) rfl), cmX11_law, pdX11_law⟩
theorem pdX12_law : yX12_law.cls ≠ "java/lang/invoke/MethodHandle" ∧ yX12_law.cls ≠ "java/lang/invoke/VarHandle" ∧ (parseMethodDescriptor yX12_law.desc).map (fun d => d.parameters.length) = some 3 := by decide +kernel
theorem mdL_61 : MD RL 61 yX12_law cwX12_law 3 := ⟨(tb7 (List.mem_of_getElem? (i := 193) rfl) rfl), (tb7 (List.mem_of_getElem? (i := 194) rfl) rfl), (tb7 (List.mem_of_getElem? (i := 195) rfl) rfl), (tb1 (List.mem_of_getElem? (i := 17) rfl) rfl), cmX12_law, pdX12_law⟩
theorem pdX11_add : yX11_add.cls ≠ "java/lang/invoke/MethodHandle" ∧ yX11_add.cls ≠ "java/lang/invoke/VarHandle" ∧ (parseMethodDescriptor yX11_add.desc).map (fun d => d.parameters.length) = some 2 := by decide +kernel
theorem mdL_62 : MD RL 62 yX11_add cwX11_add 2 := ⟨(tb4 (List.mem_of_getElem? (i := 64) rfl) rfl), (tb4 (List.mem_of_getElem? (i := 65) rfl) rfl), (tb4 (List.mem_of_getElem? (i := 66) rfl) rfl), (tb1 (List.mem_of_getElem? (i := 1) rfl) rfl), cmX11_add, pdX11_add⟩
theorem pdX12_add : yX12_add.cls ≠ "java/lang/invoke/MethodHandle" ∧ yX12_add.cls ≠ "java/lang/invoke/VarHandle" ∧ (parseMethodDescriptor yX12_add.desc).map (fun d => d.parameters.length) = some 2 := by decide +kernel
theorem mdL_65 : MD RL 65 yX12_add cwX12_add 2 := ⟨(tb7 (List.mem_of_getElem? (i := 198) rfl) rfl), (tb7 (List.mem_of_getElem? (i := 199) rfl) rfl), (tb7 (List.mem_of_getElem? (i := 200) rfl) rfl), (tb1 (List.mem_of_getElem? (i := 17) rfl) rfl), cmX12_add, pdX12_add⟩
theorem pdX11_pour : yX11_pour.cls ≠ "java/lang/invoke/MethodHandle" ∧ yX11_pour.cls ≠ "java/lang/invoke/VarHandle" ∧ (parseMethodDescriptor yX11_pour.desc).map (fun d => d.parameters.length) = some 3 := by decide +kernel
theorem mdL_66 : MD RL 66 yX11_pour cwX11_pour 3 := ⟨(tb4 (List.mem_of_getElem? (i := 93) rfl) rfl), (tb4 (List.mem_of_getElem? (i := 94) rfl) rfl), (tb4 (List.mem_of_getElem? (i := 95) rfl) rfl), (tb1 (List.mem_of_getElem? (i := 1) rfl) rfl), cmX11_pour, pdX11_pour⟩
theorem pdX12_pour : yX12_pour.cls ≠ "java/lang/invoke/MethodHandle" ∧ yX12_pour.cls ≠ "java/lang/invoke/VarHandle" ∧ (parseMethodDescriptor yX12_pour.desc).map (fun d => d.parameters.length) = some 3 := by decide +kernel
theorem mdL_70 : MD RL 70 yX12_pour cwX12_pour 3 := ⟨(tb7 (List.mem_of_getElem? (i := 217) rfl) rfl), (tb7 (List.mem_of_getElem? (i := 218) rfl) rfl), (tb7 (List.mem_of_getElem? (i := 219) rfl) rfl), (tb1 (List.mem_of_getElem? (i := 17) rfl) rfl), cmX12_pour, pdX12_pour⟩
theorem pdX11_sit : yX11_sit.cls ≠ "java/lang/invoke/MethodHandle" ∧ yX11_sit.cls ≠ "java/lang/invoke/VarHandle" ∧ (parseMethodDescriptor yX11_sit.desc).map (fun d => d.parameters.length) = some 2 := by decide +kernel
theorem mdL_71 : MD RL 71 yX11_sit cwX11_sit 2 := ⟨(tb4 (List.mem_of_getElem? (i := 97) rfl) rfl), (tb4 (List.mem_of_getElem? (i := 98) rfl) rfl), (tb4 (List.mem_of_getElem? (i := 99) rfl) rfl), (tb1 (List.mem_of_getElem? (i := 1) rfl) rfl), cmX11_sit, pdX11_sit⟩
theorem pdX12_sit : yX12_sit.cls ≠ "java/lang/invoke/MethodHandle" ∧ yX12_sit.cls ≠ "java/lang/invoke/VarHandle" ∧ (parseMethodDescriptor yX12_sit.desc).map (fun d => d.parameters.length) = some 2 := by decide +kernel
theorem mdL_75 : MD RL 75 yX12_sit cwX12_sit 2 := ⟨(tb7 (List.mem_of_getElem? (i := 221) rfl) rfl), (tb7 (List.mem_of_getElem? (i := 222) rfl) rfl), (tb7 (List.mem_of_getElem? (i := 223) rfl) rfl), (tb1 (List.mem_of_getElem? (i := 17) rfl) rfl), cmX12_sit, pdX12_sit⟩
theorem pdX11_rise : yX11_rise.cls ≠ "java/lang/invoke/MethodHandle" ∧ yX11_rise.cls ≠ "java/lang/invoke/VarHandle" ∧ (parseMethodDescriptor yX11_rise.desc).map (fun d => d.parameters.length) = some 1 := by decide +kernel
theorem mdL_76 : MD RL 76 yX11_rise cwX11_rise 1 := ⟨(tb4 (List.mem_of_getElem? (i := 112) rfl) rfl), (tb4 (List.mem_of_getElem? (i := 113) rfl) rfl), (tb4 (List.mem_of_getElem? (i := 114) rfl) rfl), (tb1 (List.mem_of_getElem? (i := 1) rfl) rfl), cmX11_rise, pdX11_rise⟩
theorem pdX12_rise : yX12_rise.cls ≠ "java/lang/invoke/MethodHandle" ∧ yX12_rise.cls ≠ "java/lang/invoke/VarHandle" ∧ (parseMethodDescriptor yX12_rise.desc).map (fun d => d.parameters.length) = some 1 := by decide +kernel
theorem mdL_80 : MD RL 80 yX12_rise cwX12_rise 1 := ⟨(tb7 (List.mem_of_getElem? (i := 229) rfl) rfl), (tb7 (List.mem_of_getElem? (i := 230) rfl) rfl), (tb7 (List.mem_of_getElem? (i := 231) rfl) rfl), (tb1 (List.mem_of_getElem? (i := 17) rfl) rfl), cmX12_rise, pdX12_rise⟩
theorem pdX11_go : yX11_go.cls ≠ "java/lang/invoke/MethodHandle" ∧ yX11_go.cls ≠ "java/lang/invoke/VarHandle" ∧ (parseMethodDescriptor yX11_go.desc).map (fun d => d.parameters.length) = some 1 := by decide +kernel
theorem mdL_81 : MD RL 81 yX11_go cwX11_go 1 := ⟨(tb4 (List.mem_of_getElem? (i := 117) rfl) rfl), (tb4 (List.mem_of_getElem? (i := 118) rfl) rfl), (tb4 (List.mem_of_getElem? (i := 119) rfl) rfl), (tb1 (List.mem_of_getElem? (i := 1) rfl) rfl), cmX11_go, pdX11_go⟩
theorem pdX12_go : yX12_go.cls ≠ "java/lang/invoke/MethodHandle" ∧ yX12_go.cls ≠ "java/lang/invoke/VarHandle" ∧ (parseMethodDescriptor yX12_go.desc).map (fun d => d.parameters.length) = some 1 := by decide +kernel
theorem mdL_84 : MD RL 84 yX12_go cwX12_go 1 := ⟨(tb7 (List.mem_of_getElem? (i := 237) rfl) rfl), (tb7 (List.mem_of_getElem? (i := 238) rfl) rfl), (tb7 (List.mem_of_getElem? (i := 239) rfl) rfl), (tb1 (List.mem_of_getElem? (i := 17) rfl) rfl), cmX12_go, pdX12_go⟩
theorem pdX11_ahead : yX11_ahead.cls ≠ "java/lang/invoke/MethodHandle" ∧ yX11_ahead.cls ≠ "java/lang/invoke/VarHandle" ∧ (parseMethodDescriptor yX11_ahead.desc).map (fun d => d.parameters.length) = some 3 := by decide +kernel
theorem mdL_85 : MD RL 85 yX11_ahead cwX11_ahead 3 := ⟨(tb4 (List.mem_of_getElem? (i := 178) rfl) rfl), (tb4 (List.mem_of_getElem? (i := 179) rfl) rfl), (tb4 (List.mem_of_getElem? (i := 180) rfl) rfl), (tb1 (List.mem_of_getElem? (i := 1) rfl) rfl), cmX11_ahead, pdX11_ahead⟩
theorem pdX12_ahead : yX12_ahead.cls ≠ "java/lang/invoke/MethodHandle" ∧ yX12_ahead.cls ≠ "java/lang/invoke/VarHandle" ∧ (parseMethodDescriptor yX12_ahead.desc).map (fun d => d.parameters.length) = some 3 := by decide +kernel
theorem mdL_88 : MD RL 88 yX12_ahead cwX12_ahead 3 := ⟨(tb8 (List.mem_of_getElem? (i := 35) rfl) rfl), (tb8 (List.mem_of_getElem? (i := 36) rfl) rfl), (tb8 (List.mem_of_getElem? (i := 37) rfl) rfl), (tb1 (List.mem_of_getElem? (i := 17) rfl) rfl), cmX12_ahead, pdX12_ahead⟩
theorem pdX11_cools : yX11_cools.cls ≠ "java/lang/invoke/MethodHandle" ∧ yX11_cools.cls ≠ "java/lang/invoke/VarHandle" ∧ (parseMethodDescriptor yX11_cools.desc).map (fun d => d.parameters.length) = some 2 := by decide +kernel
theorem mdL_89 : MD RL 89 yX11_cools cwX11_cools 2 := ⟨(tb4 (List.mem_of_getElem? (i := 199) rfl) rfl), (tb4 (List.mem_of_getElem? (i := 200) rfl) rfl), (tb4 (List.mem_of_getElem? (i := 201) rfl) rfl), (tb1 (List.mem_of_getElem? (i := 1) rfl) rfl), cmX11_cools, pdX11_cools⟩
theorem pdX12_cools : yX12_cools.cls ≠ "java/lang/invoke/MethodHandle" ∧ yX12_cools.cls ≠ "java/lang/invoke/VarHandle" ∧ (parseMethodDescriptor yX12_cools.desc).map (fun d => d.parameters.length) = some 2 := by decide +kernel
theorem mdL_92 : MD RL 92 yX12_cools cwX12_cools 2 := ⟨(tb8 (List.mem_of_getElem? (i := 47) rfl) rfl), (tb8 (List.mem_of_getElem? (i := 48) rfl) rfl), (tb8 (List.mem_of_getElem? (i := 49) rfl) rfl), (tb1 (List.mem_of_getElem? (i := 17) rfl) rfl), cmX12_cools, pdX12_cools⟩
theorem pdX11_flinches : yX11_flinches.cls ≠ "java/lang/invoke/MethodHandle" ∧ yX11_flinches.cls ≠ "java/lang/invoke/VarHandle" ∧ (parseMethodDescriptor yX11_flinches.desc).map (fun d => d.parameters.length) = some 1 := by decide +kernel
theorem mdL_93 : MD RL 93 yX11_flinches cwX11_flinches 1 := ⟨(tb4 (List.mem_of_getElem? (i := 207) rfl) rfl), (tb4 (List.mem_of_getElem? (i := 208) rfl) rfl), (tb4 (List.mem_of_getElem? (i := 209) rfl) rfl), (tb1 (List.mem_of_getElem? (i := 1) rfl) rfl), cmX11_flinches, pdX11_flinches⟩
theorem pdX12_flinches : yX12_flinches.cls ≠ "java/lang/invoke/MethodHandle" ∧ yX12_flinches.cls ≠ "java/lang/invoke/VarHandle" ∧ (parseMethodDescriptor yX12_flinches.desc).map (fun d => d.parameters.length) = some 1 := by decide +kernel
theorem mdL_96 : MD RL 96 yX12_flinches cwX12_flinches 1 := ⟨(tb8 (List.mem_of_getElem? (i := 54) rfl) rfl), (tb8 (List.mem_of_getElem? (i := 55) rfl) rfl), (tb8 (List.mem_of_getElem? (i := 56) rfl) rfl), (tb1 (List.mem_of_getElem? (i := 17) rfl) rfl), cmX12_flinches, pdX12_flinches⟩
theorem pdX11_order : yX11_order.cls ≠ "java/lang/invoke/MethodHandle" ∧ yX11_order.cls ≠ "java/lang/invoke/VarHandle" ∧ (parseMethodDescriptor yX11_order.desc).map (fun d => d.parameters.length) = some 1 := by decide +kernel
theorem mdL_97 : MD RL 97 yX11_order cwX11_order 1 := ⟨(tb4 (List.mem_of_getElem? (i := 211) rfl) rfl), (tb4 (List.mem_of_getElem? (i := 212) rfl) rfl), (tb4 (List.mem_of_getElem? (i := 213) rfl) rfl), (tb1 (List.mem_of_getElem? (i := 1) rfl) rfl), cmX11_order, pdX11_order⟩
theorem pdX12_order : yX12_order.cls ≠ "java/lang/invoke/MethodHandle" ∧ yX12_order.cls ≠ "java/lang/invoke/VarHandle" ∧ (parseMethodDescriptor yX12_order.desc).map (fun d => d.parameters.length) = some 1 := by decide +kernel
theorem mdL_100 : MD RL 100 yX12_order cwX12_order 1 := ⟨(tb8 (List.mem_of_getElem? (i := 58) rfl) rfl), (tb8 (List.mem_of_getElem? (i := 59) rfl) rfl), (tb8 (List.mem_of_getElem? (i := 60) rfl) rfl), (tb1 (List.mem_of_getElem? (i := 17) rfl) rfl), cmX12_order, pdX12_order⟩
theorem pdX11_addFor : yX11_addFor.cls ≠ "java/lang/invoke/MethodHandle" ∧ yX11_addFor.cls ≠ "java/lang/invoke/VarHandle" ∧ (parseMethodDescriptor yX11_addFor.desc).map (fun d => d.parameters.length) = some 2 := by decide +kernel
theorem mdL_101 : MD RL 101 yX11_addFor cwX11_addFor 2 := ⟨(tb4 (List.mem_of_getElem? (i := 219) rfl) rfl), (tb4 (List.mem_of_getElem? (i := 220) rfl) rfl), (tb4 (List.mem_of_getElem? (i := 221) rfl) rfl), (tb1 (List.mem_of_getElem? (i := 1) rfl) rfl), cmX11_addFor, pdX11_addFor⟩
theorem pdX12_addFor : yX12_addFor.cls ≠ "java/lang/invoke/MethodHandle" ∧ yX12_addFor.cls ≠ "java/lang/invoke/VarHandle" ∧ (parseMethodDescriptor yX12_addFor.desc).map (fun d => d.parameters.length) = some 2 := by decide +kernel
theorem mdL_104 : MD RL 104 yX12_addFor cwX12_addFor 2 := ⟨(tb8 (List.mem_of_getElem? (i := 66) rfl) rfl), (tb8 (List.mem_of_getElem? (i := 67) rfl) rfl), (tb8 (List.mem_of_getElem? (i := 68) rfl) rfl), (tb1 (List.mem_of_getElem? (i := 17) rfl) rfl), cmX12_addFor, pdX12_addFor⟩
theorem pdX11_coal : yX11_coal.cls ≠ "java/lang/invoke/MethodHandle" ∧ yX11_coal.cls ≠ "java/lang/invoke/VarHandle" ∧ (parseMethodDescriptor yX11_coal.desc).map (fun d => d.parameters.length) = some 1 := by decide +kernel
theorem mdL_105 : MD RL 105 yX11_coal cwX11_coal 1 := ⟨(tb4 (List.mem_of_getElem? (i := 228) rfl) rfl), (tb4 (List.mem_of_getElem? (i := 229) rfl) rfl), (tb4 (List.mem_of_getElem? (i := 230) rfl) rfl), (tb1 (List.mem_of_getElem? (i := 1) rfl) rfl), cmX11_coal, pdX11_coal⟩
theorem pdX12_coal : yX12_coal.cls ≠ "java/lang/invoke/MethodHandle" ∧ yX12_coal.cls ≠ "java/lang/invoke/VarHandle" ∧ (parseMethodDescriptor yX12_coal.desc).map (fun d => d.parameters.length) = some 1 := by decide +kernel
theorem mdL_108 : MD RL 108 yX12_coal cwX12_coal 1 := ⟨(tb8 (List.mem_of_getElem? (i := 74) rfl) rfl), (tb8 (List.mem_of_getElem? (i := 75) rfl) rfl), (tb8 (List.mem_of_getElem? (i := 76) rfl) rfl), (tb1 (List.mem_of_getElem? (i := 17) rfl) rfl), cmX12_coal, pdX12_coal⟩
theorem pdX11_together : yX11_together.cls ≠ "java/lang/invoke/MethodHandle" ∧ yX11_together.cls ≠ "java/lang/invoke/VarHandle" ∧ (parseMethodDescriptor yX11_together.desc).map (fun d => d.parameters.length) = some 2 := by decide +kernel
theorem mdL_109 : MD RL 109 yX11_together cwX11_together 2 := ⟨(tb4 (List.mem_of_getElem? (i := 232) rfl) rfl), (tb4 (List.mem_of_getElem? (i := 233) rfl) rfl), (tb4 (List.mem_of_getElem? (i := 234) rfl) rfl), (tb1 (List.mem_of_getElem? (i := 1) rfl) rfl), cmX11_together, pdX11_together⟩
theorem pdX12_together : yX12_together.cls ≠ "java/lang/invoke/MethodHandle" ∧ yX12_together.cls ≠ "java/lang/invoke/VarHandle" ∧ (parseMethodDescriptor yX12_together.desc).map (fun d => d.parameters.length) = some 2 := by decide +kernel
theorem mdL_112 : MD RL 112 yX12_together cwX12_together 2 := ⟨(tb8 (List.mem_of_getElem? (i := 78) rfl) rfl), (tb8 (List.mem_of_getElem? (i := 79) rfl) rfl), (tb8 (List.mem_of_getElem? (i := 80) rfl) rfl), (tb1 (List.mem_of_getElem? (i := 17) rfl) rfl), cmX12_together, pdX12_together⟩
theorem pdX11_match : yX11_match.cls ≠ "java/lang/invoke/MethodHandle" ∧ yX11_match.cls ≠ "java/lang/invoke/VarHandle" ∧ (parseMethodDescriptor yX11_match.desc).map (fun d => d.parameters.length) = some 1 := by decide +kernel
theorem mdL_113 : MD RL 113 yX11_match cwX11_match 1 := ⟨(tb5 (List.mem_of_getElem? (i := 0) rfl) rfl), (tb5 (List.mem_of_getElem? (i := 1) rfl) rfl), (tb5 (List.mem_of_getElem? (i := 2) rfl) rfl), (tb1 (List.mem_of_getElem? (i := 1) rfl) rfl), cmX11_match, pdX11_match⟩
theorem pdX12_match : yX12_match.cls ≠ "java/lang/invoke/MethodHandle" ∧ yX12_match.cls ≠ "java/lang/invoke/VarHandle" ∧ (parseMethodDescriptor yX12_match.desc).map (fun d => d.parameters.length) = some 1 := by decide +kernel
theorem mdL_116 : MD RL 116 yX12_match cwX12_match 1 := ⟨(tb8 (List.mem_of_getElem? (i := 85) rfl) rfl), (tb8 (List.mem_of_getElem? (i := 86) rfl) rfl), (tb8 (List.mem_of_getElem? (i := 87) rfl) rfl), (tb1 (List.mem_of_getElem? (i := 17) rfl) rfl), cmX12_match, pdX12_match⟩
theorem pdX11_game : yX11_game.cls ≠ "java/lang/invoke/MethodHandle" ∧ yX11_game.cls ≠ "java/lang/invoke/VarHandle" ∧ (parseMethodDescriptor yX11_game.desc).map (fun d => d.parameters.length) = some 3 := by decide +kernel
theorem mdL_117 : MD RL 117 yX11_game cwX11_game 3 := ⟨(tb5 (List.mem_of_getElem? (i := 23) rfl) rfl), (tb5 (List.mem_of_getElem? (i := 24) rfl) rfl), (tb5 (List.mem_of_getElem? (i := 25) rfl) rfl), (tb1 (List.mem_of_getElem? (i := 1) rfl) rfl), cmX11_game, pdX11_game⟩
theorem pdX12_game : yX12_game.cls ≠ "java/lang/invoke/MethodHandle" ∧ yX12_game.cls ≠ "java/lang/invoke/VarHandle" ∧ (parseMethodDescriptor yX12_game.desc).map (fun d => d.parameters.length) = some 3 := by decide +kernel
theorem mdL_120 : MD RL 120 yX12_game cwX12_game 3 := ⟨(tb8 (List.mem_of_getElem? (i := 93) rfl) rfl), (tb8 (List.mem_of_getElem? (i := 94) rfl) rfl), (tb8 (List.mem_of_getElem? (i := 95) rfl) rfl), (tb1 (List.mem_of_getElem? (i := 17) rfl) rfl), cmX12_game, pdX12_game⟩
theorem pdX11_tells : yX11_tells.cls ≠ "java/lang/invoke/MethodHandle" ∧ yX11_tells.cls ≠ "java/lang/invoke/VarHandle" ∧ (parseMethodDescriptor yX11_tells.desc).map (fun d => d.parameters.length) = some 1 := by decide +kernel
theorem mdL_121 : MD RL 121 yX11_tells cwX11_tells 1 := ⟨(tb5 (List.mem_of_getElem? (i := 31) rfl) rfl), (tb5 (List.mem_of_getElem? (i := 32) rfl) rfl), (tb5 (List.mem_of_getElem? (i := 33) rfl) rfl), (tb1 (List.mem_of_getElem? (i := 1) rfl) rfl), cmX11_tells, pdX11_tells⟩
theorem pdX12_tells : yX12_tells.cls ≠ "java/lang/invoke/MethodHandle" ∧ yX12_tells.cls ≠ "java/lang/invoke/VarHandle" ∧ (parseMethodDescriptor yX12_tells.desc).map (fun d => d.parameters.length) = some 1 := by decide +kernel
theorem mdL_124 : MD RL 124 yX12_tells cwX12_tells 1 := ⟨(tb8 (List.mem_of_getElem? (i := 101) rfl) rfl), (tb8 (List.mem_of_getElem? (i := 102) rfl) rfl), (tb8 (List.mem_of_getElem? (i := 103) rfl) rfl), (tb1 (List.mem_of_getElem? (i := 17) rfl) rfl), cmX12_tells, pdX12_tells⟩
theorem pdX11_rests : yX11_rests.cls ≠ "java/lang/invoke/MethodHandle" ∧ yX11_rests.cls ≠ "java/lang/invoke/VarHandle" ∧ (parseMethodDescriptor yX11_rests.desc).map (fun d => d.parameters.length) = some 2 := by decide +kernel
theorem mdL_125 : MD RL 125 yX11_rests cwX11_rests 2 := ⟨(tb5 (List.mem_of_getElem? (i := 36) rfl) rfl), (tb5 (List.mem_of_getElem? (i := 37) rfl) rfl), (tb5 (List.mem_of_getElem? (i := 38) rfl) rfl), (tb1 (List.mem_of_getElem? (i := 1) rfl) rfl), cmX11_rests, pdX11_rests⟩
theorem pdX12_rests : yX12_rests.cls ≠ "java/lang/invoke/MethodHandle" ∧ yX12_rests.cls ≠ "java/lang/invoke/VarHandle" ∧ (parseMethodDescriptor yX12_rests.desc).map (fun d => d.parameters.length) = some 2 := by decide +kernel
theorem mdL_128 : MD RL 128 yX12_rests cwX12_rests 2 := ⟨(tb8 (List.mem_of_getElem? (i := 105) rfl) rfl), (tb8 (List.mem_of_getElem? (i := 106) rfl) rfl), (tb8 (List.mem_of_getElem? (i := 107) rfl) rfl), (tb1 (List.mem_of_getElem? (i := 17) rfl) rfl), cmX12_rests, pdX12_rests⟩
theorem pdX11_rest : yX11_rest.cls ≠ "java/lang/invoke/MethodHandle" ∧ yX11_rest.cls ≠ "java/lang/invoke/VarHandle" ∧ (parseMethodDescriptor yX11_rest.desc).map (fun d => d.parameters.length) = some 3 := by decide +kernel
theorem mdL_129 : MD RL 129 yX11_rest cwX11_rest 3 := ⟨(tb5 (List.mem_of_getElem? (i := 55) rfl) rfl), (tb5 (List.mem_of_getElem? (i := 56) rfl) rfl), (tb5 (List.mem_of_getElem? (i := 57) rfl) rfl), (tb1 (List.mem_of_getElem? (i := 1) rfl) rfl), cmX11_rest, pdX11_rest⟩
theorem pdX12_rest : yX12_rest.cls ≠ "java/lang/invoke/MethodHandle" ∧ yX12_rest.cls ≠ "java/lang/invoke/VarHandle" ∧ (parseMethodDescriptor yX12_rest.desc).map (fun d => d.parameters.length) = some 3 := by decide +kernel
theorem mdL_132 : MD RL 132 yX12_rest cwX12_rest 3 := ⟨(tb8 (List.mem_of_getElem? (i := 125) rfl) rfl), (tb8 (List.mem_of_getElem? (i := 126) rfl) rfl), (tb8 (List.mem_of_getElem? (i := 127) rfl) rfl), (tb1 (List.mem_of_getElem? (i := 17) rfl) rfl), cmX12_rest, pdX12_rest⟩
theorem pdX11_steady : yX11_steady.cls ≠ "java/lang/invoke/MethodHandle" ∧ yX11_steady.cls ≠ "java/lang/invoke/VarHandle" ∧ (parseMethodDescriptor yX11_steady.desc).map (fun d => d.parameters.length) = some 2 := by decide +kernel
theorem mdL_133 : MD RL 133 yX11_steady cwX11_steady 2 := ⟨(tb5 (List.mem_of_getElem? (i := 59) rfl) rfl), (tb5 (List.mem_of_getElem? (i := 60) rfl) rfl), (tb5 (List.mem_of_getElem? (i := 61) rfl) rfl), (tb1 (List.mem_of_getElem? (i := 1) rfl) rfl), cmX11_steady, pdX11_steady⟩
theorem pdX12_steady : yX12_steady.cls ≠ "java/lang/invoke/MethodHandle" ∧ yX12_steady.cls ≠ "java/lang/invoke/VarHandle" ∧ (parseMethodDescriptor yX12_steady.desc).map (fun d => d.parameters.length) = some 2 := by decide +kernel
theorem mdL_137 : MD RL 137 yX12_steady cwX12_steady 2 := ⟨(tb8 (List.mem_of_getElem? (i := 129) rfl) rfl), (tb8 (List.mem_of_getElem? (i := 130) rfl) rfl), (tb8 (List.mem_of_getElem? (i := 131) rfl) rfl), (tb1 (List.mem_of_getElem? (i := 17) rfl) rfl), cmX12_steady, pdX12_steady⟩
theorem pdX11_see : yX11_see.cls ≠ "java/lang/invoke/MethodHandle" ∧ yX11_see.cls ≠ "java/lang/invoke/VarHandle" ∧ (parseMethodDescriptor yX11_see.desc).map (fun d => d.parameters.length) = some 4 := by decide +kernel
theorem mdL_138 : MD RL 138 yX11_see cwX11_see 4 := ⟨(tb5 (List.mem_of_getElem? (i := 64) rfl) rfl), (tb5 (List.mem_of_getElem? (i := 65) rfl) rfl), (tb5 (List.mem_of_getElem? (i := 66) rfl) rfl), (tb1 (List.mem_of_getElem? (i := 1) rfl) rfl), cmX11_see, pdX11_see⟩
theorem pdX12_see : yX12_see.cls ≠ "java/lang/invoke/MethodHandle" ∧ yX12_see.cls ≠ "java/lang/invoke/VarHandle" ∧ (parseMethodDescriptor yX12_see.desc).map (fun d => d.parameters.length) = some 4 := by decide +kernel
theorem mdL_142 : MD RL 142 yX12_see cwX12_see 4 := ⟨(tb8 (List.mem_of_getElem? (i := 135) rfl) rfl), (tb8 (List.mem_of_getElem? (i := 136) rfl) rfl), (tb8 (List.mem_of_getElem? (i := 137) rfl) rfl), (tb1 (List.mem_of_getElem? (i := 17) rfl) rfl), cmX12_see, pdX12_see⟩
theorem pdX11_strike : yX11_strike.cls ≠ "java/lang/invoke/MethodHandle" ∧ yX11_strike.cls ≠ "java/lang/invoke/VarHandle" ∧ (parseMethodDescriptor yX11_strike.desc).map (fun d => d.parameters.length) = some 1 := by decide +kernel
theorem mdL_143 : MD RL 143 yX11_strike cwX11_strike 1 := ⟨(tb5 (List.mem_of_getElem? (i := 72) rfl) rfl), (tb5 (List.mem_of_getElem? (i := 73) rfl) rfl), (tb5 (List.mem_of_getElem? (i := 74) rfl) rfl), (tb1 (List.mem_of_getElem? (i := 1) rfl) rfl), cmX11_strike, pdX11_strike⟩
theorem pdX12_strike : yX12_strike.cls ≠ "java/lang/invoke/MethodHandle" ∧ yX12_strike.cls ≠ "java/lang/invoke/VarHandle" ∧ (parseMethodDescriptor yX12_strike.desc).map (fun d => d.parameters.length) = some 1 := by decide +kernel
theorem mdL_146 : MD RL 146 yX12_strike cwX12_strike 1 := ⟨(tb8 (List.mem_of_getElem? (i := 139) rfl) rfl), (tb8 (List.mem_of_getElem? (i := 140) rfl) rfl), (tb8 (List.mem_of_getElem? (i := 141) rfl) rfl), (tb1 (List.mem_of_getElem? (i := 17) rfl) rfl), cmX12_strike, pdX12_strike⟩
theorem pdX11_known : yX11_known.cls ≠ "java/lang/invoke/MethodHandle" ∧ yX11_known.cls ≠ "java/lang/invoke/VarHandle" ∧ (parseMethodDescriptor yX11_known.desc).map (fun d => d.parameters.length) = some 1 := by decide +kernel
theorem mdL_147 : MD RL 147 yX11_known cwX11_known 1 := ⟨(tb5 (List.mem_of_getElem? (i := 81) rfl) rfl), (tb5 (List.mem_of_getElem? (i := 82) rfl) rfl), (tb5 (List.mem_of_getElem? (i := 83) rfl) rfl), (tb1 (List.mem_of_getElem? (i := 1) rfl) rfl), cmX11_known, pdX11_known⟩
theorem pdX12_known : yX12_known.cls ≠ "java/lang/invoke/MethodHandle" ∧ yX12_known.cls ≠ "java/lang/invoke/VarHandle" ∧ (parseMethodDescriptor yX12_known.desc).map (fun d => d.parameters.length) = some 1 := by decide +kernel
theorem mdL_150 : MD RL 150 yX12_known cwX12_known 1 := ⟨(tb8 (List.mem_of_getElem? (i := 143) rfl) rfl), (tb8 (List.mem_of_getElem? (i := 144) rfl) rfl), (tb8 (List.mem_of_getElem? (i := 145) rfl) rfl), (tb1 (List.mem_of_getElem? (i := 17) rfl) rfl), cmX12_known, pdX12_known⟩
theorem pdX11_borne : yX11_borne.cls ≠ "java/lang/invoke/MethodHandle" ∧ yX11_borne.cls ≠ "java/lang/invoke/VarHandle" ∧ (parseMethodDescriptor yX11_borne.desc).map (fun d => d.parameters.length) = some 1 := by decide +kernel
theorem mdL_151 : MD RL 151 yX11_borne cwX11_borne 1 := ⟨(tb5 (List.mem_of_getElem? (i := 85) rfl) rfl), (tb5 (List.mem_of_getElem? (i := 86) rfl) rfl), (tb5 (List.mem_of_getElem? (i := 87) rfl) rfl), (tb1 (List.mem_of_getElem? (i := 1) rfl) rfl), cmX11_borne, pdX11_borne⟩
theorem pdX12_borne : yX12_borne.cls ≠ "java/lang/invoke/MethodHandle" ∧ yX12_borne.cls ≠ "java/lang/invoke/VarHandle" ∧ (parseMethodDescriptor yX12_borne.desc).map (fun d => d.parameters.length) = some 1 := by decide +kernel
theorem mdL_154 : MD RL 154 yX12_borne cwX12_borne 1 := ⟨(tb8 (List.mem_of_getElem? (i := 147) rfl) rfl), (tb8 (List.mem_of_getElem? (i := 148) rfl) rfl), (tb8 (List.mem_of_getElem? (i := 149) rfl) rfl), (tb1 (List.mem_of_getElem? (i := 17) rfl) rfl), cmX12_borne, pdX12_borne⟩
theorem pdX11_ask : yX11_ask.cls ≠ "java/lang/invoke/MethodHandle" ∧ yX11_ask.cls ≠ "java/lang/invoke/VarHandle" ∧ (parseMethodDescriptor yX11_ask.desc).map (fun d => d.parameters.length) = some 2 := by decide +kernel
theorem mdL_155 : MD RL 155 yX11_ask cwX11_ask 2 := ⟨(tb5 (List.mem_of_getElem? (i := 113) rfl) rfl), (tb5 (List.mem_of_getElem? (i := 114) rfl) rfl), (tb5 (List.mem_of_getElem? (i := 115) rfl) rfl), (tb1 (List.mem_of_getElem? (i := 1) rfl) rfl), cmX11_ask, pdX11_ask⟩
theorem pdX12_ask : yX12_ask.cls ≠ "java/lang/invoke/MethodHandle" ∧ yX12_ask.cls ≠ "java/lang/invoke/VarHandle" ∧ (parseMethodDescriptor yX12_ask.desc).map (fun d => d.parameters.length) = some 2 := by decide +kernel
theorem mdL_158 : MD RL 158 yX12_ask cwX12_ask 2 := ⟨(tb8 (List.mem_of_getElem? (i := 171) rfl) rfl), (tb8 (List.mem_of_getElem? (i := 172) rfl) rfl), (tb8 (List.mem_of_getElem? (i := 173) rfl) rfl), (tb1 (List.mem_of_getElem? (i := 17) rfl) rfl), cmX12_ask, pdX12_ask⟩
theorem pdX11_chance : yX11_chance.cls ≠ "java/lang/invoke/MethodHandle" ∧ yX11_chance.cls ≠ "java/lang/invoke/VarHandle" ∧ (parseMethodDescriptor yX11_chance.desc).map (fun d => d.parameters.length) = some 3 := by decide +kernel
theorem mdL_159 : MD RL 159 yX11_chance cwX11_chance 3 := ⟨(tb5 (List.mem_of_getElem? (i := 128) rfl) rfl), (tb5 (List.mem_of_getElem? (i := 129) rfl) rfl), (tb5 (List.mem_of_getElem? (i := 130) rfl) rfl), (tb1 (List.mem_of_getElem? (i := 1) rfl) rfl), cmX11_chance, pdX11_chance⟩
theorem pdX12_chance : yX12_chance.cls ≠ "java/lang/invoke/MethodHandle" ∧ yX12_chance.cls ≠ "java/lang/invoke/VarHandle" ∧ (parseMethodDescriptor yX12_chance.desc).map (fun d => d.parameters.length) = some 3 := by decide +kernel
theorem mdL_162 : MD RL 162 yX12_chance cwX12_chance 3 := ⟨(tb8 (List.mem_of_getElem? (i := 178) rfl) rfl), (tb8 (List.mem_of_getElem? (i := 179) rfl) rfl), (tb8 (List.mem_of_getElem? (i := 180) rfl) rfl), (tb1 (List.mem_of_getElem? (i := 17) rfl) rfl), cmX12_chance, pdX12_chance⟩
theorem pdX11_tried : yX11_tried.cls ≠ "java/lang/invoke/MethodHandle" ∧ yX11_tried.cls ≠ "java/lang/invoke/VarHandle" ∧ (parseMethodDescriptor yX11_tried.desc).map (fun d => d.parameters.length) = some 3 := by decide +kernel
theorem mdL_163 : MD RL 163 yX11_tried cwX11_tried 3 := ⟨(tb5 (List.mem_of_getElem? (i := 132) rfl) rfl), (tb5 (List.mem_of_getElem? (i := 133) rfl) rfl), (tb5 (List.mem_of_getElem? (i := 134) rfl) rfl), (tb1 (List.mem_of_getElem? (i := 1) rfl) rfl), cmX11_tried, pdX11_tried⟩
theorem pdX12_tried : yX12_tried.cls ≠ "java/lang/invoke/MethodHandle" ∧ yX12_tried.cls ≠ "java/lang/invoke/VarHandle" ∧ (parseMethodDescriptor yX12_tried.desc).map (fun d => d.parameters.length) = some 3 := by decide +kernel
theorem mdL_166 : MD RL 166 yX12_tried cwX12_tried 3 := ⟨(tb8 (List.mem_of_getElem? (i := 182) rfl) rfl), (tb8 (List.mem_of_getElem? (i := 183) rfl) rfl), (tb8 (List.mem_of_getElem? (i := 184) rfl) rfl), (tb1 (List.mem_of_getElem? (i := 17) rfl) rfl), cmX12_tried, pdX12_tried⟩
theorem pdX11_undo : yX11_undo.cls ≠ "java/lang/invoke/MethodHandle" ∧ yX11_undo.cls ≠ "java/lang/invoke/VarHandle" ∧ (parseMethodDescriptor yX11_undo.desc).map (fun d => d.parameters.length) = some 0 := by decide +kernel
theorem mdL_167 : MD RL 167 yX11_undo cwX11_undo 0 := ⟨(tb5 (List.mem_of_getElem? (i := 140) rfl) rfl), (tb5 (List.mem_of_getElem? (i := 141) rfl) rfl), (tb5 (List.mem_of_getElem? (i := 142) rfl) rfl), (tb1 (List.mem_of_getElem? (i := 1) rfl) rfl), cmX11_undo, pdX11_undo⟩
theorem pdX12_undo : yX12_undo.cls ≠ "java/lang/invoke/MethodHandle" ∧ yX12_undo.cls ≠ "java/lang/invoke/VarHandle" ∧ (parseMethodDescriptor yX12_undo.desc).map (fun d => d.parameters.length) = some 0 := by decide +kernel
theorem mdL_170 : MD RL 170 yX12_undo cwX12_undo 0 := ⟨(tb8 (List.mem_of_getElem? (i := 186) rfl) rfl), (tb8 (List.mem_of_getElem? (i := 187) rfl) rfl), (tb8 (List.mem_of_getElem? (i := 188) rfl) rfl), (tb1 (List.mem_of_getElem? (i := 17) rfl) rfl), cmX12_undo, pdX12_undo⟩
theorem pdX11_keep : yX11_keep.cls ≠ "java/lang/invoke/MethodHandle" ∧ yX11_keep.cls ≠ "java/lang/invoke/VarHandle" ∧ (parseMethodDescriptor yX11_keep.desc).map (fun d => d.parameters.length) = some 0 := by decide +kernel
theorem mdL_171 : MD RL 171 yX11_keep cwX11_keep 0 := ⟨(tb5 (List.mem_of_getElem? (i := 150) rfl) rfl), (tb5 (List.mem_of_getElem? (i := 151) rfl) rfl), (tb5 (List.mem_of_getElem? (i := 152) rfl) rfl), (tb1 (List.mem_of_getElem? (i := 1) rfl) rfl), cmX11_keep, pdX11_keep⟩
theorem pdX12_keep : yX12_keep.cls ≠ "java/lang/invoke/MethodHandle" ∧ yX12_keep.cls ≠ "java/lang/invoke/VarHandle" ∧ (parseMethodDescriptor yX12_keep.desc).map (fun d => d.parameters.length) = some 0 := by decide +kernel
theorem mdL_174 : MD RL 174 yX12_keep cwX12_keep 0 := ⟨(tb8 (List.mem_of_getElem? (i := 190) rfl) rfl), (tb8 (List.mem_of_getElem? (i := 191) rfl) rfl), (tb8 (List.mem_of_getElem? (i := 192) rfl) rfl), (tb1 (List.mem_of_getElem? (i := 17) rfl) rfl), cmX12_keep, pdX12_keep⟩
theorem pdX11_back : yX11_back.cls ≠ "java/lang/invoke/MethodHandle" ∧ yX11_back.cls ≠ "java/lang/invoke/VarHandle" ∧ (parseMethodDescriptor yX11_back.desc).map (fun d => d.parameters.length) = some 0 := by decide +kernel
theorem mdL_175 : MD RL 175 yX11_back cwX11_back 0 := ⟨(tb5 (List.mem_of_getElem? (i := 154) rfl) rfl), (tb5 (List.mem_of_getElem? (i := 155) rfl) rfl), (tb5 (List.mem_of_getElem? (i := 156) rfl) rfl), (tb1 (List.mem_of_getElem? (i := 1) rfl) rfl), cmX11_back, pdX11_back⟩
theorem pdX12_back : yX12_back.cls ≠ "java/lang/invoke/MethodHandle" ∧ yX12_back.cls ≠ "java/lang/invoke/VarHandle" ∧ (parseMethodDescriptor yX12_back.desc).map (fun d => d.parameters.length) = some 0 := by decide +kernel
theorem mdL_178 : MD RL 178 yX12_back cwX12_back 0 := ⟨(tb8 (List.mem_of_getElem? (i := 194) rfl) rfl), (tb8 (List.mem_of_getElem? (i := 195) rfl) rfl), (tb8 (List.mem_of_getElem? (i := 196) rfl) rfl), (tb1 (List.mem_of_getElem? (i := 17) rfl) rfl), cmX12_back, pdX12_back⟩
theorem pdX11_count : yX11_count.cls ≠ "java/lang/invoke/MethodHandle" ∧ yX11_count.cls ≠ "java/lang/invoke/VarHandle" ∧ (parseMethodDescriptor yX11_count.desc).map (fun d => d.parameters.length) = some 1 := by decide +kernel
theorem mdL_179 : MD RL 179 yX11_count cwX11_count 1 := ⟨(tb5 (List.mem_of_getElem? (i := 158) rfl) rfl), (tb5 (List.mem_of_getElem? (i := 159) rfl) rfl), (tb5 (List.mem_of_getElem? (i := 160) rfl) rfl), (tb1 (List.mem_of_getElem? (i := 1) rfl) rfl), cmX11_count, pdX11_count⟩
theorem pdX12_count : yX12_count.cls ≠ "java/lang/invoke/MethodHandle" ∧ yX12_count.cls ≠ "java/lang/invoke/VarHandle" ∧ (parseMethodDescriptor yX12_count.desc).map (fun d => d.parameters.length) = some 1 := by decide +kernel
theorem mdL_182 : MD RL 182 yX12_count cwX12_count 1 := ⟨(tb8 (List.mem_of_getElem? (i := 198) rfl) rfl), (tb8 (List.mem_of_getElem? (i := 199) rfl) rfl), (tb8 (List.mem_of_getElem? (i := 200) rfl) rfl), (tb1 (List.mem_of_getElem? (i := 17) rfl) rfl), cmX12_count, pdX12_count⟩
/-- call 0: both answer alike, and stay alike -/
def OP0 (Inv : Mem → Mem → Prop) (N : Nat) : Prop := (∀ (mC mR : Mem) (x1 x2 x3 x4 x5 : Int32), Inv mC mR → ∃ (r : Int32) (mC2 : Mem) (mR2 : Mem), fX11_feed N x1 x2 x3 x4 x5 mC = some (r, mC2) ∧ fX12_feed N x1 x2 x3 x4 x5 mR = some (r, mR2) ∧ Inv mC2 mR2)
/-- call 1: both answer alike, and stay alike -/
def OP1 (Inv : Mem → Mem → Prop) (N : Nat) : Prop := (∀ (mC mR : Mem) (x1 : Int32), Inv mC mR → ∃ (r : Int32) (mC2 : Mem) (mR2 : Mem), fX11_text N x1 mC = some (r, mC2) ∧ fX12_text N x1 mR = some (r, mR2) ∧ Inv mC2 mR2)
/-- call 2: both answer alike, and stay alike -/
def OP2 (Inv : Mem → Mem → Prop) (N : Nat) : Prop := (∀ (mC mR : Mem) (x1 : Int32), Inv mC mR → ∃ (r : Int32) (mR2 : Mem), fX11_fault x1 mC = some r ∧ fX12_fault x1 mR = some (r, mR2) ∧ Inv mC mR2)
/-- call 3: both answer alike, and stay alike -/
def OP3 (Inv : Mem → Mem → Prop) (N : Nat) : Prop := (∀ (mC mR : Mem) (x1 x2 : Int32), Inv mC mR → ∃ (r : Int32) (mR2 : Mem), fX11_named N x1 x2 mC = some r ∧ fX12_named N x1 x2 mR = some (r, mR2) ∧ Inv mC mR2)
/-- call 4: both answer alike, and stay alike -/
def OP4 (Inv : Mem → Mem → Prop) (N : Nat) : Prop := (∀ (mC mR : Mem) (x1 x2 : Int32), Inv mC mR → ∃ (k r b : Int32) (mR2 : Mem), fX11_tub x1 x2 mC = some (k, r) ∧ fX12_tub N x1 x2 mR = some (b, mR2) ∧ fX12_thrown mR2 = some k ∧ (k = 0 → r = b) ∧ Inv mC mR2)
/-- call 5: both answer alike, and stay alike -/
def OP5 (Inv : Mem → Mem → Prop) (N : Nat) : Prop := (∀ (mC mR : Mem) (x1 x2 : Int32), Inv mC mR → ∃ (r : Int32) (mR2 : Mem), fX11_knight x1 x2 mC = some r ∧ fX12_knight x1 x2 mR = some (r, mR2) ∧ Inv mC mR2)
/-- call 6: both answer alike, and stay alike -/
def OP6 (Inv : Mem → Mem → Prop) (N : Nat) : Prop := (∀ (mC mR : Mem) (x1 x2 : Int32), Inv mC mR → ∃ (r : Int32) (mC2 : Mem) (mR2 : Mem), fX11_atEase N x1 x2 mC = some (r, mC2) ∧ fX12_atEase N x1 x2 mR = some (r, mR2) ∧ Inv mC2 mR2)
/-- call 7: both answer alike, and stay alike -/
def OP7 (Inv : Mem → Mem → Prop) (N : Nat) : Prop := (∀ (mC mR : Mem) (x1 x2 x3 : Int32), Inv mC mR → ∃ (r : Int64) (mC2 : Mem) (mR2 : Mem), fX11_law N x1 x2 x3 mC = some (r, mC2) ∧ fX12_law N x1 x2 x3 mR = some (r, mR2) ∧ Inv mC2 mR2)
/-- call 8: both answer alike, and stay alike -/
def OP8 (Inv : Mem → Mem → Prop) (N : Nat) : Prop := (∀ (mC mR : Mem) (x1 x2 : Int32), Inv mC mR → ∃ (r : Int32) (mC2 : Mem) (mR2 : Mem), fX11_add x1 x2 mC = some (r, mC2) ∧ fX12_add N x1 x2 mR = some (r, mR2) ∧ Inv mC2 mR2)
/-- call 9: both answer alike, and stay alike -/
def OP9 (Inv : Mem → Mem → Prop) (N : Nat) : Prop := (∀ (mC mR : Mem) (x1 x2 x3 : Int32), Inv mC mR → ∃ (r : Int32) (mC2 : Mem) (mR2 : Mem), fX11_pour x1 x2 x3 mC = some (r, mC2) ∧ fX12_pour N x1 x2 x3 mR = some (r, mR2) ∧ Inv mC2 mR2)
/-- call 10: both answer alike, and stay alike -/
def OP10 (Inv : Mem → Mem → Prop) (N : Nat) : Prop := (∀ (mC mR : Mem) (x1 x2 : Int32), Inv mC mR → ∃ (r : Int32) (mC2 : Mem) (mR2 : Mem), fX11_sit x1 x2 mC = some (r, mC2) ∧ fX12_sit N x1 x2 mR = some (r, mR2) ∧ Inv mC2 mR2)
/-- call 11: both answer alike, and stay alike -/
def OP11 (Inv : Mem → Mem → Prop) (N : Nat) : Prop := (∀ (mC mR : Mem) (x1 : Int32), Inv mC mR → ∃ (r : Int32) (mC2 : Mem) (mR2 : Mem), fX11_rise x1 mC = some (r, mC2) ∧ fX12_rise N x1 mR = some (r, mR2) ∧ Inv mC2 mR2)
/-- call 12: both answer alike, and stay alike -/
def OP12 (Inv : Mem → Mem → Prop) (N : Nat) : Prop := (∀ (mC mR : Mem) (x1 : Int32), Inv mC mR → ∃ (r : Int32) (mC2 : Mem) (mR2 : Mem), fX11_go N x1 mC = some (r, mC2) ∧ fX12_go N x1 mR = some (r, mR2) ∧ Inv mC2 mR2)
/-- call 13: both answer alike, and stay alike -/
def OP13 (Inv : Mem → Mem → Prop) (N : Nat) : Prop := (∀ (mC mR : Mem) (x1 x2 x3 : Int32), Inv mC mR → ∃ (r : Int32) (mC2 : Mem) (mR2 : Mem), fX11_ahead N x1 x2 x3 mC = some (r, mC2) ∧ fX12_ahead N x1 x2 x3 mR = some (r, mR2) ∧ Inv mC2 mR2)
/-- call 14: both answer alike, and stay alike -/
def OP14 (Inv : Mem → Mem → Prop) (N : Nat) : Prop := (∀ (mC mR : Mem) (x1 x2 : Int32), Inv mC mR → ∃ (r : Int32) (mC2 : Mem) (mR2 : Mem), fX11_cools N x1 x2 mC = some (r, mC2) ∧ fX12_cools N x1 x2 mR = some (r, mR2) ∧ Inv mC2 mR2)
/-- call 15: both answer alike, and stay alike -/
def OP15 (Inv : Mem → Mem → Prop) (N : Nat) : Prop := (∀ (mC mR : Mem) (x1 : Int32), Inv mC mR → ∃ (r : Int32) (mC2 : Mem) (mR2 : Mem), fX11_flinches N x1 mC = some (r, mC2) ∧ fX12_flinches N x1 mR = some (r, mR2) ∧ Inv mC2 mR2)
/-- call 16: both answer alike, and stay alike -/
def OP16 (Inv : Mem → Mem → Prop) (N : Nat) : Prop := (∀ (mC mR : Mem) (x1 : Int32), Inv mC mR → ∃ (r : Int32) (mR2 : Mem), fX11_order N x1 mC = some r ∧ fX12_order N x1 mR = some (r, mR2) ∧ Inv mC mR2)
/-- call 17: both answer alike, and stay alike -/
def OP17 (Inv : Mem → Mem → Prop) (N : Nat) : Prop := (∀ (mC mR : Mem) (x1 x2 : Int32), Inv mC mR → ∃ (r : Int32) (mR2 : Mem), fX11_addFor N x1 x2 mC = some r ∧ fX12_addFor N x1 x2 mR = some (r, mR2) ∧ Inv mC mR2)
/-- call 18: both answer alike, and stay alike -/
def OP18 (Inv : Mem → Mem → Prop) (N : Nat) : Prop := (∀ (mC mR : Mem) (x1 : Int32), Inv mC mR → ∃ (r : Int32) (mR2 : Mem), fX11_coal N x1 mC = some r ∧ fX12_coal N x1 mR = some (r, mR2) ∧ Inv mC mR2)
/-- call 19: both answer alike, and stay alike -/
def OP19 (Inv : Mem → Mem → Prop) (N : Nat) : Prop := (∀ (mC mR : Mem) (x1 x2 : Int32), Inv mC mR → ∃ (r : Int32) (mR2 : Mem), fX11_together N x1 x2 mC = some r ∧ fX12_together N x1 x2 mR = some (r, mR2) ∧ Inv mC mR2)
/-- call 20: both answer alike, and stay alike -/
def OP20 (Inv : Mem → Mem → Prop) (N : Nat) : Prop := (∀ (mC mR : Mem) (x1 : Int32), Inv mC mR → ∃ (r : Int32) (mC2 : Mem) (mR2 : Mem), fX11_match N x1 mC = some (r, mC2) ∧ fX12_match N x1 mR = some (r, mR2) ∧ Inv mC2 mR2)
/-- call 21: both answer alike, and stay alike -/
def OP21 (Inv : Mem → Mem → Prop) (N : Nat) : Prop := (∀ (mC mR : Mem) (x1 x2 x3 : Int32), Inv mC mR → ∃ (r : Int32) (mR2 : Mem), fX11_game N x1 x2 x3 mC = some r ∧ fX12_game N x1 x2 x3 mR = some (r, mR2) ∧ Inv mC mR2)
/-- call 22: both answer alike, and stay alike -/
def OP22 (Inv : Mem → Mem → Prop) (N : Nat) : Prop := (∀ (mC mR : Mem) (x1 : Int32), Inv mC mR → ∃ (r : Int32) (mC2 : Mem) (mR2 : Mem), fX11_tells N x1 mC = some (r, mC2) ∧ fX12_tells N x1 mR = some (r, mR2) ∧ Inv mC2 mR2)
/-- call 23: both answer alike, and stay alike -/
def OP23 (Inv : Mem → Mem → Prop) (N : Nat) : Prop := (∀ (mC mR : Mem) (x1 x2 : Int32), Inv mC mR → ∃ (r : Int32) (mR2 : Mem), fX11_rests N x1 x2 mC = some r ∧ fX12_rests N x1 x2 mR = some (r, mR2) ∧ Inv mC mR2)
/-- call 24: both answer alike, and stay alike -/
def OP24 (Inv : Mem → Mem → Prop) (N : Nat) : Prop := (∀ (mC mR : Mem) (x1 x2 x3 : Int32), Inv mC mR → ∃ (r : Int32) (mR2 : Mem), fX11_rest N x1 x2 x3 mC = some r ∧ fX12_rest N x1 x2 x3 mR = some (r, mR2) ∧ Inv mC mR2)
/-- call 25: both answer alike, and stay alike -/
def OP25 (Inv : Mem → Mem → Prop) (N : Nat) : Prop := (∀ (mC mR : Mem) (x1 x2 : Int32), Inv mC mR → ∃ (r : Int64) (mR2 : Mem), fX11_steady N x1 x2 mC = some r ∧ fX12_steady N x1 x2 mR = some (r, mR2) ∧ Inv mC mR2)
/-- call 26: both answer alike, and stay alike -/
def OP26 (Inv : Mem → Mem → Prop) (N : Nat) : Prop := (∀ (mC mR : Mem) (x1 x2 x3 x4 : Int32), Inv mC mR → (x4 = 0 ∨ x4 = 1) → ∃ (r : Int32) (mC2 : Mem) (mR2 : Mem), fX11_see x1 x2 x3 x4 mC = some (r, mC2) ∧ fX12_see x1 x2 x3 x4 mR = some (r, mR2) ∧ Inv mC2 mR2)
/-- call 27: both answer alike, and stay alike -/
def OP27 (Inv : Mem → Mem → Prop) (N : Nat) : Prop := (∀ (mC mR : Mem) (x1 : Int32), Inv mC mR → ∃ (r : Int32) (mC2 : Mem) (mR2 : Mem), fX11_strike x1 mC = some (r, mC2) ∧ fX12_strike x1 mR = some (r, mR2) ∧ Inv mC2 mR2)
/-- call 28: both answer alike, and stay alike -/
def OP28 (Inv : Mem → Mem → Prop) (N : Nat) : Prop := (∀ (mC mR : Mem) (x1 : Int32), Inv mC mR → ∃ (r : Int32) (mC2 : Mem) (mR2 : Mem), fX11_known x1 mC = some (r, mC2) ∧ fX12_known x1 mR = some (r, mR2) ∧ Inv mC2 mR2)
/-- call 29: both answer alike, and stay alike -/
def OP29 (Inv : Mem → Mem → Prop) (N : Nat) : Prop := (∀ (mC mR : Mem) (x1 : Int32), Inv mC mR → ∃ (r : Int32) (mC2 : Mem) (mR2 : Mem), fX11_borne N x1 mC = some (r, mC2) ∧ fX12_borne N x1 mR = some (r, mR2) ∧ Inv mC2 mR2)
/-- call 30: both answer alike, and stay alike -/
def OP30 (Inv : Mem → Mem → Prop) (N : Nat) : Prop := (∀ (mC mR : Mem) (x1 x2 : Int32), Inv mC mR → ∃ (r : Int32) (mC2 : Mem) (mR2 : Mem), fX11_ask N x1 x2 mC = some (r, mC2) ∧ fX12_ask N x1 x2 mR = some (r, mR2) ∧ Inv mC2 mR2)
/-- call 31: both answer alike, and stay alike -/
def OP31 (Inv : Mem → Mem → Prop) (N : Nat) : Prop := (∀ (mC mR : Mem) (x1 x2 x3 : Int32), Inv mC mR → ∃ (r : Int32) (mC2 : Mem) (mR2 : Mem), fX11_chance N x1 x2 x3 mC = some (r, mC2) ∧ fX12_chance N x1 x2 x3 mR = some (r, mR2) ∧ Inv mC2 mR2)
/-- call 32: both answer alike, and stay alike -/
def OP32 (Inv : Mem → Mem → Prop) (N : Nat) : Prop := (∀ (mC mR : Mem) (x1 x2 x3 : Int32), Inv mC mR → ∃ (r : Int32) (mC2 : Mem) (mR2 : Mem), fX11_tried N x1 x2 x3 mC = some (r, mC2) ∧ fX12_tried N x1 x2 x3 mR = some (r, mR2) ∧ Inv mC2 mR2)
/-- call 33: both answer alike, and stay alike -/
def OP33 (Inv : Mem → Mem → Prop) (N : Nat) : Prop := (∀ (mC mR : Mem), Inv mC mR → ∃ (r : Int32) (mC2 : Mem) (mR2 : Mem), fX11_undo N mC = some (r, mC2) ∧ fX12_undo N mR = some (r, mR2) ∧ Inv mC2 mR2)
/-- call 34: both answer alike, and stay alike -/
def OP34 (Inv : Mem → Mem → Prop) (N : Nat) : Prop := (∀ (mC mR : Mem), Inv mC mR → ∃ (r : Int32) (mC2 : Mem) (mR2 : Mem), fX11_keep mC = some (r, mC2) ∧ fX12_keep N mR = some (r, mR2) ∧ Inv mC2 mR2)
/-- call 35: both answer alike, and stay alike -/
def OP35 (Inv : Mem → Mem → Prop) (N : Nat) : Prop := (∀ (mC mR : Mem), Inv mC mR → ∃ (r : Int32) (mC2 : Mem) (mR2 : Mem), fX11_back mC = some (r, mC2) ∧ fX12_back N mR = some (r, mR2) ∧ Inv mC2 mR2)
/-- call 36: both answer alike, and stay alike -/
def OP36 (Inv : Mem → Mem → Prop) (N : Nat) : Prop := (∀ (mC mR : Mem) (x1 : Int32), Inv mC mR → ∃ (r : Int32) (mR2 : Mem), fX11_count N x1 mC = some r ∧ fX12_count N x1 mR = some (r, mR2) ∧ Inv mC mR2)
def OPS (Inv : Mem → Mem → Prop) (N : Nat) : Prop := OP0 Inv N ∧ OP1 Inv N ∧ OP2 Inv N ∧ OP3 Inv N ∧ OP4 Inv N ∧ OP5 Inv N ∧ OP6 Inv N ∧ OP7 Inv N ∧ OP8 Inv N ∧ OP9 Inv N ∧ OP10 Inv N ∧ OP11 Inv N ∧ OP12 Inv N ∧ OP13 Inv N ∧ OP14 Inv N ∧ OP15 Inv N ∧ OP16 Inv N ∧ OP17 Inv N ∧ OP18 Inv N ∧ OP19 Inv N ∧ OP20 Inv N ∧ OP21 Inv N ∧ OP22 Inv N ∧ OP23 Inv N ∧ OP24 Inv N ∧ OP25 Inv N ∧ OP26 Inv N ∧ OP27 Inv N ∧ OP28 Inv N ∧ OP29 Inv N ∧ OP30 Inv N ∧ OP31 Inv N ∧ OP32 Inv N ∧ OP33 Inv N ∧ OP34 Inv N ∧ OP35 Inv N ∧ OP36 Inv N
