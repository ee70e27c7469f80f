theorem dL_law_0 : decode cL_law 0 = .ok (.new 8, 3) := by decide +kernel
theorem dL_law_3 : decode cL_law 3 = .ok (.dup, 1) := by decide +kernel
theorem dL_law_4 : decode cL_law 4 = .ok (.invokespecial 100, 3) := by decide +kernel
theorem dL_law_7 : decode cL_law 7 = .ok (.astore_n 1, 1) := by decide +kernel
theorem dL_law_8 : decode cL_law 8 = .ok (.new 101, 3) := by decide +kernel
theorem dL_law_11 : decode cL_law 11 = .ok (.dup, 1) := by decide +kernel
theorem dL_law_12 : decode cL_law 12 = .ok (.invokespecial 103, 3) := by decide +kernel
theorem dL_law_15 : decode cL_law 15 = .ok (.astore_n 2, 1) := by decide +kernel
theorem dL_law_16 : decode cL_law 16 = .ok (.iconst 1, 1) := by decide +kernel
theorem dL_law_17 : decode cL_law 17 = .ok (.newarray .long, 2) := by decide +kernel
theorem dL_law_19 : decode cL_law 19 = .ok (.astore_n 3, 1) := by decide +kernel
theorem dL_law_20 : decode cL_law 20 = .ok (.iconst 0, 1) := by decide +kernel
theorem dL_law_21 : decode cL_law 21 = .ok (.istore 4, 2) := by decide +kernel
theorem dL_law_23 : decode cL_law 23 = .ok (.iload 4, 2) := by decide +kernel
theorem dL_law_25 : decode cL_law 25 = .ok (.aload_n 0, 1) := by decide +kernel
theorem dL_law_26 : decode cL_law 26 = .ok (.arraylength, 1) := by decide +kernel
theorem dL_law_27 : decode cL_law 27 = .ok (.iconst 4, 1) := by decide +kernel
theorem dL_law_28 : decode cL_law 28 = .ok (.isub, 1) := by decide +kernel
theorem dL_law_29 : decode cL_law 29 = .ok (.if_icmp .gt 1943, 3) := by decide +kernel
theorem dL_law_32 : decode cL_law 32 = .ok (.aload_n 0, 1) := by decide +kernel
theorem dL_law_33 : decode cL_law 33 = .ok (.iload 4, 2) := by decide +kernel
theorem dL_law_35 : decode cL_law 35 = .ok (.iaload, 1) := by decide +kernel
theorem dL_law_36 : decode cL_law 36 = .ok (.bipush 63, 2) := by decide +kernel
theorem dL_law_38 : decode cL_law 38 = .ok (.iand, 1) := by decide +kernel
theorem dL_law_39 : decode cL_law 39 = .ok (.tableswitch 1927 0 38 #[169, 225, 238, 251, 264, 277, 333, 401, 457, 501, 569, 613, 669, 725, 781, 837, 905, 946, 1049, 1062, 1118, 1131, 1187, 1250, 1325, 1381, 1394, 1450, 1463, 1519, 1575, 1588, 1601, 1614, 1677, 1733, 1777, 1857, 1913], 169) := by decide +kernel
theorem dL_law_208 : decode cL_law 208 = .ok (.aload_n 1, 1) := by decide +kernel
theorem dL_law_209 : decode cL_law 209 = .ok (.aload_n 0, 1) := by decide +kernel
theorem dL_law_210 : decode cL_law 210 = .ok (.iload 4, 2) := by decide +kernel
theorem dL_law_212 : decode cL_law 212 = .ok (.iconst 1, 1) := by decide +kernel
theorem dL_law_213 : decode cL_law 213 = .ok (.iadd, 1) := by decide +kernel
theorem dL_law_214 : decode cL_law 214 = .ok (.iaload, 1) := by decide +kernel
theorem dL_law_215 : decode cL_law 215 = .ok (.aload_n 3, 1) := by decide +kernel
theorem dL_law_216 : decode cL_law 216 = .ok (.invokestatic 104, 3) := by decide +kernel
theorem dL_law_219 : decode cL_law 219 = .ok (.istore 5, 2) := by decide +kernel
theorem dL_law_221 : decode cL_law 221 = .ok (.aload_n 2, 1) := by decide +kernel
theorem dL_law_222 : decode cL_law 222 = .ok (.aload_n 0, 1) := by decide +kernel
theorem dL_law_223 : decode cL_law 223 = .ok (.iload 4, 2) := by decide +kernel
theorem dL_law_225 : decode cL_law 225 = .ok (.iconst 1, 1) := by decide +kernel
theorem dL_law_226 : decode cL_law 226 = .ok (.iadd, 1) := by decide +kernel
theorem dL_law_227 : decode cL_law 227 = .ok (.iaload, 1) := by decide +kernel
theorem dL_law_228 : decode cL_law 228 = .ok (.invokevirtual 109, 3) := by decide +kernel
theorem dL_law_231 : decode cL_law 231 = .ok (.istore 6, 2) := by decide +kernel
theorem dL_law_233 : decode cL_law 233 = .ok (.aload_n 2, 1) := by decide +kernel
theorem dL_law_234 : decode cL_law 234 = .ok (.invokevirtual 110, 3) := by decide +kernel
theorem dL_law_237 : decode cL_law 237 = .ok (.iload 5, 2) := by decide +kernel
theorem dL_law_239 : decode cL_law 239 = .ok (.if_icmp .eq 5, 3) := by decide +kernel
theorem dL_law_242 : decode cL_law 242 = .ok (.iconst 0, 1) := by decide +kernel
theorem dL_law_243 : decode cL_law 243 = .ok (.ireturn, 1) := by decide +kernel
theorem dL_law_244 : decode cL_law 244 = .ok (.iload 5, 2) := by decide +kernel
theorem dL_law_246 : decode cL_law 246 = .ok (.ifCond .ne 15, 3) := by decide +kernel
theorem dL_law_249 : decode cL_law 249 = .ok (.aload_n 3, 1) := by decide +kernel
theorem dL_law_250 : decode cL_law 250 = .ok (.iconst 0, 1) := by decide +kernel
theorem dL_law_251 : decode cL_law 251 = .ok (.laload, 1) := by decide +kernel
theorem dL_law_252 : decode cL_law 252 = .ok (.iload 6, 2) := by decide +kernel
theorem dL_law_254 : decode cL_law 254 = .ok (.i2l, 1) := by decide +kernel
theorem dL_law_255 : decode cL_law 255 = .ok (.lcmp, 1) := by decide +kernel
theorem dL_law_256 : decode cL_law 256 = .ok (.ifCond .eq 5, 3) := by decide +kernel
theorem dL_law_259 : decode cL_law 259 = .ok (.iconst 0, 1) := by decide +kernel
theorem dL_law_260 : decode cL_law 260 = .ok (.ireturn, 1) := by decide +kernel
theorem dL_law_261 : decode cL_law 261 = .ok (.goto 1705, 3) := by decide +kernel
theorem dL_law_264 : decode cL_law 264 = .ok (.aload_n 1, 1) := by decide +kernel
theorem dL_law_265 : decode cL_law 265 = .ok (.invokevirtual 113, 3) := by decide +kernel
theorem dL_law_268 : decode cL_law 268 = .ok (.aload_n 2, 1) := by decide +kernel
theorem dL_law_269 : decode cL_law 269 = .ok (.invokevirtual 116, 3) := by decide +kernel
theorem dL_law_272 : decode cL_law 272 = .ok (.if_icmp .eq 1694, 3) := by decide +kernel
theorem dL_law_275 : decode cL_law 275 = .ok (.iconst 0, 1) := by decide +kernel
theorem dL_law_276 : decode cL_law 276 = .ok (.ireturn, 1) := by decide +kernel
theorem dL_law_277 : decode cL_law 277 = .ok (.aload_n 1, 1) := by decide +kernel
theorem dL_law_278 : decode cL_law 278 = .ok (.invokevirtual 117, 3) := by decide +kernel
theorem dL_law_281 : decode cL_law 281 = .ok (.aload_n 2, 1) := by decide +kernel
theorem dL_law_282 : decode cL_law 282 = .ok (.invokevirtual 120, 3) := by decide +kernel
theorem dL_law_285 : decode cL_law 285 = .ok (.if_icmp .eq 1681, 3) := by decide +kernel
theorem dL_law_288 : decode cL_law 288 = .ok (.iconst 0, 1) := by decide +kernel
theorem dL_law_289 : decode cL_law 289 = .ok (.ireturn, 1) := by decide +kernel
theorem dL_law_290 : decode cL_law 290 = .ok (.aload_n 1, 1) := by decide +kernel
theorem dL_law_291 : decode cL_law 291 = .ok (.invokevirtual 121, 3) := by decide +kernel
theorem dL_law_294 : decode cL_law 294 = .ok (.aload_n 2, 1) := by decide +kernel
theorem dL_law_295 : decode cL_law 295 = .ok (.invokevirtual 124, 3) := by decide +kernel
theorem dL_law_298 : decode cL_law 298 = .ok (.if_icmp .eq 1668, 3) := by decide +kernel
theorem dL_law_301 : decode cL_law 301 = .ok (.iconst 0, 1) := by decide +kernel
theorem dL_law_302 : decode cL_law 302 = .ok (.ireturn, 1) := by decide +kernel
theorem dL_law_303 : decode cL_law 303 = .ok (.aload_n 1, 1) := by decide +kernel
theorem dL_law_304 : decode cL_law 304 = .ok (.invokevirtual 125, 3) := by decide +kernel
theorem dL_law_307 : decode cL_law 307 = .ok (.aload_n 2, 1) := by decide +kernel
theorem dL_law_308 : decode cL_law 308 = .ok (.invokevirtual 128, 3) := by decide +kernel
theorem dL_law_311 : decode cL_law 311 = .ok (.if_icmp .eq 1655, 3) := by decide +kernel
theorem dL_law_314 : decode cL_law 314 = .ok (.iconst 0, 1) := by decide +kernel
theorem dL_law_315 : decode cL_law 315 = .ok (.ireturn, 1) := by decide +kernel
theorem dL_law_316 : decode cL_law 316 = .ok (.aload_n 1, 1) := by decide +kernel
theorem dL_law_317 : decode cL_law 317 = .ok (.aload_n 0, 1) := by decide +kernel
theorem dL_law_318 : decode cL_law 318 = .ok (.iload 4, 2) := by decide +kernel
theorem dL_law_320 : decode cL_law 320 = .ok (.iconst 1, 1) := by decide +kernel
theorem dL_law_321 : decode cL_law 321 = .ok (.iadd, 1) := by decide +kernel
theorem dL_law_322 : decode cL_law 322 = .ok (.iaload, 1) := by decide +kernel
theorem dL_law_323 : decode cL_law 323 = .ok (.aload_n 3, 1) := by decide +kernel
theorem dL_law_324 : decode cL_law 324 = .ok (.invokestatic 129, 3) := by decide +kernel
theorem dL_law_327 : decode cL_law 327 = .ok (.istore 5, 2) := by decide +kernel
theorem dL_law_329 : decode cL_law 329 = .ok (.aload_n 2, 1) := by decide +kernel
theorem dL_law_330 : decode cL_law 330 = .ok (.aload_n 0, 1) := by decide +kernel
theorem dL_law_331 : decode cL_law 331 = .ok (.iload 4, 2) := by decide +kernel
theorem dL_law_333 : decode cL_law 333 = .ok (.iconst 1, 1) := by decide +kernel
theorem dL_law_334 : decode cL_law 334 = .ok (.iadd, 1) := by decide +kernel
theorem dL_law_335 : decode cL_law 335 = .ok (.iaload, 1) := by decide +kernel
theorem dL_law_336 : decode cL_law 336 = .ok (.invokevirtual 131, 3) := by decide +kernel
theorem dL_law_339 : decode cL_law 339 = .ok (.istore 6, 2) := by decide +kernel
theorem dL_law_341 : decode cL_law 341 = .ok (.aload_n 2, 1) := by decide +kernel
theorem dL_law_342 : decode cL_law 342 = .ok (.invokevirtual 110, 3) := by decide +kernel
theorem dL_law_345 : decode cL_law 345 = .ok (.iload 5, 2) := by decide +kernel
theorem dL_law_347 : decode cL_law 347 = .ok (.if_icmp .eq 5, 3) := by decide +kernel
theorem dL_law_350 : decode cL_law 350 = .ok (.iconst 0, 1) := by decide +kernel
theorem dL_law_351 : decode cL_law 351 = .ok (.ireturn, 1) := by decide +kernel
theorem dL_law_352 : decode cL_law 352 = .ok (.iload 5, 2) := by decide +kernel
theorem dL_law_354 : decode cL_law 354 = .ok (.ifCond .ne 15, 3) := by decide +kernel
theorem dL_law_357 : decode cL_law 357 = .ok (.aload_n 3, 1) := by decide +kernel
theorem dL_law_358 : decode cL_law 358 = .ok (.iconst 0, 1) := by decide +kernel
theorem dL_law_359 : decode cL_law 359 = .ok (.laload, 1) := by decide +kernel
theorem dL_law_360 : decode cL_law 360 = .ok (.iload 6, 2) := by decide +kernel
theorem dL_law_362 : decode cL_law 362 = .ok (.i2l, 1) := by decide +kernel
theorem dL_law_363 : decode cL_law 363 = .ok (.lcmp, 1) := by decide +kernel
theorem dL_law_364 : decode cL_law 364 = .ok (.ifCond .eq 5, 3) := by decide +kernel
theorem dL_law_367 : decode cL_law 367 = .ok (.iconst 0, 1) := by decide +kernel
theorem dL_law_368 : decode cL_law 368 = .ok (.ireturn, 1) := by decide +kernel
theorem dL_law_369 : decode cL_law 369 = .ok (.goto 1597, 3) := by decide +kernel
theorem dL_law_372 : decode cL_law 372 = .ok (.aload_n 1, 1) := by decide +kernel
theorem dL_law_373 : decode cL_law 373 = .ok (.aload_n 0, 1) := by decide +kernel
theorem dL_law_374 : decode cL_law 374 = .ok (.iload 4, 2) := by decide +kernel
theorem dL_law_376 : decode cL_law 376 = .ok (.iconst 1, 1) := by decide +kernel
theorem dL_law_377 : decode cL_law 377 = .ok (.iadd, 1) := by decide +kernel
theorem dL_law_378 : decode cL_law 378 = .ok (.iaload, 1) := by decide +kernel
theorem dL_law_379 : decode cL_law 379 = .ok (.aload_n 0, 1) := by decide +kernel
theorem dL_law_380 : decode cL_law 380 = .ok (.iload 4, 2) := by decide +kernel
theorem dL_law_382 : decode cL_law 382 = .ok (.iconst 2, 1) := by decide +kernel
theorem dL_law_383 : decode cL_law 383 = .ok (.iadd, 1) := by decide +kernel
theorem dL_law_384 : decode cL_law 384 = .ok (.iaload, 1) := by decide +kernel
theorem dL_law_385 : decode cL_law 385 = .ok (.aload_n 3, 1) := by decide +kernel
theorem dL_law_386 : decode cL_law 386 = .ok (.invokestatic 132, 3) := by decide +kernel
theorem dL_law_389 : decode cL_law 389 = .ok (.istore 5, 2) := by decide +kernel
theorem dL_law_391 : decode cL_law 391 = .ok (.aload_n 2, 1) := by decide +kernel
theorem dL_law_392 : decode cL_law 392 = .ok (.aload_n 0, 1) := by decide +kernel
theorem dL_law_393 : decode cL_law 393 = .ok (.iload 4, 2) := by decide +kernel
theorem dL_law_395 : decode cL_law 395 = .ok (.iconst 1, 1) := by decide +kernel
theorem dL_law_396 : decode cL_law 396 = .ok (.iadd, 1) := by decide +kernel
theorem dL_law_397 : decode cL_law 397 = .ok (.iaload, 1) := by decide +kernel
theorem dL_law_398 : decode cL_law 398 = .ok (.aload_n 0, 1) := by decide +kernel
theorem dL_law_399 : decode cL_law 399 = .ok (.iload 4, 2) := by decide +kernel
theorem dL_law_401 : decode cL_law 401 = .ok (.iconst 2, 1) := by decide +kernel
theorem dL_law_402 : decode cL_law 402 = .ok (.iadd, 1) := by decide +kernel
theorem dL_law_403 : decode cL_law 403 = .ok (.iaload, 1) := by decide +kernel
theorem dL_law_404 : decode cL_law 404 = .ok (.invokevirtual 135, 3) := by decide +kernel
theorem dL_law_407 : decode cL_law 407 = .ok (.istore 6, 2) := by decide +kernel
theorem dL_law_409 : decode cL_law 409 = .ok (.aload_n 2, 1) := by decide +kernel
theorem dL_law_410 : decode cL_law 410 = .ok (.invokevirtual 110, 3) := by decide +kernel
theorem dL_law_413 : decode cL_law 413 = .ok (.iload 5, 2) := by decide +kernel
theorem dL_law_415 : decode cL_law 415 = .ok (.if_icmp .eq 5, 3) := by decide +kernel
theorem dL_law_418 : decode cL_law 418 = .ok (.iconst 0, 1) := by decide +kernel
theorem dL_law_419 : decode cL_law 419 = .ok (.ireturn, 1) := by decide +kernel
theorem dL_law_420 : decode cL_law 420 = .ok (.iload 5, 2) := by decide +kernel
theorem dL_law_422 : decode cL_law 422 = .ok (.ifCond .ne 15, 3) := by decide +kernel
theorem dL_law_425 : decode cL_law 425 = .ok (.aload_n 3, 1) := by decide +kernel
theorem dL_law_426 : decode cL_law 426 = .ok (.iconst 0, 1) := by decide +kernel
theorem dL_law_427 : decode cL_law 427 = .ok (.laload, 1) := by decide +kernel
theorem dL_law_428 : decode cL_law 428 = .ok (.iload 6, 2) := by decide +kernel
theorem dL_law_430 : decode cL_law 430 = .ok (.i2l, 1) := by decide +kernel
theorem dL_law_431 : decode cL_law 431 = .ok (.lcmp, 1) := by decide +kernel
theorem dL_law_432 : decode cL_law 432 = .ok (.ifCond .eq 5, 3) := by decide +kernel
theorem dL_law_435 : decode cL_law 435 = .ok (.iconst 0, 1) := by decide +kernel
theorem dL_law_436 : decode cL_law 436 = .ok (.ireturn, 1) := by decide +kernel
theorem dL_law_437 : decode cL_law 437 = .ok (.goto 1529, 3) := by decide +kernel
theorem dL_law_440 : decode cL_law 440 = .ok (.aload_n 1, 1) := by decide +kernel
theorem dL_law_441 : decode cL_law 441 = .ok (.aload_n 0, 1) := by decide +kernel
theorem dL_law_442 : decode cL_law 442 = .ok (.iload 4, 2) := by decide +kernel
theorem dL_law_444 : decode cL_law 444 = .ok (.iconst 1, 1) := by decide +kernel
theorem dL_law_445 : decode cL_law 445 = .ok (.iadd, 1) := by decide +kernel
theorem dL_law_446 : decode cL_law 446 = .ok (.iaload, 1) := by decide +kernel
theorem dL_law_447 : decode cL_law 447 = .ok (.aload_n 3, 1) := by decide +kernel
theorem dL_law_448 : decode cL_law 448 = .ok (.invokestatic 136, 3) := by decide +kernel
theorem dL_law_451 : decode cL_law 451 = .ok (.istore 5, 2) := by decide +kernel
theorem dL_law_453 : decode cL_law 453 = .ok (.aload_n 2, 1) := by decide +kernel
theorem dL_law_454 : decode cL_law 454 = .ok (.aload_n 0, 1) := by decide +kernel
theorem dL_law_455 : decode cL_law 455 = .ok (.iload 4, 2) := by decide +kernel
theorem dL_law_457 : decode cL_law 457 = .ok (.iconst 1, 1) := by decide +kernel
theorem dL_law_458 : decode cL_law 458 = .ok (.iadd, 1) := by decide +kernel
theorem dL_law_459 : decode cL_law 459 = .ok (.iaload, 1) := by decide +kernel
theorem dL_law_460 : decode cL_law 460 = .ok (.invokevirtual 138, 3) := by decide +kernel
theorem dL_law_463 : decode cL_law 463 = .ok (.istore 6, 2) := by decide +kernel
theorem dL_law_465 : decode cL_law 465 = .ok (.aload_n 2, 1) := by decide +kernel
theorem dL_law_466 : decode cL_law 466 = .ok (.invokevirtual 110, 3) := by decide +kernel
theorem dL_law_469 : decode cL_law 469 = .ok (.iload 5, 2) := by decide +kernel
theorem dL_law_471 : decode cL_law 471 = .ok (.if_icmp .eq 5, 3) := by decide +kernel
theorem dL_law_474 : decode cL_law 474 = .ok (.iconst 0, 1) := by decide +kernel
theorem dL_law_475 : decode cL_law 475 = .ok (.ireturn, 1) := by decide +kernel
theorem dL_law_476 : decode cL_law 476 = .ok (.iload 5, 2) := by decide +kernel
theorem dL_law_478 : decode cL_law 478 = .ok (.ifCond .ne 15, 3) := by decide +kernel
theorem dL_law_481 : decode cL_law 481 = .ok (.aload_n 3, 1) := by decide +kernel
theorem dL_law_482 : decode cL_law 482 = .ok (.iconst 0, 1) := by decide +kernel
theorem dL_law_483 : decode cL_law 483 = .ok (.laload, 1) := by decide +kernel
theorem dL_law_484 : decode cL_law 484 = .ok (.iload 6, 2) := by decide +kernel
theorem dL_law_486 : decode cL_law 486 = .ok (.i2l, 1) := by decide +kernel
theorem dL_law_487 : decode cL_law 487 = .ok (.lcmp, 1) := by decide +kernel
theorem dL_law_488 : decode cL_law 488 = .ok (.ifCond .eq 5, 3) := by decide +kernel
theorem dL_law_491 : decode cL_law 491 = .ok (.iconst 0, 1) := by decide +kernel
theorem dL_law_492 : decode cL_law 492 = .ok (.ireturn, 1) := by decide +kernel
theorem dL_law_493 : decode cL_law 493 = .ok (.goto 1473, 3) := by decide +kernel
theorem dL_law_496 : decode cL_law 496 = .ok (.aload_n 1, 1) := by decide +kernel
theorem dL_law_497 : decode cL_law 497 = .ok (.aload_n 3, 1) := by decide +kernel
theorem dL_law_498 : decode cL_law 498 = .ok (.invokestatic 139, 3) := by decide +kernel
theorem dL_law_501 : decode cL_law 501 = .ok (.istore 5, 2) := by decide +kernel
theorem dL_law_503 : decode cL_law 503 = .ok (.aload_n 2, 1) := by decide +kernel
theorem dL_law_504 : decode cL_law 504 = .ok (.invokevirtual 142, 3) := by decide +kernel
theorem dL_law_507 : decode cL_law 507 = .ok (.istore 6, 2) := by decide +kernel
theorem dL_law_509 : decode cL_law 509 = .ok (.aload_n 2, 1) := by decide +kernel
theorem dL_law_510 : decode cL_law 510 = .ok (.invokevirtual 110, 3) := by decide +kernel
theorem dL_law_513 : decode cL_law 513 = .ok (.iload 5, 2) := by decide +kernel
theorem dL_law_515 : decode cL_law 515 = .ok (.if_icmp .eq 5, 3) := by decide +kernel
theorem dL_law_518 : decode cL_law 518 = .ok (.iconst 0, 1) := by decide +kernel
theorem dL_law_519 : decode cL_law 519 = .ok (.ireturn, 1) := by decide +kernel
theorem dL_law_520 : decode cL_law 520 = .ok (.iload 5, 2) := by decide +kernel
theorem dL_law_522 : decode cL_law 522 = .ok (.ifCond .ne 15, 3) := by decide +kernel
theorem dL_law_525 : decode cL_law 525 = .ok (.aload_n 3, 1) := by decide +kernel
theorem dL_law_526 : decode cL_law 526 = .ok (.iconst 0, 1) := by decide +kernel
theorem dL_law_527 : decode cL_law 527 = .ok (.laload, 1) := by decide +kernel
theorem dL_law_528 : decode cL_law 528 = .ok (.iload 6, 2) := by decide +kernel
theorem dL_law_530 : decode cL_law 530 = .ok (.i2l, 1) := by decide +kernel
theorem dL_law_531 : decode cL_law 531 = .ok (.lcmp, 1) := by decide +kernel
theorem dL_law_532 : decode cL_law 532 = .ok (.ifCond .eq 5, 3) := by decide +kernel
theorem dL_law_535 : decode cL_law 535 = .ok (.iconst 0, 1) := by decide +kernel
theorem dL_law_536 : decode cL_law 536 = .ok (.ireturn, 1) := by decide +kernel
theorem dL_law_537 : decode cL_law 537 = .ok (.goto 1429, 3) := by decide +kernel
theorem dL_law_540 : decode cL_law 540 = .ok (.aload_n 1, 1) := by decide +kernel
theorem dL_law_541 : decode cL_law 541 = .ok (.aload_n 0, 1) := by decide +kernel
theorem dL_law_542 : decode cL_law 542 = .ok (.iload 4, 2) := by decide +kernel
theorem dL_law_544 : decode cL_law 544 = .ok (.iconst 1, 1) := by decide +kernel
theorem dL_law_545 : decode cL_law 545 = .ok (.iadd, 1) := by decide +kernel
theorem dL_law_546 : decode cL_law 546 = .ok (.iaload, 1) := by decide +kernel
theorem dL_law_547 : decode cL_law 547 = .ok (.aload_n 0, 1) := by decide +kernel
theorem dL_law_548 : decode cL_law 548 = .ok (.iload 4, 2) := by decide +kernel
theorem dL_law_550 : decode cL_law 550 = .ok (.iconst 2, 1) := by decide +kernel
theorem dL_law_551 : decode cL_law 551 = .ok (.iadd, 1) := by decide +kernel
theorem dL_law_552 : decode cL_law 552 = .ok (.iaload, 1) := by decide +kernel
theorem dL_law_553 : decode cL_law 553 = .ok (.aload_n 3, 1) := by decide +kernel
theorem dL_law_554 : decode cL_law 554 = .ok (.invokestatic 143, 3) := by decide +kernel
theorem dL_law_557 : decode cL_law 557 = .ok (.istore 5, 2) := by decide +kernel
theorem dL_law_559 : decode cL_law 559 = .ok (.aload_n 2, 1) := by decide +kernel
theorem dL_law_560 : decode cL_law 560 = .ok (.aload_n 0, 1) := by decide +kernel
theorem dL_law_561 : decode cL_law 561 = .ok (.iload 4, 2) := by decide +kernel
theorem dL_law_563 : decode cL_law 563 = .ok (.iconst 1, 1) := by decide +kernel
theorem dL_law_564 : decode cL_law 564 = .ok (.iadd, 1) := by decide +kernel
theorem dL_law_565 : decode cL_law 565 = .ok (.iaload, 1) := by decide +kernel
theorem dL_law_566 : decode cL_law 566 = .ok (.aload_n 0, 1) := by decide +kernel
theorem dL_law_567 : decode cL_law 567 = .ok (.iload 4, 2) := by decide +kernel
theorem dL_law_569 : decode cL_law 569 = .ok (.iconst 2, 1) := by decide +kernel
theorem dL_law_570 : decode cL_law 570 = .ok (.iadd, 1) := by decide +kernel
theorem dL_law_571 : decode cL_law 571 = .ok (.iaload, 1) := by decide +kernel
theorem dL_law_572 : decode cL_law 572 = .ok (.invokevirtual 145, 3) := by decide +kernel
theorem dL_law_575 : decode cL_law 575 = .ok (.istore 6, 2) := by decide +kernel
theorem dL_law_577 : decode cL_law 577 = .ok (.aload_n 2, 1) := by decide +kernel
theorem dL_law_578 : decode cL_law 578 = .ok (.invokevirtual 110, 3) := by decide +kernel
theorem dL_law_581 : decode cL_law 581 = .ok (.iload 5, 2) := by decide +kernel
theorem dL_law_583 : decode cL_law 583 = .ok (.if_icmp .eq 5, 3) := by decide +kernel
theorem dL_law_586 : decode cL_law 586 = .ok (.iconst 0, 1) := by decide +kernel
theorem dL_law_587 : decode cL_law 587 = .ok (.ireturn, 1) := by decide +kernel
theorem dL_law_588 : decode cL_law 588 = .ok (.iload 5, 2) := by decide +kernel
theorem dL_law_590 : decode cL_law 590 = .ok (.ifCond .ne 15, 3) := by decide +kernel
theorem dL_law_593 : decode cL_law 593 = .ok (.aload_n 3, 1) := by decide +kernel
theorem dL_law_594 : decode cL_law 594 = .ok (.iconst 0, 1) := by decide +kernel
theorem dL_law_595 : decode cL_law 595 = .ok (.laload, 1) := by decide +kernel
theorem dL_law_596 : decode cL_law 596 = .ok (.iload 6, 2) := by decide +kernel
theorem dL_law_598 : decode cL_law 598 = .ok (.i2l, 1) := by decide +kernel
theorem dL_law_599 : decode cL_law 599 = .ok (.lcmp, 1) := by decide +kernel
theorem dL_law_600 : decode cL_law 600 = .ok (.ifCond .eq 5, 3) := by decide +kernel
theorem dL_law_603 : decode cL_law 603 = .ok (.iconst 0, 1) := by decide +kernel
theorem dL_law_604 : decode cL_law 604 = .ok (.ireturn, 1) := by decide +kernel
theorem dL_law_605 : decode cL_law 605 = .ok (.goto 1361, 3) := by decide +kernel
theorem dL_law_608 : decode cL_law 608 = .ok (.aload_n 1, 1) := by decide +kernel
theorem dL_law_609 : decode cL_law 609 = .ok (.aload_n 3, 1) := by decide +kernel
theorem dL_law_610 : decode cL_law 610 = .ok (.invokestatic 146, 3) := by decide +kernel
theorem dL_law_613 : decode cL_law 613 = .ok (.istore 5, 2) := by decide +kernel
theorem dL_law_615 : decode cL_law 615 = .ok (.aload_n 2, 1) := by decide +kernel
theorem dL_law_616 : decode cL_law 616 = .ok (.invokevirtual 148, 3) := by decide +kernel
theorem dL_law_619 : decode cL_law 619 = .ok (.istore 6, 2) := by decide +kernel
theorem dL_law_621 : decode cL_law 621 = .ok (.aload_n 2, 1) := by decide +kernel
theorem dL_law_622 : decode cL_law 622 = .ok (.invokevirtual 110, 3) := by decide +kernel
theorem dL_law_625 : decode cL_law 625 = .ok (.iload 5, 2) := by decide +kernel
theorem dL_law_627 : decode cL_law 627 = .ok (.if_icmp .eq 5, 3) := by decide +kernel
theorem dL_law_630 : decode cL_law 630 = .ok (.iconst 0, 1) := by decide +kernel
theorem dL_law_631 : decode cL_law 631 = .ok (.ireturn, 1) := by decide +kernel
theorem dL_law_632 : decode cL_law 632 = .ok (.iload 5, 2) := by decide +kernel
theorem dL_law_634 : decode cL_law 634 = .ok (.ifCond .ne 15, 3) := by decide +kernel
theorem dL_law_637 : decode cL_law 637 = .ok (.aload_n 3, 1) := by decide +kernel
theorem dL_law_638 : decode cL_law 638 = .ok (.iconst 0, 1) := by decide +kernel
theorem dL_law_639 : decode cL_law 639 = .ok (.laload, 1) := by decide +kernel
theorem dL_law_640 : decode cL_law 640 = .ok (.iload 6, 2) := by decide +kernel
theorem dL_law_642 : decode cL_law 642 = .ok (.i2l, 1) := by decide +kernel
theorem dL_law_643 : decode cL_law 643 = .ok (.lcmp, 1) := by decide +kernel
theorem dL_law_644 : decode cL_law 644 = .ok (.ifCond .eq 5, 3) := by decide +kernel
theorem dL_law_647 : decode cL_law 647 = .ok (.iconst 0, 1) := by decide +kernel
theorem dL_law_648 : decode cL_law 648 = .ok (.ireturn, 1) := by decide +kernel
theorem dL_law_649 : decode cL_law 649 = .ok (.goto 1317, 3) := by decide +kernel
theorem dL_law_652 : decode cL_law 652 = .ok (.aload_n 1, 1) := by decide +kernel
theorem dL_law_653 : decode cL_law 653 = .ok (.aload_n 0, 1) := by decide +kernel
theorem dL_law_654 : decode cL_law 654 = .ok (.iload 4, 2) := by decide +kernel
theorem dL_law_656 : decode cL_law 656 = .ok (.iconst 1, 1) := by decide +kernel
theorem dL_law_657 : decode cL_law 657 = .ok (.iadd, 1) := by decide +kernel
theorem dL_law_658 : decode cL_law 658 = .ok (.iaload, 1) := by decide +kernel
theorem dL_law_659 : decode cL_law 659 = .ok (.aload_n 3, 1) := by decide +kernel
theorem dL_law_660 : decode cL_law 660 = .ok (.invokestatic 149, 3) := by decide +kernel
theorem dL_law_663 : decode cL_law 663 = .ok (.istore 5, 2) := by decide +kernel
theorem dL_law_665 : decode cL_law 665 = .ok (.aload_n 2, 1) := by decide +kernel
theorem dL_law_666 : decode cL_law 666 = .ok (.aload_n 0, 1) := by decide +kernel
theorem dL_law_667 : decode cL_law 667 = .ok (.iload 4, 2) := by decide +kernel
theorem dL_law_669 : decode cL_law 669 = .ok (.iconst 1, 1) := by decide +kernel
theorem dL_law_670 : decode cL_law 670 = .ok (.iadd, 1) := by decide +kernel
theorem dL_law_671 : decode cL_law 671 = .ok (.iaload, 1) := by decide +kernel
theorem dL_law_672 : decode cL_law 672 = .ok (.invokevirtual 151, 3) := by decide +kernel
theorem dL_law_675 : decode cL_law 675 = .ok (.istore 6, 2) := by decide +kernel
theorem dL_law_677 : decode cL_law 677 = .ok (.aload_n 2, 1) := by decide +kernel
theorem dL_law_678 : decode cL_law 678 = .ok (.invokevirtual 110, 3) := by decide +kernel
theorem dL_law_681 : decode cL_law 681 = .ok (.iload 5, 2) := by decide +kernel
theorem dL_law_683 : decode cL_law 683 = .ok (.if_icmp .eq 5, 3) := by decide +kernel
theorem dL_law_686 : decode cL_law 686 = .ok (.iconst 0, 1) := by decide +kernel
theorem dL_law_687 : decode cL_law 687 = .ok (.ireturn, 1) := by decide +kernel
theorem dL_law_688 : decode cL_law 688 = .ok (.iload 5, 2) := by decide +kernel
theorem dL_law_690 : decode cL_law 690 = .ok (.ifCond .ne 15, 3) := by decide +kernel
theorem dL_law_693 : decode cL_law 693 = .ok (.aload_n 3, 1) := by decide +kernel
theorem dL_law_694 : decode cL_law 694 = .ok (.iconst 0, 1) := by decide +kernel
theorem dL_law_695 : decode cL_law 695 = .ok (.laload, 1) := by decide +kernel
theorem dL_law_696 : decode cL_law 696 = .ok (.iload 6, 2) := by decide +kernel
theorem dL_law_698 : decode cL_law 698 = .ok (.i2l, 1) := by decide +kernel
theorem dL_law_699 : decode cL_law 699 = .ok (.lcmp, 1) := by decide +kernel
theorem dL_law_700 : decode cL_law 700 = .ok (.ifCond .eq 5, 3) := by decide +kernel
theorem dL_law_703 : decode cL_law 703 = .ok (.iconst 0, 1) := by decide +kernel
theorem dL_law_704 : decode cL_law 704 = .ok (.ireturn, 1) := by decide +kernel
theorem dL_law_705 : decode cL_law 705 = .ok (.goto 1261, 3) := by decide +kernel
theorem dL_law_708 : decode cL_law 708 = .ok (.aload_n 1, 1) := by decide +kernel
theorem dL_law_709 : decode cL_law 709 = .ok (.aload_n 0, 1) := by decide +kernel
theorem dL_law_710 : decode cL_law 710 = .ok (.iload 4, 2) := by decide +kernel
theorem dL_law_712 : decode cL_law 712 = .ok (.iconst 1, 1) := by decide +kernel
theorem dL_law_713 : decode cL_law 713 = .ok (.iadd, 1) := by decide +kernel
theorem dL_law_714 : decode cL_law 714 = .ok (.iaload, 1) := by decide +kernel
theorem dL_law_715 : decode cL_law 715 = .ok (.aload_n 3, 1) := by decide +kernel
theorem dL_law_716 : decode cL_law 716 = .ok (.invokestatic 152, 3) := by decide +kernel
theorem dL_law_719 : decode cL_law 719 = .ok (.istore 5, 2) := by decide +kernel
theorem dL_law_721 : decode cL_law 721 = .ok (.aload_n 2, 1) := by decide +kernel
theorem dL_law_722 : decode cL_law 722 = .ok (.aload_n 0, 1) := by decide +kernel
theorem dL_law_723 : decode cL_law 723 = .ok (.iload 4, 2) := by decide +kernel
theorem dL_law_725 : decode cL_law 725 = .ok (.iconst 1, 1) := by decide +kernel
theorem dL_law_726 : decode cL_law 726 = .ok (.iadd, 1) := by decide +kernel
theorem dL_law_727 : decode cL_law 727 = .ok (.iaload, 1) := by decide +kernel
theorem dL_law_728 : decode cL_law 728 = .ok (.invokevirtual 154, 3) := by decide +kernel
theorem dL_law_731 : decode cL_law 731 = .ok (.istore 6, 2) := by decide +kernel
theorem dL_law_733 : decode cL_law 733 = .ok (.aload_n 2, 1) := by decide +kernel
theorem dL_law_734 : decode cL_law 734 = .ok (.invokevirtual 110, 3) := by decide +kernel
theorem dL_law_737 : decode cL_law 737 = .ok (.iload 5, 2) := by decide +kernel
theorem dL_law_739 : decode cL_law 739 = .ok (.if_icmp .eq 5, 3) := by decide +kernel
theorem dL_law_742 : decode cL_law 742 = .ok (.iconst 0, 1) := by decide +kernel
theorem dL_law_743 : decode cL_law 743 = .ok (.ireturn, 1) := by decide +kernel
theorem dL_law_744 : decode cL_law 744 = .ok (.iload 5, 2) := by decide +kernel
theorem dL_law_746 : decode cL_law 746 = .ok (.ifCond .ne 15, 3) := by decide +kernel
theorem dL_law_749 : decode cL_law 749 = .ok (.aload_n 3, 1) := by decide +kernel
theorem dL_law_750 : decode cL_law 750 = .ok (.iconst 0, 1) := by decide +kernel
theorem dL_law_751 : decode cL_law 751 = .ok (.laload, 1) := by decide +kernel
theorem dL_law_752 : decode cL_law 752 = .ok (.iload 6, 2) := by decide +kernel
theorem dL_law_754 : decode cL_law 754 = .ok (.i2l, 1) := by decide +kernel
theorem dL_law_755 : decode cL_law 755 = .ok (.lcmp, 1) := by decide +kernel
theorem dL_law_756 : decode cL_law 756 = .ok (.ifCond .eq 5, 3) := by decide +kernel
theorem dL_law_759 : decode cL_law 759 = .ok (.iconst 0, 1) := by decide +kernel
theorem dL_law_760 : decode cL_law 760 = .ok (.ireturn, 1) := by decide +kernel
theorem dL_law_761 : decode cL_law 761 = .ok (.goto 1205, 3) := by decide +kernel
theorem dL_law_764 : decode cL_law 764 = .ok (.aload_n 1, 1) := by decide +kernel
theorem dL_law_765 : decode cL_law 765 = .ok (.aload_n 0, 1) := by decide +kernel
theorem dL_law_766 : decode cL_law 766 = .ok (.iload 4, 2) := by decide +kernel
theorem dL_law_768 : decode cL_law 768 = .ok (.iconst 1, 1) := by decide +kernel
theorem dL_law_769 : decode cL_law 769 = .ok (.iadd, 1) := by decide +kernel
theorem dL_law_770 : decode cL_law 770 = .ok (.iaload, 1) := by decide +kernel
theorem dL_law_771 : decode cL_law 771 = .ok (.aload_n 3, 1) := by decide +kernel
theorem dL_law_772 : decode cL_law 772 = .ok (.invokestatic 155, 3) := by decide +kernel
theorem dL_law_775 : decode cL_law 775 = .ok (.istore 5, 2) := by decide +kernel
theorem dL_law_777 : decode cL_law 777 = .ok (.aload_n 2, 1) := by decide +kernel
theorem dL_law_778 : decode cL_law 778 = .ok (.aload_n 0, 1) := by decide +kernel
theorem dL_law_779 : decode cL_law 779 = .ok (.iload 4, 2) := by decide +kernel
theorem dL_law_781 : decode cL_law 781 = .ok (.iconst 1, 1) := by decide +kernel
theorem dL_law_782 : decode cL_law 782 = .ok (.iadd, 1) := by decide +kernel
theorem dL_law_783 : decode cL_law 783 = .ok (.iaload, 1) := by decide +kernel
theorem dL_law_784 : decode cL_law 784 = .ok (.invokevirtual 157, 3) := by decide +kernel
theorem dL_law_787 : decode cL_law 787 = .ok (.istore 6, 2) := by decide +kernel
theorem dL_law_789 : decode cL_law 789 = .ok (.aload_n 2, 1) := by decide +kernel
theorem dL_law_790 : decode cL_law 790 = .ok (.invokevirtual 110, 3) := by decide +kernel
theorem dL_law_793 : decode cL_law 793 = .ok (.iload 5, 2) := by decide +kernel
theorem dL_law_795 : decode cL_law 795 = .ok (.if_icmp .eq 5, 3) := by decide +kernel
theorem dL_law_798 : decode cL_law 798 = .ok (.iconst 0, 1) := by decide +kernel
theorem dL_law_799 : decode cL_law 799 = .ok (.ireturn, 1) := by decide +kernel
theorem dL_law_800 : decode cL_law 800 = .ok (.iload 5, 2) := by decide +kernel
theorem dL_law_802 : decode cL_law 802 = .ok (.ifCond .ne 15, 3) := by decide +kernel
theorem dL_law_805 : decode cL_law 805 = .ok (.aload_n 3, 1) := by decide +kernel
theorem dL_law_806 : decode cL_law 806 = .ok (.iconst 0, 1) := by decide +kernel
theorem dL_law_807 : decode cL_law 807 = .ok (.laload, 1) := by decide +kernel
theorem dL_law_808 : decode cL_law 808 = .ok (.iload 6, 2) := by decide +kernel
theorem dL_law_810 : decode cL_law 810 = .ok (.i2l, 1) := by decide +kernel
theorem dL_law_811 : decode cL_law 811 = .ok (.lcmp, 1) := by decide +kernel
theorem dL_law_812 : decode cL_law 812 = .ok (.ifCond .eq 5, 3) := by decide +kernel
theorem dL_law_815 : decode cL_law 815 = .ok (.iconst 0, 1) := by decide +kernel
theorem dL_law_816 : decode cL_law 816 = .ok (.ireturn, 1) := by decide +kernel
theorem dL_law_817 : decode cL_law 817 = .ok (.goto 1149, 3) := by decide +kernel
theorem dL_law_820 : decode cL_law 820 = .ok (.aload_n 1, 1) := by decide +kernel
theorem dL_law_821 : decode cL_law 821 = .ok (.aload_n 0, 1) := by decide +kernel
theorem dL_law_822 : decode cL_law 822 = .ok (.iload 4, 2) := by decide +kernel
theorem dL_law_824 : decode cL_law 824 = .ok (.iconst 1, 1) := by decide +kernel
theorem dL_law_825 : decode cL_law 825 = .ok (.iadd, 1) := by decide +kernel
theorem dL_law_826 : decode cL_law 826 = .ok (.iaload, 1) := by decide +kernel
theorem dL_law_827 : decode cL_law 827 = .ok (.aload_n 3, 1) := by decide +kernel
theorem dL_law_828 : decode cL_law 828 = .ok (.invokestatic 158, 3) := by decide +kernel
theorem dL_law_831 : decode cL_law 831 = .ok (.istore 5, 2) := by decide +kernel
theorem dL_law_833 : decode cL_law 833 = .ok (.aload_n 2, 1) := by decide +kernel
theorem dL_law_834 : decode cL_law 834 = .ok (.aload_n 0, 1) := by decide +kernel
theorem dL_law_835 : decode cL_law 835 = .ok (.iload 4, 2) := by decide +kernel
theorem dL_law_837 : decode cL_law 837 = .ok (.iconst 1, 1) := by decide +kernel
theorem dL_law_838 : decode cL_law 838 = .ok (.iadd, 1) := by decide +kernel
theorem dL_law_839 : decode cL_law 839 = .ok (.iaload, 1) := by decide +kernel
theorem dL_law_840 : decode cL_law 840 = .ok (.invokevirtual 160, 3) := by decide +kernel
theorem dL_law_843 : decode cL_law 843 = .ok (.istore 6, 2) := by decide +kernel
theorem dL_law_845 : decode cL_law 845 = .ok (.aload_n 2, 1) := by decide +kernel
theorem dL_law_846 : decode cL_law 846 = .ok (.invokevirtual 110, 3) := by decide +kernel
theorem dL_law_849 : decode cL_law 849 = .ok (.iload 5, 2) := by decide +kernel
theorem dL_law_851 : decode cL_law 851 = .ok (.if_icmp .eq 5, 3) := by decide +kernel
theorem dL_law_854 : decode cL_law 854 = .ok (.iconst 0, 1) := by decide +kernel
theorem dL_law_855 : decode cL_law 855 = .ok (.ireturn, 1) := by decide +kernel
theorem dL_law_856 : decode cL_law 856 = .ok (.iload 5, 2) := by decide +kernel
theorem dL_law_858 : decode cL_law 858 = .ok (.ifCond .ne 15, 3) := by decide +kernel
theorem dL_law_861 : decode cL_law 861 = .ok (.aload_n 3, 1) := by decide +kernel
theorem dL_law_862 : decode cL_law 862 = .ok (.iconst 0, 1) := by decide +kernel
theorem dL_law_863 : decode cL_law 863 = .ok (.laload, 1) := by decide +kernel
theorem dL_law_864 : decode cL_law 864 = .ok (.iload 6, 2) := by decide +kernel
theorem dL_law_866 : decode cL_law 866 = .ok (.i2l, 1) := by decide +kernel
theorem dL_law_867 : decode cL_law 867 = .ok (.lcmp, 1) := by decide +kernel
theorem dL_law_868 : decode cL_law 868 = .ok (.ifCond .eq 5, 3) := by decide +kernel
theorem dL_law_871 : decode cL_law 871 = .ok (.iconst 0, 1) := by decide +kernel
theorem dL_law_872 : decode cL_law 872 = .ok (.ireturn, 1) := by decide +kernel
theorem dL_law_873 : decode cL_law 873 = .ok (.goto 1093, 3) := by decide +kernel
theorem dL_law_876 : decode cL_law 876 = .ok (.aload_n 1, 1) := by decide +kernel
theorem dL_law_877 : decode cL_law 877 = .ok (.aload_n 0, 1) := by decide +kernel
theorem dL_law_878 : decode cL_law 878 = .ok (.iload 4, 2) := by decide +kernel
theorem dL_law_880 : decode cL_law 880 = .ok (.iconst 1, 1) := by decide +kernel
theorem dL_law_881 : decode cL_law 881 = .ok (.iadd, 1) := by decide +kernel
theorem dL_law_882 : decode cL_law 882 = .ok (.iaload, 1) := by decide +kernel
theorem dL_law_883 : decode cL_law 883 = .ok (.aload_n 0, 1) := by decide +kernel
theorem dL_law_884 : decode cL_law 884 = .ok (.iload 4, 2) := by decide +kernel
theorem dL_law_886 : decode cL_law 886 = .ok (.iconst 2, 1) := by decide +kernel
theorem dL_law_887 : decode cL_law 887 = .ok (.iadd, 1) := by decide +kernel
theorem dL_law_888 : decode cL_law 888 = .ok (.iaload, 1) := by decide +kernel
theorem dL_law_889 : decode cL_law 889 = .ok (.aload_n 3, 1) := by decide +kernel
theorem dL_law_890 : decode cL_law 890 = .ok (.invokestatic 161, 3) := by decide +kernel
theorem dL_law_893 : decode cL_law 893 = .ok (.istore 5, 2) := by decide +kernel
theorem dL_law_895 : decode cL_law 895 = .ok (.aload_n 2, 1) := by decide +kernel
theorem dL_law_896 : decode cL_law 896 = .ok (.aload_n 0, 1) := by decide +kernel
theorem dL_law_897 : decode cL_law 897 = .ok (.iload 4, 2) := by decide +kernel
theorem dL_law_899 : decode cL_law 899 = .ok (.iconst 1, 1) := by decide +kernel
theorem dL_law_900 : decode cL_law 900 = .ok (.iadd, 1) := by decide +kernel
theorem dL_law_901 : decode cL_law 901 = .ok (.iaload, 1) := by decide +kernel
theorem dL_law_902 : decode cL_law 902 = .ok (.aload_n 0, 1) := by decide +kernel
theorem dL_law_903 : decode cL_law 903 = .ok (.iload 4, 2) := by decide +kernel
theorem dL_law_905 : decode cL_law 905 = .ok (.iconst 2, 1) := by decide +kernel
theorem dL_law_906 : decode cL_law 906 = .ok (.iadd, 1) := by decide +kernel
theorem dL_law_907 : decode cL_law 907 = .ok (.iaload, 1) := by decide +kernel
theorem dL_law_908 : decode cL_law 908 = .ok (.invokevirtual 163, 3) := by decide +kernel
theorem dL_law_911 : decode cL_law 911 = .ok (.istore 6, 2) := by decide +kernel
theorem dL_law_913 : decode cL_law 913 = .ok (.aload_n 2, 1) := by decide +kernel
theorem dL_law_914 : decode cL_law 914 = .ok (.invokevirtual 110, 3) := by decide +kernel
theorem dL_law_917 : decode cL_law 917 = .ok (.iload 5, 2) := by decide +kernel
theorem dL_law_919 : decode cL_law 919 = .ok (.if_icmp .eq 5, 3) := by decide +kernel
theorem dL_law_922 : decode cL_law 922 = .ok (.iconst 0, 1) := by decide +kernel
theorem dL_law_923 : decode cL_law 923 = .ok (.ireturn, 1) := by decide +kernel
theorem dL_law_924 : decode cL_law 924 = .ok (.iload 5, 2) := by decide +kernel
theorem dL_law_926 : decode cL_law 926 = .ok (.ifCond .ne 15, 3) := by decide +kernel
theorem dL_law_929 : decode cL_law 929 = .ok (.aload_n 3, 1) := by decide +kernel
theorem dL_law_930 : decode cL_law 930 = .ok (.iconst 0, 1) := by decide +kernel
theorem dL_law_931 : decode cL_law 931 = .ok (.laload, 1) := by decide +kernel
theorem dL_law_932 : decode cL_law 932 = .ok (.iload 6, 2) := by decide +kernel
theorem dL_law_934 : decode cL_law 934 = .ok (.i2l, 1) := by decide +kernel
theorem dL_law_935 : decode cL_law 935 = .ok (.lcmp, 1) := by decide +kernel
theorem dL_law_936 : decode cL_law 936 = .ok (.ifCond .eq 5, 3) := by decide +kernel
theorem dL_law_939 : decode cL_law 939 = .ok (.iconst 0, 1) := by decide +kernel
theorem dL_law_940 : decode cL_law 940 = .ok (.ireturn, 1) := by decide +kernel
theorem dL_law_941 : decode cL_law 941 = .ok (.goto 1025, 3) := by decide +kernel
theorem dL_law_944 : decode cL_law 944 = .ok (.aload_n 1, 1) := by decide +kernel
theorem dL_law_945 : decode cL_law 945 = .ok (.aload_n 0, 1) := by decide +kernel
theorem dL_law_946 : decode cL_law 946 = .ok (.iload 4, 2) := by decide +kernel
theorem dL_law_948 : decode cL_law 948 = .ok (.iconst 1, 1) := by decide +kernel
theorem dL_law_949 : decode cL_law 949 = .ok (.iadd, 1) := by decide +kernel
theorem dL_law_950 : decode cL_law 950 = .ok (.iaload, 1) := by decide +kernel
theorem dL_law_951 : decode cL_law 951 = .ok (.ifCond .eq 7, 3) := by decide +kernel
theorem dL_law_954 : decode cL_law 954 = .ok (.iconst 1, 1) := by decide +kernel
theorem dL_law_955 : decode cL_law 955 = .ok (.goto 4, 3) := by decide +kernel
theorem dL_law_958 : decode cL_law 958 = .ok (.iconst 0, 1) := by decide +kernel
theorem dL_law_959 : decode cL_law 959 = .ok (.invokevirtual 164, 3) := by decide +kernel
theorem dL_law_962 : decode cL_law 962 = .ok (.aload_n 2, 1) := by decide +kernel
theorem dL_law_963 : decode cL_law 963 = .ok (.aload_n 0, 1) := by decide +kernel
theorem dL_law_964 : decode cL_law 964 = .ok (.iload 4, 2) := by decide +kernel
theorem dL_law_966 : decode cL_law 966 = .ok (.iconst 1, 1) := by decide +kernel
theorem dL_law_967 : decode cL_law 967 = .ok (.iadd, 1) := by decide +kernel
theorem dL_law_968 : decode cL_law 968 = .ok (.iaload, 1) := by decide +kernel
theorem dL_law_969 : decode cL_law 969 = .ok (.ifCond .eq 7, 3) := by decide +kernel
theorem dL_law_972 : decode cL_law 972 = .ok (.iconst 1, 1) := by decide +kernel
theorem dL_law_973 : decode cL_law 973 = .ok (.goto 4, 3) := by decide +kernel
theorem dL_law_976 : decode cL_law 976 = .ok (.iconst 0, 1) := by decide +kernel
theorem dL_law_977 : decode cL_law 977 = .ok (.invokevirtual 168, 3) := by decide +kernel
theorem dL_law_980 : decode cL_law 980 = .ok (.if_icmp .eq 986, 3) := by decide +kernel
theorem dL_law_983 : decode cL_law 983 = .ok (.iconst 0, 1) := by decide +kernel
theorem dL_law_984 : decode cL_law 984 = .ok (.ireturn, 1) := by decide +kernel
theorem dL_law_985 : decode cL_law 985 = .ok (.aload_n 1, 1) := by decide +kernel
theorem dL_law_986 : decode cL_law 986 = .ok (.aload_n 0, 1) := by decide +kernel
theorem dL_law_987 : decode cL_law 987 = .ok (.iload 4, 2) := by decide +kernel
theorem dL_law_989 : decode cL_law 989 = .ok (.iconst 1, 1) := by decide +kernel
theorem dL_law_990 : decode cL_law 990 = .ok (.iadd, 1) := by decide +kernel
theorem dL_law_991 : decode cL_law 991 = .ok (.iaload, 1) := by decide +kernel
theorem dL_law_992 : decode cL_law 992 = .ok (.aload_n 0, 1) := by decide +kernel
theorem dL_law_993 : decode cL_law 993 = .ok (.iload 4, 2) := by decide +kernel
theorem dL_law_995 : decode cL_law 995 = .ok (.iconst 2, 1) := by decide +kernel
theorem dL_law_996 : decode cL_law 996 = .ok (.iadd, 1) := by decide +kernel
theorem dL_law_997 : decode cL_law 997 = .ok (.iaload, 1) := by decide +kernel
theorem dL_law_998 : decode cL_law 998 = .ok (.aload_n 0, 1) := by decide +kernel
theorem dL_law_999 : decode cL_law 999 = .ok (.iload 4, 2) := by decide +kernel
theorem dL_law_1001 : decode cL_law 1001 = .ok (.iconst 3, 1) := by decide +kernel
theorem dL_law_1002 : decode cL_law 1002 = .ok (.iadd, 1) := by decide +kernel
theorem dL_law_1003 : decode cL_law 1003 = .ok (.iaload, 1) := by decide +kernel
theorem dL_law_1004 : decode cL_law 1004 = .ok (.ifCond .eq 7, 3) := by decide +kernel
theorem dL_law_1007 : decode cL_law 1007 = .ok (.iconst 1, 1) := by decide +kernel
theorem dL_law_1008 : decode cL_law 1008 = .ok (.goto 4, 3) := by decide +kernel
theorem dL_law_1011 : decode cL_law 1011 = .ok (.iconst 0, 1) := by decide +kernel
theorem dL_law_1012 : decode cL_law 1012 = .ok (.aload_n 3, 1) := by decide +kernel
theorem dL_law_1013 : decode cL_law 1013 = .ok (.invokestatic 169, 3) := by decide +kernel
theorem dL_law_1016 : decode cL_law 1016 = .ok (.istore 5, 2) := by decide +kernel
theorem dL_law_1018 : decode cL_law 1018 = .ok (.aload_n 2, 1) := by decide +kernel
theorem dL_law_1019 : decode cL_law 1019 = .ok (.aload_n 0, 1) := by decide +kernel
theorem dL_law_1020 : decode cL_law 1020 = .ok (.iload 4, 2) := by decide +kernel
theorem dL_law_1022 : decode cL_law 1022 = .ok (.iconst 1, 1) := by decide +kernel
theorem dL_law_1023 : decode cL_law 1023 = .ok (.iadd, 1) := by decide +kernel
theorem dL_law_1024 : decode cL_law 1024 = .ok (.iaload, 1) := by decide +kernel
theorem dL_law_1025 : decode cL_law 1025 = .ok (.aload_n 0, 1) := by decide +kernel
theorem dL_law_1026 : decode cL_law 1026 = .ok (.iload 4, 2) := by decide +kernel
theorem dL_law_1028 : decode cL_law 1028 = .ok (.iconst 2, 1) := by decide +kernel
theorem dL_law_1029 : decode cL_law 1029 = .ok (.iadd, 1) := by decide +kernel
theorem dL_law_1030 : decode cL_law 1030 = .ok (.iaload, 1) := by decide +kernel
theorem dL_law_1031 : decode cL_law 1031 = .ok (.aload_n 0, 1) := by decide +kernel
theorem dL_law_1032 : decode cL_law 1032 = .ok (.iload 4, 2) := by decide +kernel
theorem dL_law_1034 : decode cL_law 1034 = .ok (.iconst 3, 1) := by decide +kernel
theorem dL_law_1035 : decode cL_law 1035 = .ok (.iadd, 1) := by decide +kernel
theorem dL_law_1036 : decode cL_law 1036 = .ok (.iaload, 1) := by decide +kernel
theorem dL_law_1037 : decode cL_law 1037 = .ok (.ifCond .eq 7, 3) := by decide +kernel
theorem dL_law_1040 : decode cL_law 1040 = .ok (.iconst 1, 1) := by decide +kernel
theorem dL_law_1041 : decode cL_law 1041 = .ok (.goto 4, 3) := by decide +kernel
theorem dL_law_1044 : decode cL_law 1044 = .ok (.iconst 0, 1) := by decide +kernel
theorem dL_law_1045 : decode cL_law 1045 = .ok (.invokevirtual 172, 3) := by decide +kernel
theorem dL_law_1048 : decode cL_law 1048 = .ok (.istore 6, 2) := by decide +kernel
theorem dL_law_1050 : decode cL_law 1050 = .ok (.aload_n 2, 1) := by decide +kernel
theorem dL_law_1051 : decode cL_law 1051 = .ok (.invokevirtual 110, 3) := by decide +kernel
theorem dL_law_1054 : decode cL_law 1054 = .ok (.iload 5, 2) := by decide +kernel
theorem dL_law_1056 : decode cL_law 1056 = .ok (.if_icmp .eq 5, 3) := by decide +kernel
theorem dL_law_1059 : decode cL_law 1059 = .ok (.iconst 0, 1) := by decide +kernel
theorem dL_law_1060 : decode cL_law 1060 = .ok (.ireturn, 1) := by decide +kernel
theorem dL_law_1061 : decode cL_law 1061 = .ok (.iload 5, 2) := by decide +kernel
theorem dL_law_1063 : decode cL_law 1063 = .ok (.ifCond .ne 22, 3) := by decide +kernel
theorem dL_law_1066 : decode cL_law 1066 = .ok (.aload_n 3, 1) := by decide +kernel
theorem dL_law_1067 : decode cL_law 1067 = .ok (.iconst 0, 1) := by decide +kernel
theorem dL_law_1068 : decode cL_law 1068 = .ok (.laload, 1) := by decide +kernel
theorem dL_law_1069 : decode cL_law 1069 = .ok (.iload 6, 2) := by decide +kernel
theorem dL_law_1071 : decode cL_law 1071 = .ok (.ifCond .eq 7, 3) := by decide +kernel
theorem dL_law_1074 : decode cL_law 1074 = .ok (.lconst 1, 1) := by decide +kernel
theorem dL_law_1075 : decode cL_law 1075 = .ok (.goto 4, 3) := by decide +kernel
theorem dL_law_1078 : decode cL_law 1078 = .ok (.lconst 0, 1) := by decide +kernel
theorem dL_law_1079 : decode cL_law 1079 = .ok (.lcmp, 1) := by decide +kernel
theorem dL_law_1080 : decode cL_law 1080 = .ok (.ifCond .eq 5, 3) := by decide +kernel
theorem dL_law_1083 : decode cL_law 1083 = .ok (.iconst 0, 1) := by decide +kernel
theorem dL_law_1084 : decode cL_law 1084 = .ok (.ireturn, 1) := by decide +kernel
theorem dL_law_1085 : decode cL_law 1085 = .ok (.goto 881, 3) := by decide +kernel
theorem dL_law_1088 : decode cL_law 1088 = .ok (.aload_n 1, 1) := by decide +kernel
theorem dL_law_1089 : decode cL_law 1089 = .ok (.invokevirtual 173, 3) := by decide +kernel
theorem dL_law_1092 : decode cL_law 1092 = .ok (.aload_n 2, 1) := by decide +kernel
theorem dL_law_1093 : decode cL_law 1093 = .ok (.invokevirtual 176, 3) := by decide +kernel
theorem dL_law_1096 : decode cL_law 1096 = .ok (.if_icmp .eq 870, 3) := by decide +kernel
theorem dL_law_1099 : decode cL_law 1099 = .ok (.iconst 0, 1) := by decide +kernel
theorem dL_law_1100 : decode cL_law 1100 = .ok (.ireturn, 1) := by decide +kernel
theorem dL_law_1101 : decode cL_law 1101 = .ok (.aload_n 1, 1) := by decide +kernel
theorem dL_law_1102 : decode cL_law 1102 = .ok (.aload_n 0, 1) := by decide +kernel
theorem dL_law_1103 : decode cL_law 1103 = .ok (.iload 4, 2) := by decide +kernel
theorem dL_law_1105 : decode cL_law 1105 = .ok (.iconst 1, 1) := by decide +kernel
theorem dL_law_1106 : decode cL_law 1106 = .ok (.iadd, 1) := by decide +kernel
theorem dL_law_1107 : decode cL_law 1107 = .ok (.iaload, 1) := by decide +kernel
theorem dL_law_1108 : decode cL_law 1108 = .ok (.aload_n 3, 1) := by decide +kernel
theorem dL_law_1109 : decode cL_law 1109 = .ok (.invokestatic 177, 3) := by decide +kernel
theorem dL_law_1112 : decode cL_law 1112 = .ok (.istore 5, 2) := by decide +kernel
theorem dL_law_1114 : decode cL_law 1114 = .ok (.aload_n 2, 1) := by decide +kernel
theorem dL_law_1115 : decode cL_law 1115 = .ok (.aload_n 0, 1) := by decide +kernel
theorem dL_law_1116 : decode cL_law 1116 = .ok (.iload 4, 2) := by decide +kernel
theorem dL_law_1118 : decode cL_law 1118 = .ok (.iconst 1, 1) := by decide +kernel
theorem dL_law_1119 : decode cL_law 1119 = .ok (.iadd, 1) := by decide +kernel
theorem dL_law_1120 : decode cL_law 1120 = .ok (.iaload, 1) := by decide +kernel
theorem dL_law_1121 : decode cL_law 1121 = .ok (.invokevirtual 179, 3) := by decide +kernel
theorem dL_law_1124 : decode cL_law 1124 = .ok (.istore 6, 2) := by decide +kernel
theorem dL_law_1126 : decode cL_law 1126 = .ok (.aload_n 2, 1) := by decide +kernel
theorem dL_law_1127 : decode cL_law 1127 = .ok (.invokevirtual 110, 3) := by decide +kernel
theorem dL_law_1130 : decode cL_law 1130 = .ok (.iload 5, 2) := by decide +kernel
theorem dL_law_1132 : decode cL_law 1132 = .ok (.if_icmp .eq 5, 3) := by decide +kernel
theorem dL_law_1135 : decode cL_law 1135 = .ok (.iconst 0, 1) := by decide +kernel
theorem dL_law_1136 : decode cL_law 1136 = .ok (.ireturn, 1) := by decide +kernel
theorem dL_law_1137 : decode cL_law 1137 = .ok (.iload 5, 2) := by decide +kernel
theorem dL_law_1139 : decode cL_law 1139 = .ok (.ifCond .ne 15, 3) := by decide +kernel
theorem dL_law_1142 : decode cL_law 1142 = .ok (.aload_n 3, 1) := by decide +kernel
theorem dL_law_1143 : decode cL_law 1143 = .ok (.iconst 0, 1) := by decide +kernel
theorem dL_law_1144 : decode cL_law 1144 = .ok (.laload, 1) := by decide +kernel
theorem dL_law_1145 : decode cL_law 1145 = .ok (.iload 6, 2) := by decide +kernel
theorem dL_law_1147 : decode cL_law 1147 = .ok (.i2l, 1) := by decide +kernel
theorem dL_law_1148 : decode cL_law 1148 = .ok (.lcmp, 1) := by decide +kernel
theorem dL_law_1149 : decode cL_law 1149 = .ok (.ifCond .eq 5, 3) := by decide +kernel
theorem dL_law_1152 : decode cL_law 1152 = .ok (.iconst 0, 1) := by decide +kernel
theorem dL_law_1153 : decode cL_law 1153 = .ok (.ireturn, 1) := by decide +kernel
theorem dL_law_1154 : decode cL_law 1154 = .ok (.goto 812, 3) := by decide +kernel
theorem dL_law_1157 : decode cL_law 1157 = .ok (.aload_n 1, 1) := by decide +kernel
theorem dL_law_1158 : decode cL_law 1158 = .ok (.invokevirtual 180, 3) := by decide +kernel
theorem dL_law_1161 : decode cL_law 1161 = .ok (.aload_n 2, 1) := by decide +kernel
theorem dL_law_1162 : decode cL_law 1162 = .ok (.invokevirtual 183, 3) := by decide +kernel
theorem dL_law_1165 : decode cL_law 1165 = .ok (.if_icmp .eq 801, 3) := by decide +kernel
theorem dL_law_1168 : decode cL_law 1168 = .ok (.iconst 0, 1) := by decide +kernel
theorem dL_law_1169 : decode cL_law 1169 = .ok (.ireturn, 1) := by decide +kernel
theorem dL_law_1170 : decode cL_law 1170 = .ok (.aload_n 1, 1) := by decide +kernel
theorem dL_law_1171 : decode cL_law 1171 = .ok (.aload_n 0, 1) := by decide +kernel
theorem dL_law_1172 : decode cL_law 1172 = .ok (.iload 4, 2) := by decide +kernel
theorem dL_law_1174 : decode cL_law 1174 = .ok (.iconst 1, 1) := by decide +kernel
theorem dL_law_1175 : decode cL_law 1175 = .ok (.iadd, 1) := by decide +kernel
theorem dL_law_1176 : decode cL_law 1176 = .ok (.iaload, 1) := by decide +kernel
theorem dL_law_1177 : decode cL_law 1177 = .ok (.aload_n 3, 1) := by decide +kernel
theorem dL_law_1178 : decode cL_law 1178 = .ok (.invokestatic 184, 3) := by decide +kernel
theorem dL_law_1181 : decode cL_law 1181 = .ok (.istore 5, 2) := by decide +kernel
theorem dL_law_1183 : decode cL_law 1183 = .ok (.aload_n 2, 1) := by decide +kernel
theorem dL_law_1184 : decode cL_law 1184 = .ok (.aload_n 0, 1) := by decide +kernel
theorem dL_law_1185 : decode cL_law 1185 = .ok (.iload 4, 2) := by decide +kernel
theorem dL_law_1187 : decode cL_law 1187 = .ok (.iconst 1, 1) := by decide +kernel
theorem dL_law_1188 : decode cL_law 1188 = .ok (.iadd, 1) := by decide +kernel
theorem dL_law_1189 : decode cL_law 1189 = .ok (.iaload, 1) := by decide +kernel
theorem dL_law_1190 : decode cL_law 1190 = .ok (.invokevirtual 186, 3) := by decide +kernel
theorem dL_law_1193 : decode cL_law 1193 = .ok (.istore 6, 2) := by decide +kernel
theorem dL_law_1195 : decode cL_law 1195 = .ok (.aload_n 2, 1) := by decide +kernel
theorem dL_law_1196 : decode cL_law 1196 = .ok (.invokevirtual 110, 3) := by decide +kernel
theorem dL_law_1199 : decode cL_law 1199 = .ok (.iload 5, 2) := by decide +kernel
theorem dL_law_1201 : decode cL_law 1201 = .ok (.if_icmp .eq 5, 3) := by decide +kernel
theorem dL_law_1204 : decode cL_law 1204 = .ok (.iconst 0, 1) := by decide +kernel
theorem dL_law_1205 : decode cL_law 1205 = .ok (.ireturn, 1) := by decide +kernel
theorem dL_law_1206 : decode cL_law 1206 = .ok (.iload 5, 2) := by decide +kernel
theorem dL_law_1208 : decode cL_law 1208 = .ok (.ifCond .ne 15, 3) := by decide +kernel
theorem dL_law_1211 : decode cL_law 1211 = .ok (.aload_n 3, 1) := by decide +kernel
theorem dL_law_1212 : decode cL_law 1212 = .ok (.iconst 0, 1) := by decide +kernel
theorem dL_law_1213 : decode cL_law 1213 = .ok (.laload, 1) := by decide +kernel
theorem dL_law_1214 : decode cL_law 1214 = .ok (.iload 6, 2) := by decide +kernel
theorem dL_law_1216 : decode cL_law 1216 = .ok (.i2l, 1) := by decide +kernel
theorem dL_law_1217 : decode cL_law 1217 = .ok (.lcmp, 1) := by decide +kernel
theorem dL_law_1218 : decode cL_law 1218 = .ok (.ifCond .eq 5, 3) := by decide +kernel
theorem dL_law_1221 : decode cL_law 1221 = .ok (.iconst 0, 1) := by decide +kernel
theorem dL_law_1222 : decode cL_law 1222 = .ok (.ireturn, 1) := by decide +kernel
theorem dL_law_1223 : decode cL_law 1223 = .ok (.goto 743, 3) := by decide +kernel
theorem dL_law_1226 : decode cL_law 1226 = .ok (.aload_n 1, 1) := by decide +kernel
theorem dL_law_1227 : decode cL_law 1227 = .ok (.aload_n 0, 1) := by decide +kernel
theorem dL_law_1228 : decode cL_law 1228 = .ok (.iload 4, 2) := by decide +kernel
theorem dL_law_1230 : decode cL_law 1230 = .ok (.iconst 1, 1) := by decide +kernel
theorem dL_law_1231 : decode cL_law 1231 = .ok (.iadd, 1) := by decide +kernel
theorem dL_law_1232 : decode cL_law 1232 = .ok (.iaload, 1) := by decide +kernel
theorem dL_law_1233 : decode cL_law 1233 = .ok (.aload_n 3, 1) := by decide +kernel
theorem dL_law_1234 : decode cL_law 1234 = .ok (.invokestatic 187, 3) := by decide +kernel
theorem dL_law_1237 : decode cL_law 1237 = .ok (.istore 5, 2) := by decide +kernel
theorem dL_law_1239 : decode cL_law 1239 = .ok (.aload_n 2, 1) := by decide +kernel
theorem dL_law_1240 : decode cL_law 1240 = .ok (.aload_n 0, 1) := by decide +kernel
theorem dL_law_1241 : decode cL_law 1241 = .ok (.iload 4, 2) := by decide +kernel
theorem dL_law_1243 : decode cL_law 1243 = .ok (.iconst 1, 1) := by decide +kernel
theorem dL_law_1244 : decode cL_law 1244 = .ok (.iadd, 1) := by decide +kernel
theorem dL_law_1245 : decode cL_law 1245 = .ok (.iaload, 1) := by decide +kernel
theorem dL_law_1246 : decode cL_law 1246 = .ok (.invokevirtual 189, 3) := by decide +kernel
theorem dL_law_1249 : decode cL_law 1249 = .ok (.istore 6, 2) := by decide +kernel
theorem dL_law_1251 : decode cL_law 1251 = .ok (.aload_n 2, 1) := by decide +kernel
theorem dL_law_1252 : decode cL_law 1252 = .ok (.invokevirtual 110, 3) := by decide +kernel
theorem dL_law_1255 : decode cL_law 1255 = .ok (.iload 5, 2) := by decide +kernel
theorem dL_law_1257 : decode cL_law 1257 = .ok (.if_icmp .eq 5, 3) := by decide +kernel
theorem dL_law_1260 : decode cL_law 1260 = .ok (.iconst 0, 1) := by decide +kernel
theorem dL_law_1261 : decode cL_law 1261 = .ok (.ireturn, 1) := by decide +kernel
theorem dL_law_1262 : decode cL_law 1262 = .ok (.iload 5, 2) := by decide +kernel
theorem dL_law_1264 : decode cL_law 1264 = .ok (.ifCond .ne 22, 3) := by decide +kernel
theorem dL_law_1267 : decode cL_law 1267 = .ok (.aload_n 3, 1) := by decide +kernel
theorem dL_law_1268 : decode cL_law 1268 = .ok (.iconst 0, 1) := by decide +kernel
theorem dL_law_1269 : decode cL_law 1269 = .ok (.laload, 1) := by decide +kernel
theorem dL_law_1270 : decode cL_law 1270 = .ok (.iload 6, 2) := by decide +kernel
theorem dL_law_1272 : decode cL_law 1272 = .ok (.ifCond .eq 7, 3) := by decide +kernel
theorem dL_law_1275 : decode cL_law 1275 = .ok (.lconst 1, 1) := by decide +kernel
theorem dL_law_1276 : decode cL_law 1276 = .ok (.goto 4, 3) := by decide +kernel
theorem dL_law_1279 : decode cL_law 1279 = .ok (.lconst 0, 1) := by decide +kernel
theorem dL_law_1280 : decode cL_law 1280 = .ok (.lcmp, 1) := by decide +kernel
theorem dL_law_1281 : decode cL_law 1281 = .ok (.ifCond .eq 5, 3) := by decide +kernel
theorem dL_law_1284 : decode cL_law 1284 = .ok (.iconst 0, 1) := by decide +kernel
theorem dL_law_1285 : decode cL_law 1285 = .ok (.ireturn, 1) := by decide +kernel
theorem dL_law_1286 : decode cL_law 1286 = .ok (.goto 680, 3) := by decide +kernel
theorem dL_law_1289 : decode cL_law 1289 = .ok (.aload_n 1, 1) := by decide +kernel
theorem dL_law_1290 : decode cL_law 1290 = .ok (.aload_n 0, 1) := by decide +kernel
theorem dL_law_1291 : decode cL_law 1291 = .ok (.iload 4, 2) := by decide +kernel
theorem dL_law_1293 : decode cL_law 1293 = .ok (.iconst 1, 1) := by decide +kernel
theorem dL_law_1294 : decode cL_law 1294 = .ok (.iadd, 1) := by decide +kernel
theorem dL_law_1295 : decode cL_law 1295 = .ok (.iaload, 1) := by decide +kernel
theorem dL_law_1296 : decode cL_law 1296 = .ok (.aload_n 0, 1) := by decide +kernel
theorem dL_law_1297 : decode cL_law 1297 = .ok (.iload 4, 2) := by decide +kernel
theorem dL_law_1299 : decode cL_law 1299 = .ok (.iconst 2, 1) := by decide +kernel
theorem dL_law_1300 : decode cL_law 1300 = .ok (.iadd, 1) := by decide +kernel
theorem dL_law_1301 : decode cL_law 1301 = .ok (.iaload, 1) := by decide +kernel
theorem dL_law_1302 : decode cL_law 1302 = .ok (.aload_n 3, 1) := by decide +kernel
theorem dL_law_1303 : decode cL_law 1303 = .ok (.invokestatic 190, 3) := by decide +kernel
theorem dL_law_1306 : decode cL_law 1306 = .ok (.istore 5, 2) := by decide +kernel
theorem dL_law_1308 : decode cL_law 1308 = .ok (.aload_n 2, 1) := by decide +kernel
theorem dL_law_1309 : decode cL_law 1309 = .ok (.aload_n 0, 1) := by decide +kernel
theorem dL_law_1310 : decode cL_law 1310 = .ok (.iload 4, 2) := by decide +kernel
theorem dL_law_1312 : decode cL_law 1312 = .ok (.iconst 1, 1) := by decide +kernel
theorem dL_law_1313 : decode cL_law 1313 = .ok (.iadd, 1) := by decide +kernel
theorem dL_law_1314 : decode cL_law 1314 = .ok (.iaload, 1) := by decide +kernel
theorem dL_law_1315 : decode cL_law 1315 = .ok (.aload_n 0, 1) := by decide +kernel
theorem dL_law_1316 : decode cL_law 1316 = .ok (.iload 4, 2) := by decide +kernel
theorem dL_law_1318 : decode cL_law 1318 = .ok (.iconst 2, 1) := by decide +kernel
theorem dL_law_1319 : decode cL_law 1319 = .ok (.iadd, 1) := by decide +kernel
theorem dL_law_1320 : decode cL_law 1320 = .ok (.iaload, 1) := by decide +kernel
theorem dL_law_1321 : decode cL_law 1321 = .ok (.invokevirtual 192, 3) := by decide +kernel
theorem dL_law_1324 : decode cL_law 1324 = .ok (.istore 6, 2) := by decide +kernel
theorem dL_law_1326 : decode cL_law 1326 = .ok (.aload_n 2, 1) := by decide +kernel
theorem dL_law_1327 : decode cL_law 1327 = .ok (.invokevirtual 110, 3) := by decide +kernel
theorem dL_law_1330 : decode cL_law 1330 = .ok (.iload 5, 2) := by decide +kernel
theorem dL_law_1332 : decode cL_law 1332 = .ok (.if_icmp .eq 5, 3) := by decide +kernel
theorem dL_law_1335 : decode cL_law 1335 = .ok (.iconst 0, 1) := by decide +kernel
theorem dL_law_1336 : decode cL_law 1336 = .ok (.ireturn, 1) := by decide +kernel
theorem dL_law_1337 : decode cL_law 1337 = .ok (.iload 5, 2) := by decide +kernel
theorem dL_law_1339 : decode cL_law 1339 = .ok (.ifCond .ne 22, 3) := by decide +kernel
theorem dL_law_1342 : decode cL_law 1342 = .ok (.aload_n 3, 1) := by decide +kernel
theorem dL_law_1343 : decode cL_law 1343 = .ok (.iconst 0, 1) := by decide +kernel
theorem dL_law_1344 : decode cL_law 1344 = .ok (.laload, 1) := by decide +kernel
theorem dL_law_1345 : decode cL_law 1345 = .ok (.iload 6, 2) := by decide +kernel
theorem dL_law_1347 : decode cL_law 1347 = .ok (.ifCond .eq 7, 3) := by decide +kernel
theorem dL_law_1350 : decode cL_law 1350 = .ok (.lconst 1, 1) := by decide +kernel
theorem dL_law_1351 : decode cL_law 1351 = .ok (.goto 4, 3) := by decide +kernel
theorem dL_law_1354 : decode cL_law 1354 = .ok (.lconst 0, 1) := by decide +kernel
theorem dL_law_1355 : decode cL_law 1355 = .ok (.lcmp, 1) := by decide +kernel
theorem dL_law_1356 : decode cL_law 1356 = .ok (.ifCond .eq 5, 3) := by decide +kernel
theorem dL_law_1359 : decode cL_law 1359 = .ok (.iconst 0, 1) := by decide +kernel
theorem dL_law_1360 : decode cL_law 1360 = .ok (.ireturn, 1) := by decide +kernel
theorem dL_law_1361 : decode cL_law 1361 = .ok (.goto 605, 3) := by decide +kernel
theorem dL_law_1364 : decode cL_law 1364 = .ok (.aload_n 1, 1) := by decide +kernel
theorem dL_law_1365 : decode cL_law 1365 = .ok (.aload_n 0, 1) := by decide +kernel
theorem dL_law_1366 : decode cL_law 1366 = .ok (.iload 4, 2) := by decide +kernel
theorem dL_law_1368 : decode cL_law 1368 = .ok (.iconst 1, 1) := by decide +kernel
theorem dL_law_1369 : decode cL_law 1369 = .ok (.iadd, 1) := by decide +kernel
theorem dL_law_1370 : decode cL_law 1370 = .ok (.iaload, 1) := by decide +kernel
theorem dL_law_1371 : decode cL_law 1371 = .ok (.aload_n 3, 1) := by decide +kernel
theorem dL_law_1372 : decode cL_law 1372 = .ok (.invokestatic 193, 3) := by decide +kernel
theorem dL_law_1375 : decode cL_law 1375 = .ok (.istore 5, 2) := by decide +kernel
theorem dL_law_1377 : decode cL_law 1377 = .ok (.aload_n 2, 1) := by decide +kernel
theorem dL_law_1378 : decode cL_law 1378 = .ok (.aload_n 0, 1) := by decide +kernel
theorem dL_law_1379 : decode cL_law 1379 = .ok (.iload 4, 2) := by decide +kernel
theorem dL_law_1381 : decode cL_law 1381 = .ok (.iconst 1, 1) := by decide +kernel
theorem dL_law_1382 : decode cL_law 1382 = .ok (.iadd, 1) := by decide +kernel
theorem dL_law_1383 : decode cL_law 1383 = .ok (.iaload, 1) := by decide +kernel
theorem dL_law_1384 : decode cL_law 1384 = .ok (.invokevirtual 195, 3) := by decide +kernel
theorem dL_law_1387 : decode cL_law 1387 = .ok (.istore 6, 2) := by decide +kernel
theorem dL_law_1389 : decode cL_law 1389 = .ok (.aload_n 2, 1) := by decide +kernel
theorem dL_law_1390 : decode cL_law 1390 = .ok (.invokevirtual 110, 3) := by decide +kernel
theorem dL_law_1393 : decode cL_law 1393 = .ok (.iload 5, 2) := by decide +kernel
theorem dL_law_1395 : decode cL_law 1395 = .ok (.if_icmp .eq 5, 3) := by decide +kernel
theorem dL_law_1398 : decode cL_law 1398 = .ok (.iconst 0, 1) := by decide +kernel
theorem dL_law_1399 : decode cL_law 1399 = .ok (.ireturn, 1) := by decide +kernel
theorem dL_law_1400 : decode cL_law 1400 = .ok (.iload 5, 2) := by decide +kernel
theorem dL_law_1402 : decode cL_law 1402 = .ok (.ifCond .ne 15, 3) := by decide +kernel
theorem dL_law_1405 : decode cL_law 1405 = .ok (.aload_n 3, 1) := by decide +kernel
theorem dL_law_1406 : decode cL_law 1406 = .ok (.iconst 0, 1) := by decide +kernel
theorem dL_law_1407 : decode cL_law 1407 = .ok (.laload, 1) := by decide +kernel
theorem dL_law_1408 : decode cL_law 1408 = .ok (.iload 6, 2) := by decide +kernel
theorem dL_law_1410 : decode cL_law 1410 = .ok (.i2l, 1) := by decide +kernel
theorem dL_law_1411 : decode cL_law 1411 = .ok (.lcmp, 1) := by decide +kernel
theorem dL_law_1412 : decode cL_law 1412 = .ok (.ifCond .eq 5, 3) := by decide +kernel
theorem dL_law_1415 : decode cL_law 1415 = .ok (.iconst 0, 1) := by decide +kernel
theorem dL_law_1416 : decode cL_law 1416 = .ok (.ireturn, 1) := by decide +kernel
theorem dL_law_1417 : decode cL_law 1417 = .ok (.goto 549, 3) := by decide +kernel
theorem dL_law_1420 : decode cL_law 1420 = .ok (.aload_n 1, 1) := by decide +kernel
theorem dL_law_1421 : decode cL_law 1421 = .ok (.invokevirtual 196, 3) := by decide +kernel
theorem dL_law_1424 : decode cL_law 1424 = .ok (.aload_n 2, 1) := by decide +kernel
theorem dL_law_1425 : decode cL_law 1425 = .ok (.invokevirtual 199, 3) := by decide +kernel
theorem dL_law_1428 : decode cL_law 1428 = .ok (.if_icmp .eq 538, 3) := by decide +kernel
theorem dL_law_1431 : decode cL_law 1431 = .ok (.iconst 0, 1) := by decide +kernel
theorem dL_law_1432 : decode cL_law 1432 = .ok (.ireturn, 1) := by decide +kernel
theorem dL_law_1433 : decode cL_law 1433 = .ok (.aload_n 1, 1) := by decide +kernel
theorem dL_law_1434 : decode cL_law 1434 = .ok (.aload_n 0, 1) := by decide +kernel
theorem dL_law_1435 : decode cL_law 1435 = .ok (.iload 4, 2) := by decide +kernel
theorem dL_law_1437 : decode cL_law 1437 = .ok (.iconst 1, 1) := by decide +kernel
theorem dL_law_1438 : decode cL_law 1438 = .ok (.iadd, 1) := by decide +kernel
theorem dL_law_1439 : decode cL_law 1439 = .ok (.iaload, 1) := by decide +kernel
theorem dL_law_1440 : decode cL_law 1440 = .ok (.aload_n 3, 1) := by decide +kernel
theorem dL_law_1441 : decode cL_law 1441 = .ok (.invokestatic 200, 3) := by decide +kernel
theorem dL_law_1444 : decode cL_law 1444 = .ok (.istore 5, 2) := by decide +kernel
theorem dL_law_1446 : decode cL_law 1446 = .ok (.aload_n 2, 1) := by decide +kernel
theorem dL_law_1447 : decode cL_law 1447 = .ok (.aload_n 0, 1) := by decide +kernel
theorem dL_law_1448 : decode cL_law 1448 = .ok (.iload 4, 2) := by decide +kernel
theorem dL_law_1450 : decode cL_law 1450 = .ok (.iconst 1, 1) := by decide +kernel
theorem dL_law_1451 : decode cL_law 1451 = .ok (.iadd, 1) := by decide +kernel
theorem dL_law_1452 : decode cL_law 1452 = .ok (.iaload, 1) := by decide +kernel
theorem dL_law_1453 : decode cL_law 1453 = .ok (.invokevirtual 202, 3) := by decide +kernel
theorem dL_law_1456 : decode cL_law 1456 = .ok (.istore 6, 2) := by decide +kernel
theorem dL_law_1458 : decode cL_law 1458 = .ok (.aload_n 2, 1) := by decide +kernel
theorem dL_law_1459 : decode cL_law 1459 = .ok (.invokevirtual 110, 3) := by decide +kernel
theorem dL_law_1462 : decode cL_law 1462 = .ok (.iload 5, 2) := by decide +kernel
theorem dL_law_1464 : decode cL_law 1464 = .ok (.if_icmp .eq 5, 3) := by decide +kernel
theorem dL_law_1467 : decode cL_law 1467 = .ok (.iconst 0, 1) := by decide +kernel
theorem dL_law_1468 : decode cL_law 1468 = .ok (.ireturn, 1) := by decide +kernel
theorem dL_law_1469 : decode cL_law 1469 = .ok (.iload 5, 2) := by decide +kernel
theorem dL_law_1471 : decode cL_law 1471 = .ok (.ifCond .ne 15, 3) := by decide +kernel
theorem dL_law_1474 : decode cL_law 1474 = .ok (.aload_n 3, 1) := by decide +kernel
theorem dL_law_1475 : decode cL_law 1475 = .ok (.iconst 0, 1) := by decide +kernel
theorem dL_law_1476 : decode cL_law 1476 = .ok (.laload, 1) := by decide +kernel
theorem dL_law_1477 : decode cL_law 1477 = .ok (.iload 6, 2) := by decide +kernel
theorem dL_law_1479 : decode cL_law 1479 = .ok (.i2l, 1) := by decide +kernel
theorem dL_law_1480 : decode cL_law 1480 = .ok (.lcmp, 1) := by decide +kernel
theorem dL_law_1481 : decode cL_law 1481 = .ok (.ifCond .eq 5, 3) := by decide +kernel
theorem dL_law_1484 : decode cL_law 1484 = .ok (.iconst 0, 1) := by decide +kernel
theorem dL_law_1485 : decode cL_law 1485 = .ok (.ireturn, 1) := by decide +kernel
theorem dL_law_1486 : decode cL_law 1486 = .ok (.goto 480, 3) := by decide +kernel
theorem dL_law_1489 : decode cL_law 1489 = .ok (.aload_n 1, 1) := by decide +kernel
theorem dL_law_1490 : decode cL_law 1490 = .ok (.invokevirtual 203, 3) := by decide +kernel
theorem dL_law_1493 : decode cL_law 1493 = .ok (.aload_n 2, 1) := by decide +kernel
theorem dL_law_1494 : decode cL_law 1494 = .ok (.invokevirtual 206, 3) := by decide +kernel
theorem dL_law_1497 : decode cL_law 1497 = .ok (.if_icmp .eq 469, 3) := by decide +kernel
theorem dL_law_1500 : decode cL_law 1500 = .ok (.iconst 0, 1) := by decide +kernel
theorem dL_law_1501 : decode cL_law 1501 = .ok (.ireturn, 1) := by decide +kernel
theorem dL_law_1502 : decode cL_law 1502 = .ok (.aload_n 1, 1) := by decide +kernel
theorem dL_law_1503 : decode cL_law 1503 = .ok (.aload_n 0, 1) := by decide +kernel
theorem dL_law_1504 : decode cL_law 1504 = .ok (.iload 4, 2) := by decide +kernel
theorem dL_law_1506 : decode cL_law 1506 = .ok (.iconst 1, 1) := by decide +kernel
theorem dL_law_1507 : decode cL_law 1507 = .ok (.iadd, 1) := by decide +kernel
theorem dL_law_1508 : decode cL_law 1508 = .ok (.iaload, 1) := by decide +kernel
theorem dL_law_1509 : decode cL_law 1509 = .ok (.aload_n 3, 1) := by decide +kernel
theorem dL_law_1510 : decode cL_law 1510 = .ok (.invokestatic 207, 3) := by decide +kernel
theorem dL_law_1513 : decode cL_law 1513 = .ok (.istore 5, 2) := by decide +kernel
theorem dL_law_1515 : decode cL_law 1515 = .ok (.aload_n 2, 1) := by decide +kernel
theorem dL_law_1516 : decode cL_law 1516 = .ok (.aload_n 0, 1) := by decide +kernel
theorem dL_law_1517 : decode cL_law 1517 = .ok (.iload 4, 2) := by decide +kernel
theorem dL_law_1519 : decode cL_law 1519 = .ok (.iconst 1, 1) := by decide +kernel
theorem dL_law_1520 : decode cL_law 1520 = .ok (.iadd, 1) := by decide +kernel
theorem dL_law_1521 : decode cL_law 1521 = .ok (.iaload, 1) := by decide +kernel
theorem dL_law_1522 : decode cL_law 1522 = .ok (.invokevirtual 209, 3) := by decide +kernel
theorem dL_law_1525 : decode cL_law 1525 = .ok (.istore 6, 2) := by decide +kernel
theorem dL_law_1527 : decode cL_law 1527 = .ok (.aload_n 2, 1) := by decide +kernel
theorem dL_law_1528 : decode cL_law 1528 = .ok (.invokevirtual 110, 3) := by decide +kernel
theorem dL_law_1531 : decode cL_law 1531 = .ok (.iload 5, 2) := by decide +kernel
theorem dL_law_1533 : decode cL_law 1533 = .ok (.if_icmp .eq 5, 3) := by decide +kernel
theorem dL_law_1536 : decode cL_law 1536 = .ok (.iconst 0, 1) := by decide +kernel
theorem dL_law_1537 : decode cL_law 1537 = .ok (.ireturn, 1) := by decide +kernel
theorem dL_law_1538 : decode cL_law 1538 = .ok (.iload 5, 2) := by decide +kernel
theorem dL_law_1540 : decode cL_law 1540 = .ok (.ifCond .ne 15, 3) := by decide +kernel
theorem dL_law_1543 : decode cL_law 1543 = .ok (.aload_n 3, 1) := by decide +kernel
theorem dL_law_1544 : decode cL_law 1544 = .ok (.iconst 0, 1) := by decide +kernel
theorem dL_law_1545 : decode cL_law 1545 = .ok (.laload, 1) := by decide +kernel
theorem dL_law_1546 : decode cL_law 1546 = .ok (.iload 6, 2) := by decide +kernel
theorem dL_law_1548 : decode cL_law 1548 = .ok (.i2l, 1) := by decide +kernel
theorem dL_law_1549 : decode cL_law 1549 = .ok (.lcmp, 1) := by decide +kernel
theorem dL_law_1550 : decode cL_law 1550 = .ok (.ifCond .eq 5, 3) := by decide +kernel
theorem dL_law_1553 : decode cL_law 1553 = .ok (.iconst 0, 1) := by decide +kernel
theorem dL_law_1554 : decode cL_law 1554 = .ok (.ireturn, 1) := by decide +kernel
theorem dL_law_1555 : decode cL_law 1555 = .ok (.goto 411, 3) := by decide +kernel
theorem dL_law_1558 : decode cL_law 1558 = .ok (.aload_n 1, 1) := by decide +kernel
theorem dL_law_1559 : decode cL_law 1559 = .ok (.aload_n 0, 1) := by decide +kernel
theorem dL_law_1560 : decode cL_law 1560 = .ok (.iload 4, 2) := by decide +kernel
theorem dL_law_1562 : decode cL_law 1562 = .ok (.iconst 1, 1) := by decide +kernel
theorem dL_law_1563 : decode cL_law 1563 = .ok (.iadd, 1) := by decide +kernel
theorem dL_law_1564 : decode cL_law 1564 = .ok (.iaload, 1) := by decide +kernel
theorem dL_law_1565 : decode cL_law 1565 = .ok (.aload_n 3, 1) := by decide +kernel
theorem dL_law_1566 : decode cL_law 1566 = .ok (.invokestatic 210, 3) := by decide +kernel
theorem dL_law_1569 : decode cL_law 1569 = .ok (.istore 5, 2) := by decide +kernel
theorem dL_law_1571 : decode cL_law 1571 = .ok (.aload_n 2, 1) := by decide +kernel
theorem dL_law_1572 : decode cL_law 1572 = .ok (.aload_n 0, 1) := by decide +kernel
theorem dL_law_1573 : decode cL_law 1573 = .ok (.iload 4, 2) := by decide +kernel
theorem dL_law_1575 : decode cL_law 1575 = .ok (.iconst 1, 1) := by decide +kernel
theorem dL_law_1576 : decode cL_law 1576 = .ok (.iadd, 1) := by decide +kernel
theorem dL_law_1577 : decode cL_law 1577 = .ok (.iaload, 1) := by decide +kernel
theorem dL_law_1578 : decode cL_law 1578 = .ok (.invokevirtual 212, 3) := by decide +kernel
theorem dL_law_1581 : decode cL_law 1581 = .ok (.istore 6, 2) := by decide +kernel
theorem dL_law_1583 : decode cL_law 1583 = .ok (.aload_n 2, 1) := by decide +kernel
theorem dL_law_1584 : decode cL_law 1584 = .ok (.invokevirtual 110, 3) := by decide +kernel
theorem dL_law_1587 : decode cL_law 1587 = .ok (.iload 5, 2) := by decide +kernel
theorem dL_law_1589 : decode cL_law 1589 = .ok (.if_icmp .eq 5, 3) := by decide +kernel
theorem dL_law_1592 : decode cL_law 1592 = .ok (.iconst 0, 1) := by decide +kernel
theorem dL_law_1593 : decode cL_law 1593 = .ok (.ireturn, 1) := by decide +kernel
theorem dL_law_1594 : decode cL_law 1594 = .ok (.iload 5, 2) := by decide +kernel
theorem dL_law_1596 : decode cL_law 1596 = .ok (.ifCond .ne 15, 3) := by decide +kernel
theorem dL_law_1599 : decode cL_law 1599 = .ok (.aload_n 3, 1) := by decide +kernel
theorem dL_law_1600 : decode cL_law 1600 = .ok (.iconst 0, 1) := by decide +kernel
theorem dL_law_1601 : decode cL_law 1601 = .ok (.laload, 1) := by decide +kernel
theorem dL_law_1602 : decode cL_law 1602 = .ok (.iload 6, 2) := by decide +kernel
theorem dL_law_1604 : decode cL_law 1604 = .ok (.i2l, 1) := by decide +kernel
theorem dL_law_1605 : decode cL_law 1605 = .ok (.lcmp, 1) := by decide +kernel
theorem dL_law_1606 : decode cL_law 1606 = .ok (.ifCond .eq 5, 3) := by decide +kernel
theorem dL_law_1609 : decode cL_law 1609 = .ok (.iconst 0, 1) := by decide +kernel
theorem dL_law_1610 : decode cL_law 1610 = .ok (.ireturn, 1) := by decide +kernel
theorem dL_law_1611 : decode cL_law 1611 = .ok (.goto 355, 3) := by decide +kernel
theorem dL_law_1614 : decode cL_law 1614 = .ok (.aload_n 1, 1) := by decide +kernel
theorem dL_law_1615 : decode cL_law 1615 = .ok (.invokevirtual 213, 3) := by decide +kernel
theorem dL_law_1618 : decode cL_law 1618 = .ok (.aload_n 2, 1) := by decide +kernel
theorem dL_law_1619 : decode cL_law 1619 = .ok (.invokevirtual 216, 3) := by decide +kernel
theorem dL_law_1622 : decode cL_law 1622 = .ok (.if_icmp .eq 344, 3) := by decide +kernel
theorem dL_law_1625 : decode cL_law 1625 = .ok (.iconst 0, 1) := by decide +kernel
theorem dL_law_1626 : decode cL_law 1626 = .ok (.ireturn, 1) := by decide +kernel
theorem dL_law_1627 : decode cL_law 1627 = .ok (.aload_n 1, 1) := by decide +kernel
theorem dL_law_1628 : decode cL_law 1628 = .ok (.invokevirtual 217, 3) := by decide +kernel
theorem dL_law_1631 : decode cL_law 1631 = .ok (.aload_n 2, 1) := by decide +kernel
theorem dL_law_1632 : decode cL_law 1632 = .ok (.invokevirtual 220, 3) := by decide +kernel
theorem dL_law_1635 : decode cL_law 1635 = .ok (.if_icmp .eq 331, 3) := by decide +kernel
theorem dL_law_1638 : decode cL_law 1638 = .ok (.iconst 0, 1) := by decide +kernel
theorem dL_law_1639 : decode cL_law 1639 = .ok (.ireturn, 1) := by decide +kernel
theorem dL_law_1640 : decode cL_law 1640 = .ok (.aload_n 1, 1) := by decide +kernel
theorem dL_law_1641 : decode cL_law 1641 = .ok (.invokevirtual 221, 3) := by decide +kernel
theorem dL_law_1644 : decode cL_law 1644 = .ok (.aload_n 2, 1) := by decide +kernel
theorem dL_law_1645 : decode cL_law 1645 = .ok (.invokevirtual 224, 3) := by decide +kernel
theorem dL_law_1648 : decode cL_law 1648 = .ok (.if_icmp .eq 318, 3) := by decide +kernel
theorem dL_law_1651 : decode cL_law 1651 = .ok (.iconst 0, 1) := by decide +kernel
theorem dL_law_1652 : decode cL_law 1652 = .ok (.ireturn, 1) := by decide +kernel
theorem dL_law_1653 : decode cL_law 1653 = .ok (.aload_n 1, 1) := by decide +kernel
theorem dL_law_1654 : decode cL_law 1654 = .ok (.aload_n 0, 1) := by decide +kernel
theorem dL_law_1655 : decode cL_law 1655 = .ok (.iload 4, 2) := by decide +kernel
theorem dL_law_1657 : decode cL_law 1657 = .ok (.iconst 1, 1) := by decide +kernel
theorem dL_law_1658 : decode cL_law 1658 = .ok (.iadd, 1) := by decide +kernel
theorem dL_law_1659 : decode cL_law 1659 = .ok (.iaload, 1) := by decide +kernel
theorem dL_law_1660 : decode cL_law 1660 = .ok (.aload_n 3, 1) := by decide +kernel
theorem dL_law_1661 : decode cL_law 1661 = .ok (.invokestatic 225, 3) := by decide +kernel
theorem dL_law_1664 : decode cL_law 1664 = .ok (.istore 5, 2) := by decide +kernel
theorem dL_law_1666 : decode cL_law 1666 = .ok (.aload_n 2, 1) := by decide +kernel
theorem dL_law_1667 : decode cL_law 1667 = .ok (.aload_n 0, 1) := by decide +kernel
theorem dL_law_1668 : decode cL_law 1668 = .ok (.iload 4, 2) := by decide +kernel
theorem dL_law_1670 : decode cL_law 1670 = .ok (.iconst 1, 1) := by decide +kernel
theorem dL_law_1671 : decode cL_law 1671 = .ok (.iadd, 1) := by decide +kernel
theorem dL_law_1672 : decode cL_law 1672 = .ok (.iaload, 1) := by decide +kernel
theorem dL_law_1673 : decode cL_law 1673 = .ok (.invokevirtual 227, 3) := by decide +kernel
theorem dL_law_1676 : decode cL_law 1676 = .ok (.istore 6, 2) := by decide +kernel
theorem dL_law_1678 : decode cL_law 1678 = .ok (.aload_n 2, 1) := by decide +kernel
theorem dL_law_1679 : decode cL_law 1679 = .ok (.invokevirtual 110, 3) := by decide +kernel
theorem dL_law_1682 : decode cL_law 1682 = .ok (.iload 5, 2) := by decide +kernel
theorem dL_law_1684 : decode cL_law 1684 = .ok (.if_icmp .eq 5, 3) := by decide +kernel
theorem dL_law_1687 : decode cL_law 1687 = .ok (.iconst 0, 1) := by decide +kernel
theorem dL_law_1688 : decode cL_law 1688 = .ok (.ireturn, 1) := by decide +kernel
theorem dL_law_1689 : decode cL_law 1689 = .ok (.iload 5, 2) := by decide +kernel
theorem dL_law_1691 : decode cL_law 1691 = .ok (.ifCond .ne 22, 3) := by decide +kernel
theorem dL_law_1694 : decode cL_law 1694 = .ok (.aload_n 3, 1) := by decide +kernel
theorem dL_law_1695 : decode cL_law 1695 = .ok (.iconst 0, 1) := by decide +kernel
theorem dL_law_1696 : decode cL_law 1696 = .ok (.laload, 1) := by decide +kernel
theorem dL_law_1697 : decode cL_law 1697 = .ok (.iload 6, 2) := by decide +kernel
theorem dL_law_1699 : decode cL_law 1699 = .ok (.ifCond .eq 7, 3) := by decide +kernel
theorem dL_law_1702 : decode cL_law 1702 = .ok (.lconst 1, 1) := by decide +kernel
theorem dL_law_1703 : decode cL_law 1703 = .ok (.goto 4, 3) := by decide +kernel
theorem dL_law_1706 : decode cL_law 1706 = .ok (.lconst 0, 1) := by decide +kernel
theorem dL_law_1707 : decode cL_law 1707 = .ok (.lcmp, 1) := by decide +kernel
theorem dL_law_1708 : decode cL_law 1708 = .ok (.ifCond .eq 5, 3) := by decide +kernel
theorem dL_law_1711 : decode cL_law 1711 = .ok (.iconst 0, 1) := by decide +kernel
theorem dL_law_1712 : decode cL_law 1712 = .ok (.ireturn, 1) := by decide +kernel
theorem dL_law_1713 : decode cL_law 1713 = .ok (.goto 253, 3) := by decide +kernel
theorem dL_law_1716 : decode cL_law 1716 = .ok (.aload_n 1, 1) := by decide +kernel
theorem dL_law_1717 : decode cL_law 1717 = .ok (.aload_n 0, 1) := by decide +kernel
theorem dL_law_1718 : decode cL_law 1718 = .ok (.iload 4, 2) := by decide +kernel
theorem dL_law_1720 : decode cL_law 1720 = .ok (.iconst 1, 1) := by decide +kernel
theorem dL_law_1721 : decode cL_law 1721 = .ok (.iadd, 1) := by decide +kernel
theorem dL_law_1722 : decode cL_law 1722 = .ok (.iaload, 1) := by decide +kernel
theorem dL_law_1723 : decode cL_law 1723 = .ok (.aload_n 3, 1) := by decide +kernel
theorem dL_law_1724 : decode cL_law 1724 = .ok (.invokestatic 228, 3) := by decide +kernel
theorem dL_law_1727 : decode cL_law 1727 = .ok (.istore 5, 2) := by decide +kernel
theorem dL_law_1729 : decode cL_law 1729 = .ok (.aload_n 2, 1) := by decide +kernel
theorem dL_law_1730 : decode cL_law 1730 = .ok (.aload_n 0, 1) := by decide +kernel
theorem dL_law_1731 : decode cL_law 1731 = .ok (.iload 4, 2) := by decide +kernel
theorem dL_law_1733 : decode cL_law 1733 = .ok (.iconst 1, 1) := by decide +kernel
theorem dL_law_1734 : decode cL_law 1734 = .ok (.iadd, 1) := by decide +kernel
theorem dL_law_1735 : decode cL_law 1735 = .ok (.iaload, 1) := by decide +kernel
theorem dL_law_1736 : decode cL_law 1736 = .ok (.invokevirtual 230, 3) := by decide +kernel
theorem dL_law_1739 : decode cL_law 1739 = .ok (.istore 6, 2) := by decide +kernel
theorem dL_law_1741 : decode cL_law 1741 = .ok (.aload_n 2, 1) := by decide +kernel
theorem dL_law_1742 : decode cL_law 1742 = .ok (.invokevirtual 110, 3) := by decide +kernel
theorem dL_law_1745 : decode cL_law 1745 = .ok (.iload 5, 2) := by decide +kernel
theorem dL_law_1747 : decode cL_law 1747 = .ok (.if_icmp .eq 5, 3) := by decide +kernel
theorem dL_law_1750 : decode cL_law 1750 = .ok (.iconst 0, 1) := by decide +kernel
theorem dL_law_1751 : decode cL_law 1751 = .ok (.ireturn, 1) := by decide +kernel
theorem dL_law_1752 : decode cL_law 1752 = .ok (.iload 5, 2) := by decide +kernel
theorem dL_law_1754 : decode cL_law 1754 = .ok (.ifCond .ne 15, 3) := by decide +kernel
theorem dL_law_1757 : decode cL_law 1757 = .ok (.aload_n 3, 1) := by decide +kernel
theorem dL_law_1758 : decode cL_law 1758 = .ok (.iconst 0, 1) := by decide +kernel
theorem dL_law_1759 : decode cL_law 1759 = .ok (.laload, 1) := by decide +kernel
theorem dL_law_1760 : decode cL_law 1760 = .ok (.iload 6, 2) := by decide +kernel
theorem dL_law_1762 : decode cL_law 1762 = .ok (.i2l, 1) := by decide +kernel
theorem dL_law_1763 : decode cL_law 1763 = .ok (.lcmp, 1) := by decide +kernel
theorem dL_law_1764 : decode cL_law 1764 = .ok (.ifCond .eq 5, 3) := by decide +kernel
theorem dL_law_1767 : decode cL_law 1767 = .ok (.iconst 0, 1) := by decide +kernel
theorem dL_law_1768 : decode cL_law 1768 = .ok (.ireturn, 1) := by decide +kernel
theorem dL_law_1769 : decode cL_law 1769 = .ok (.goto 197, 3) := by decide +kernel
theorem dL_law_1772 : decode cL_law 1772 = .ok (.aload_n 1, 1) := by decide +kernel
theorem dL_law_1773 : decode cL_law 1773 = .ok (.aload_n 3, 1) := by decide +kernel
theorem dL_law_1774 : decode cL_law 1774 = .ok (.invokestatic 231, 3) := by decide +kernel
theorem dL_law_1777 : decode cL_law 1777 = .ok (.istore 5, 2) := by decide +kernel
theorem dL_law_1779 : decode cL_law 1779 = .ok (.aload_n 2, 1) := by decide +kernel
theorem dL_law_1780 : decode cL_law 1780 = .ok (.invokevirtual 233, 3) := by decide +kernel
theorem dL_law_1783 : decode cL_law 1783 = .ok (.istore 6, 2) := by decide +kernel
theorem dL_law_1785 : decode cL_law 1785 = .ok (.aload_n 2, 1) := by decide +kernel
theorem dL_law_1786 : decode cL_law 1786 = .ok (.invokevirtual 110, 3) := by decide +kernel
theorem dL_law_1789 : decode cL_law 1789 = .ok (.iload 5, 2) := by decide +kernel
theorem dL_law_1791 : decode cL_law 1791 = .ok (.if_icmp .eq 5, 3) := by decide +kernel
theorem dL_law_1794 : decode cL_law 1794 = .ok (.iconst 0, 1) := by decide +kernel
theorem dL_law_1795 : decode cL_law 1795 = .ok (.ireturn, 1) := by decide +kernel
theorem dL_law_1796 : decode cL_law 1796 = .ok (.iload 5, 2) := by decide +kernel
theorem dL_law_1798 : decode cL_law 1798 = .ok (.ifCond .ne 15, 3) := by decide +kernel
theorem dL_law_1801 : decode cL_law 1801 = .ok (.aload_n 3, 1) := by decide +kernel
theorem dL_law_1802 : decode cL_law 1802 = .ok (.iconst 0, 1) := by decide +kernel
theorem dL_law_1803 : decode cL_law 1803 = .ok (.laload, 1) := by decide +kernel
theorem dL_law_1804 : decode cL_law 1804 = .ok (.iload 6, 2) := by decide +kernel
theorem dL_law_1806 : decode cL_law 1806 = .ok (.i2l, 1) := by decide +kernel
theorem dL_law_1807 : decode cL_law 1807 = .ok (.lcmp, 1) := by decide +kernel
theorem dL_law_1808 : decode cL_law 1808 = .ok (.ifCond .eq 5, 3) := by decide +kernel
theorem dL_law_1811 : decode cL_law 1811 = .ok (.iconst 0, 1) := by decide +kernel
theorem dL_law_1812 : decode cL_law 1812 = .ok (.ireturn, 1) := by decide +kernel
theorem dL_law_1813 : decode cL_law 1813 = .ok (.goto 153, 3) := by decide +kernel
theorem dL_law_1816 : decode cL_law 1816 = .ok (.aload_n 1, 1) := by decide +kernel
theorem dL_law_1817 : decode cL_law 1817 = .ok (.aload_n 0, 1) := by decide +kernel
theorem dL_law_1818 : decode cL_law 1818 = .ok (.iload 4, 2) := by decide +kernel
theorem dL_law_1820 : decode cL_law 1820 = .ok (.iconst 1, 1) := by decide +kernel
theorem dL_law_1821 : decode cL_law 1821 = .ok (.iadd, 1) := by decide +kernel
theorem dL_law_1822 : decode cL_law 1822 = .ok (.iaload, 1) := by decide +kernel
theorem dL_law_1823 : decode cL_law 1823 = .ok (.aload_n 0, 1) := by decide +kernel
theorem dL_law_1824 : decode cL_law 1824 = .ok (.iload 4, 2) := by decide +kernel
theorem dL_law_1826 : decode cL_law 1826 = .ok (.iconst 2, 1) := by decide +kernel
theorem dL_law_1827 : decode cL_law 1827 = .ok (.iadd, 1) := by decide +kernel
theorem dL_law_1828 : decode cL_law 1828 = .ok (.iaload, 1) := by decide +kernel
theorem dL_law_1829 : decode cL_law 1829 = .ok (.aload_n 0, 1) := by decide +kernel
theorem dL_law_1830 : decode cL_law 1830 = .ok (.iload 4, 2) := by decide +kernel
theorem dL_law_1832 : decode cL_law 1832 = .ok (.iconst 3, 1) := by decide +kernel
theorem dL_law_1833 : decode cL_law 1833 = .ok (.iadd, 1) := by decide +kernel
theorem dL_law_1834 : decode cL_law 1834 = .ok (.iaload, 1) := by decide +kernel
theorem dL_law_1835 : decode cL_law 1835 = .ok (.aload_n 3, 1) := by decide +kernel
theorem dL_law_1836 : decode cL_law 1836 = .ok (.invokestatic 234, 3) := by decide +kernel
theorem dL_law_1839 : decode cL_law 1839 = .ok (.istore 5, 2) := by decide +kernel
theorem dL_law_1841 : decode cL_law 1841 = .ok (.aload_n 2, 1) := by decide +kernel
theorem dL_law_1842 : decode cL_law 1842 = .ok (.aload_n 0, 1) := by decide +kernel
theorem dL_law_1843 : decode cL_law 1843 = .ok (.iload 4, 2) := by decide +kernel
theorem dL_law_1845 : decode cL_law 1845 = .ok (.iconst 1, 1) := by decide +kernel
theorem dL_law_1846 : decode cL_law 1846 = .ok (.iadd, 1) := by decide +kernel
theorem dL_law_1847 : decode cL_law 1847 = .ok (.iaload, 1) := by decide +kernel
theorem dL_law_1848 : decode cL_law 1848 = .ok (.aload_n 0, 1) := by decide +kernel
theorem dL_law_1849 : decode cL_law 1849 = .ok (.iload 4, 2) := by decide +kernel
theorem dL_law_1851 : decode cL_law 1851 = .ok (.iconst 2, 1) := by decide +kernel
theorem dL_law_1852 : decode cL_law 1852 = .ok (.iadd, 1) := by decide +kernel
theorem dL_law_1853 : decode cL_law 1853 = .ok (.iaload, 1) := by decide +kernel
theorem dL_law_1854 : decode cL_law 1854 = .ok (.aload_n 0, 1) := by decide +kernel
theorem dL_law_1855 : decode cL_law 1855 = .ok (.iload 4, 2) := by decide +kernel
theorem dL_law_1857 : decode cL_law 1857 = .ok (.iconst 3, 1) := by decide +kernel
theorem dL_law_1858 : decode cL_law 1858 = .ok (.iadd, 1) := by decide +kernel
theorem dL_law_1859 : decode cL_law 1859 = .ok (.iaload, 1) := by decide +kernel
theorem dL_law_1860 : decode cL_law 1860 = .ok (.invokevirtual 237, 3) := by decide +kernel
theorem dL_law_1863 : decode cL_law 1863 = .ok (.istore 6, 2) := by decide +kernel
theorem dL_law_1865 : decode cL_law 1865 = .ok (.aload_n 2, 1) := by decide +kernel
theorem dL_law_1866 : decode cL_law 1866 = .ok (.invokevirtual 110, 3) := by decide +kernel
theorem dL_law_1869 : decode cL_law 1869 = .ok (.iload 5, 2) := by decide +kernel
theorem dL_law_1871 : decode cL_law 1871 = .ok (.if_icmp .eq 5, 3) := by decide +kernel
theorem dL_law_1874 : decode cL_law 1874 = .ok (.iconst 0, 1) := by decide +kernel
theorem dL_law_1875 : decode cL_law 1875 = .ok (.ireturn, 1) := by decide +kernel
theorem dL_law_1876 : decode cL_law 1876 = .ok (.iload 5, 2) := by decide +kernel
theorem dL_law_1878 : decode cL_law 1878 = .ok (.ifCond .ne 15, 3) := by decide +kernel
theorem dL_law_1881 : decode cL_law 1881 = .ok (.aload_n 3, 1) := by decide +kernel
theorem dL_law_1882 : decode cL_law 1882 = .ok (.iconst 0, 1) := by decide +kernel
theorem dL_law_1883 : decode cL_law 1883 = .ok (.laload, 1) := by decide +kernel
theorem dL_law_1884 : decode cL_law 1884 = .ok (.iload 6, 2) := by decide +kernel
theorem dL_law_1886 : decode cL_law 1886 = .ok (.i2l, 1) := by decide +kernel
theorem dL_law_1887 : decode cL_law 1887 = .ok (.lcmp, 1) := by decide +kernel
theorem dL_law_1888 : decode cL_law 1888 = .ok (.ifCond .eq 5, 3) := by decide +kernel
theorem dL_law_1891 : decode cL_law 1891 = .ok (.iconst 0, 1) := by decide +kernel
theorem dL_law_1892 : decode cL_law 1892 = .ok (.ireturn, 1) := by decide +kernel
theorem dL_law_1893 : decode cL_law 1893 = .ok (.goto 73, 3) := by decide +kernel
theorem dL_law_1896 : decode cL_law 1896 = .ok (.aload_n 1, 1) := by decide +kernel
theorem dL_law_1897 : decode cL_law 1897 = .ok (.aload_n 0, 1) := by decide +kernel
theorem dL_law_1898 : decode cL_law 1898 = .ok (.iload 4, 2) := by decide +kernel
theorem dL_law_1900 : decode cL_law 1900 = .ok (.iconst 1, 1) := by decide +kernel
theorem dL_law_1901 : decode cL_law 1901 = .ok (.iadd, 1) := by decide +kernel
theorem dL_law_1902 : decode cL_law 1902 = .ok (.iaload, 1) := by decide +kernel
theorem dL_law_1903 : decode cL_law 1903 = .ok (.aload_n 3, 1) := by decide +kernel
theorem dL_law_1904 : decode cL_law 1904 = .ok (.invokestatic 238, 3) := by decide +kernel
theorem dL_law_1907 : decode cL_law 1907 = .ok (.istore 5, 2) := by decide +kernel
theorem dL_law_1909 : decode cL_law 1909 = .ok (.aload_n 2, 1) := by decide +kernel
theorem dL_law_1910 : decode cL_law 1910 = .ok (.aload_n 0, 1) := by decide +kernel
theorem dL_law_1911 : decode cL_law 1911 = .ok (.iload 4, 2) := by decide +kernel
theorem dL_law_1913 : decode cL_law 1913 = .ok (.iconst 1, 1) := by decide +kernel
theorem dL_law_1914 : decode cL_law 1914 = .ok (.iadd, 1) := by decide +kernel
theorem dL_law_1915 : decode cL_law 1915 = .ok (.iaload, 1) := by decide +kernel
theorem dL_law_1916 : decode cL_law 1916 = .ok (.invokevirtual 240, 3) := by decide +kernel
theorem dL_law_1919 : decode cL_law 1919 = .ok (.istore 6, 2) := by decide +kernel
theorem dL_law_1921 : decode cL_law 1921 = .ok (.aload_n 2, 1) := by decide +kernel
theorem dL_law_1922 : decode cL_law 1922 = .ok (.invokevirtual 110, 3) := by decide +kernel
theorem dL_law_1925 : decode cL_law 1925 = .ok (.iload 5, 2) := by decide +kernel
theorem dL_law_1927 : decode cL_law 1927 = .ok (.if_icmp .eq 5, 3) := by decide +kernel
theorem dL_law_1930 : decode cL_law 1930 = .ok (.iconst 0, 1) := by decide +kernel
theorem dL_law_1931 : decode cL_law 1931 = .ok (.ireturn, 1) := by decide +kernel
theorem dL_law_1932 : decode cL_law 1932 = .ok (.iload 5, 2) := by decide +kernel
theorem dL_law_1934 : decode cL_law 1934 = .ok (.ifCond .ne 15, 3) := by decide +kernel
theorem dL_law_1937 : decode cL_law 1937 = .ok (.aload_n 3, 1) := by decide +kernel
theorem dL_law_1938 : decode cL_law 1938 = .ok (.iconst 0, 1) := by decide +kernel
theorem dL_law_1939 : decode cL_law 1939 = .ok (.laload, 1) := by decide +kernel
theorem dL_law_1940 : decode cL_law 1940 = .ok (.iload 6, 2) := by decide +kernel
theorem dL_law_1942 : decode cL_law 1942 = .ok (.i2l, 1) := by decide +kernel
theorem dL_law_1943 : decode cL_law 1943 = .ok (.lcmp, 1) := by decide +kernel
theorem dL_law_1944 : decode cL_law 1944 = .ok (.ifCond .eq 5, 3) := by decide +kernel
theorem dL_law_1947 : decode cL_law 1947 = .ok (.iconst 0, 1) := by decide +kernel
theorem dL_law_1948 : decode cL_law 1948 = .ok (.ireturn, 1) := by decide +kernel
theorem dL_law_1949 : decode cL_law 1949 = .ok (.goto 17, 3) := by decide +kernel
theorem dL_law_1952 : decode cL_law 1952 = .ok (.aload_n 1, 1) := by decide +kernel
theorem dL_law_1953 : decode cL_law 1953 = .ok (.invokevirtual 241, 3) := by decide +kernel
theorem dL_law_1956 : decode cL_law 1956 = .ok (.aload_n 2, 1) := by decide +kernel
theorem dL_law_1957 : decode cL_law 1957 = .ok (.invokevirtual 245, 3) := by decide +kernel
theorem dL_law_1960 : decode cL_law 1960 = .ok (.lcmp, 1) := by decide +kernel
theorem dL_law_1961 : decode cL_law 1961 = .ok (.ifCond .eq 5, 3) := by decide +kernel
theorem dL_law_1964 : decode cL_law 1964 = .ok (.iconst 0, 1) := by decide +kernel
theorem dL_law_1965 : decode cL_law 1965 = .ok (.ireturn, 1) := by decide +kernel
theorem dL_law_1966 : decode cL_law 1966 = .ok (.iinc 4 4, 3) := by decide +kernel
theorem dL_law_1969 : decode cL_law 1969 = .ok (.goto (-1946), 3) := by decide +kernel
theorem dL_law_1972 : decode cL_law 1972 = .ok (.iconst 1, 1) := by decide +kernel
theorem dL_law_1973 : decode cL_law 1973 = .ok (.ireturn, 1) := by decide +kernel
