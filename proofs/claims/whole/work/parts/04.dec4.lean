theorem dX7_search_307 : decode cX7_search 307 = .ok (.laload, 1) := by decide +kernel
theorem dX7_search_308 : decode cX7_search 308 = .ok (.aload_n 0, 1) := by decide +kernel
theorem dX7_search_309 : decode cX7_search 309 = .ok (.getfield 42, 3) := by decide +kernel
theorem dX7_search_312 : decode cX7_search 312 = .ok (.iload 5, 2) := by decide +kernel
theorem dX7_search_314 : decode cX7_search 314 = .ok (.iaload, 1) := by decide +kernel
theorem dX7_search_315 : decode cX7_search 315 = .ok (.invokestatic 82, 3) := by decide +kernel
theorem dX7_search_318 : decode cX7_search 318 = .ok (.ifCond .eq 7, 3) := by decide +kernel
theorem dX7_search_321 : decode cX7_search 321 = .ok (.iconst 1, 1) := by decide +kernel
theorem dX7_search_322 : decode cX7_search 322 = .ok (.goto 4, 3) := by decide +kernel
theorem dX7_search_325 : decode cX7_search 325 = .ok (.iconst 0, 1) := by decide +kernel
theorem dX7_search_326 : decode cX7_search 326 = .ok (.istore 7, 2) := by decide +kernel
theorem dX7_search_328 : decode cX7_search 328 = .ok (.goto (-198), 3) := by decide +kernel
theorem dX7_search_331 : decode cX7_search 331 = .ok (.iload 7, 2) := by decide +kernel
theorem dX7_search_333 : decode cX7_search 333 = .ok (.ifCond .ne 9, 3) := by decide +kernel
theorem dX7_search_336 : decode cX7_search 336 = .ok (.iinc 5 (-1), 3) := by decide +kernel
theorem dX7_search_339 : decode cX7_search 339 = .ok (.goto (-267), 3) := by decide +kernel
theorem dX7_search_342 : decode cX7_search 342 = .ok (.aload_n 0, 1) := by decide +kernel
theorem dX7_search_343 : decode cX7_search 343 = .ok (.getfield 135, 3) := by decide +kernel
theorem dX7_search_346 : decode cX7_search 346 = .ok (.iload_n 1, 1) := by decide +kernel
theorem dX7_search_347 : decode cX7_search 347 = .ok (.if_icmp .ne 16, 3) := by decide +kernel
theorem dX7_search_350 : decode cX7_search 350 = .ok (.aload_n 0, 1) := by decide +kernel
theorem dX7_search_351 : decode cX7_search 351 = .ok (.dup, 1) := by decide +kernel
theorem dX7_search_352 : decode cX7_search 352 = .ok (.getfield 135, 3) := by decide +kernel
theorem dX7_search_355 : decode cX7_search 355 = .ok (.iconst 1, 1) := by decide +kernel
theorem dX7_search_356 : decode cX7_search 356 = .ok (.iadd, 1) := by decide +kernel
theorem dX7_search_357 : decode cX7_search 357 = .ok (.putfield 135, 3) := by decide +kernel
theorem dX7_search_360 : decode cX7_search 360 = .ok (.iload 4, 2) := by decide +kernel
theorem dX7_search_362 : decode cX7_search 362 = .ok (.ireturn, 1) := by decide +kernel
theorem dX7_search_363 : decode cX7_search 363 = .ok (.aload_n 0, 1) := by decide +kernel
theorem dX7_search_364 : decode cX7_search 364 = .ok (.dup, 1) := by decide +kernel
theorem dX7_search_365 : decode cX7_search 365 = .ok (.getfield 135, 3) := by decide +kernel
theorem dX7_search_368 : decode cX7_search 368 = .ok (.iconst 1, 1) := by decide +kernel
theorem dX7_search_369 : decode cX7_search 369 = .ok (.iadd, 1) := by decide +kernel
theorem dX7_search_370 : decode cX7_search 370 = .ok (.putfield 135, 3) := by decide +kernel
theorem dX7_search_373 : decode cX7_search 373 = .ok (.aload_n 0, 1) := by decide +kernel
theorem dX7_search_374 : decode cX7_search 374 = .ok (.getfield 51, 3) := by decide +kernel
theorem dX7_search_377 : decode cX7_search 377 = .ok (.iload 5, 2) := by decide +kernel
theorem dX7_search_379 : decode cX7_search 379 = .ok (.laload, 1) := by decide +kernel
theorem dX7_search_380 : decode cX7_search 380 = .ok (.aload_n 0, 1) := by decide +kernel
theorem dX7_search_381 : decode cX7_search 381 = .ok (.getfield 36, 3) := by decide +kernel
theorem dX7_search_384 : decode cX7_search 384 = .ok (.iload 5, 2) := by decide +kernel
theorem dX7_search_386 : decode cX7_search 386 = .ok (.laload, 1) := by decide +kernel
theorem dX7_search_387 : decode cX7_search 387 = .ok (.land, 1) := by decide +kernel
theorem dX7_search_388 : decode cX7_search 388 = .ok (.lconst 0, 1) := by decide +kernel
theorem dX7_search_389 : decode cX7_search 389 = .ok (.lcmp, 1) := by decide +kernel
theorem dX7_search_390 : decode cX7_search 390 = .ok (.ifCond .eq 6, 3) := by decide +kernel
theorem dX7_search_393 : decode cX7_search 393 = .ok (.goto (-321), 3) := by decide +kernel
theorem dX7_search_396 : decode cX7_search 396 = .ok (.aload_n 0, 1) := by decide +kernel
theorem dX7_search_397 : decode cX7_search 397 = .ok (.getfield 36, 3) := by decide +kernel
theorem dX7_search_400 : decode cX7_search 400 = .ok (.iload 5, 2) := by decide +kernel
theorem dX7_search_402 : decode cX7_search 402 = .ok (.iconst 1, 1) := by decide +kernel
theorem dX7_search_403 : decode cX7_search 403 = .ok (.iadd, 1) := by decide +kernel
theorem dX7_search_404 : decode cX7_search 404 = .ok (.aload_n 0, 1) := by decide +kernel
theorem dX7_search_405 : decode cX7_search 405 = .ok (.getfield 36, 3) := by decide +kernel
theorem dX7_search_408 : decode cX7_search 408 = .ok (.iload 5, 2) := by decide +kernel
theorem dX7_search_410 : decode cX7_search 410 = .ok (.laload, 1) := by decide +kernel
theorem dX7_search_411 : decode cX7_search 411 = .ok (.aload_n 0, 1) := by decide +kernel
theorem dX7_search_412 : decode cX7_search 412 = .ok (.getfield 51, 3) := by decide +kernel
theorem dX7_search_415 : decode cX7_search 415 = .ok (.iload 5, 2) := by decide +kernel
theorem dX7_search_417 : decode cX7_search 417 = .ok (.laload, 1) := by decide +kernel
theorem dX7_search_418 : decode cX7_search 418 = .ok (.lor, 1) := by decide +kernel
theorem dX7_search_419 : decode cX7_search 419 = .ok (.lastore, 1) := by decide +kernel
theorem dX7_search_420 : decode cX7_search 420 = .ok (.aload_n 0, 1) := by decide +kernel
theorem dX7_search_421 : decode cX7_search 421 = .ok (.getfield 39, 3) := by decide +kernel
theorem dX7_search_424 : decode cX7_search 424 = .ok (.iload 5, 2) := by decide +kernel
theorem dX7_search_426 : decode cX7_search 426 = .ok (.iconst 1, 1) := by decide +kernel
theorem dX7_search_427 : decode cX7_search 427 = .ok (.iadd, 1) := by decide +kernel
theorem dX7_search_428 : decode cX7_search 428 = .ok (.aload_n 0, 1) := by decide +kernel
theorem dX7_search_429 : decode cX7_search 429 = .ok (.getfield 39, 3) := by decide +kernel
theorem dX7_search_432 : decode cX7_search 432 = .ok (.iload 5, 2) := by decide +kernel
theorem dX7_search_434 : decode cX7_search 434 = .ok (.iaload, 1) := by decide +kernel
theorem dX7_search_435 : decode cX7_search 435 = .ok (.iconst 1, 1) := by decide +kernel
theorem dX7_search_436 : decode cX7_search 436 = .ok (.aload_n 0, 1) := by decide +kernel
theorem dX7_search_437 : decode cX7_search 437 = .ok (.getfield 45, 3) := by decide +kernel
theorem dX7_search_440 : decode cX7_search 440 = .ok (.iload 5, 2) := by decide +kernel
theorem dX7_search_442 : decode cX7_search 442 = .ok (.iaload, 1) := by decide +kernel
theorem dX7_search_443 : decode cX7_search 443 = .ok (.ishl, 1) := by decide +kernel
theorem dX7_search_444 : decode cX7_search 444 = .ok (.ior, 1) := by decide +kernel
theorem dX7_search_445 : decode cX7_search 445 = .ok (.iastore, 1) := by decide +kernel
theorem dX7_search_446 : decode cX7_search 446 = .ok (.iinc 5 1, 3) := by decide +kernel
theorem dX7_search_449 : decode cX7_search 449 = .ok (.aload_n 0, 1) := by decide +kernel
theorem dX7_search_450 : decode cX7_search 450 = .ok (.iload 5, 2) := by decide +kernel
theorem dX7_search_452 : decode cX7_search 452 = .ok (.iload_n 3, 1) := by decide +kernel
theorem dX7_search_453 : decode cX7_search 453 = .ok (.invokevirtual 138, 3) := by decide +kernel
theorem dX7_search_456 : decode cX7_search 456 = .ok (.goto (-384), 3) := by decide +kernel
theorem dX7_search_459 : decode cX7_search 459 = .ok (.iload 4, 2) := by decide +kernel
theorem dX7_search_461 : decode cX7_search 461 = .ok (.ireturn, 1) := by decide +kernel
theorem dX7_pack_0 : decode cX7_pack 0 = .ok (.aload_n 0, 1) := by decide +kernel
theorem dX7_pack_1 : decode cX7_pack 1 = .ok (.iload_n 1, 1) := by decide +kernel
theorem dX7_pack_2 : decode cX7_pack 2 = .ok (.iconst 1, 1) := by decide +kernel
theorem dX7_pack_3 : decode cX7_pack 3 = .ok (.ldc 143, 2) := by decide +kernel
theorem dX7_pack_5 : decode cX7_pack 5 = .ok (.invokestatic 88, 3) := by decide +kernel
theorem dX7_pack_8 : decode cX7_pack 8 = .ok (.invokevirtual 96, 3) := by decide +kernel
theorem dX7_pack_11 : decode cX7_pack 11 = .ok (.ifCond .ne 5, 3) := by decide +kernel
theorem dX7_pack_14 : decode cX7_pack 14 = .ok (.iconst 0, 1) := by decide +kernel
theorem dX7_pack_15 : decode cX7_pack 15 = .ok (.ireturn, 1) := by decide +kernel
theorem dX7_pack_16 : decode cX7_pack 16 = .ok (.aload_n 0, 1) := by decide +kernel
theorem dX7_pack_17 : decode cX7_pack 17 = .ok (.iload_n 1, 1) := by decide +kernel
theorem dX7_pack_18 : decode cX7_pack 18 = .ok (.iconst (-1), 1) := by decide +kernel
theorem dX7_pack_19 : decode cX7_pack 19 = .ok (.invokevirtual 144, 3) := by decide +kernel
theorem dX7_pack_22 : decode cX7_pack 22 = .ok (.istore_n 2, 1) := by decide +kernel
theorem dX7_pack_23 : decode cX7_pack 23 = .ok (.aload_n 0, 1) := by decide +kernel
theorem dX7_pack_24 : decode cX7_pack 24 = .ok (.getfield 135, 3) := by decide +kernel
theorem dX7_pack_27 : decode cX7_pack 27 = .ok (.iload_n 1, 1) := by decide +kernel
theorem dX7_pack_28 : decode cX7_pack 28 = .ok (.if_icmp .gt 5, 3) := by decide +kernel
theorem dX7_pack_31 : decode cX7_pack 31 = .ok (.iload_n 2, 1) := by decide +kernel
theorem dX7_pack_32 : decode cX7_pack 32 = .ok (.ireturn, 1) := by decide +kernel
theorem dX7_pack_33 : decode cX7_pack 33 = .ok (.aload_n 0, 1) := by decide +kernel
theorem dX7_pack_34 : decode cX7_pack 34 = .ok (.iload_n 1, 1) := by decide +kernel
theorem dX7_pack_35 : decode cX7_pack 35 = .ok (.putfield 135, 3) := by decide +kernel
theorem dX7_pack_38 : decode cX7_pack 38 = .ok (.iconst (-1), 1) := by decide +kernel
theorem dX7_pack_39 : decode cX7_pack 39 = .ok (.iload_n 2, 1) := by decide +kernel
theorem dX7_pack_40 : decode cX7_pack 40 = .ok (.isub, 1) := by decide +kernel
theorem dX7_pack_41 : decode cX7_pack 41 = .ok (.ireturn, 1) := by decide +kernel
theorem dX7_tries_0 : decode cX7_tries 0 = .ok (.aload_n 0, 1) := by decide +kernel
theorem dX7_tries_1 : decode cX7_tries 1 = .ok (.iconst 0, 1) := by decide +kernel
theorem dX7_tries_2 : decode cX7_tries 2 = .ok (.putfield 78, 3) := by decide +kernel
theorem dX7_tries_5 : decode cX7_tries 5 = .ok (.aload_n 0, 1) := by decide +kernel
theorem dX7_tries_6 : decode cX7_tries 6 = .ok (.getfield 135, 3) := by decide +kernel
theorem dX7_tries_9 : decode cX7_tries 9 = .ok (.ireturn, 1) := by decide +kernel
theorem dX7_assemble_0 : decode cX7_assemble 0 = .ok (.aload_n 0, 1) := by decide +kernel
theorem dX7_assemble_1 : decode cX7_assemble 1 = .ok (.iload_n 1, 1) := by decide +kernel
theorem dX7_assemble_2 : decode cX7_assemble 2 = .ok (.ifCond .lt 17, 3) := by decide +kernel
theorem dX7_assemble_5 : decode cX7_assemble 5 = .ok (.iload_n 2, 1) := by decide +kernel
theorem dX7_assemble_6 : decode cX7_assemble 6 = .ok (.iconst 1, 1) := by decide +kernel
theorem dX7_assemble_7 : decode cX7_assemble 7 = .ok (.ldc 143, 2) := by decide +kernel
theorem dX7_assemble_9 : decode cX7_assemble 9 = .ok (.invokestatic 88, 3) := by decide +kernel
theorem dX7_assemble_12 : decode cX7_assemble 12 = .ok (.ifCond .eq 7, 3) := by decide +kernel
theorem dX7_assemble_15 : decode cX7_assemble 15 = .ok (.iconst 1, 1) := by decide +kernel
theorem dX7_assemble_16 : decode cX7_assemble 16 = .ok (.goto 4, 3) := by decide +kernel
theorem dX7_assemble_19 : decode cX7_assemble 19 = .ok (.iconst 0, 1) := by decide +kernel
theorem dX7_assemble_20 : decode cX7_assemble 20 = .ok (.invokevirtual 96, 3) := by decide +kernel
theorem dX7_assemble_23 : decode cX7_assemble 23 = .ok (.ifCond .ne 5, 3) := by decide +kernel
theorem dX7_assemble_26 : decode cX7_assemble 26 = .ok (.iconst 0, 1) := by decide +kernel
theorem dX7_assemble_27 : decode cX7_assemble 27 = .ok (.ireturn, 1) := by decide +kernel
theorem dX7_assemble_28 : decode cX7_assemble 28 = .ok (.aload_n 0, 1) := by decide +kernel
theorem dX7_assemble_29 : decode cX7_assemble 29 = .ok (.iload_n 2, 1) := by decide +kernel
theorem dX7_assemble_30 : decode cX7_assemble 30 = .ok (.iload_n 1, 1) := by decide +kernel
theorem dX7_assemble_31 : decode cX7_assemble 31 = .ok (.invokevirtual 144, 3) := by decide +kernel
theorem dX7_assemble_34 : decode cX7_assemble 34 = .ok (.ldc 142, 2) := by decide +kernel
theorem dX7_assemble_36 : decode cX7_assemble 36 = .ok (.isub, 1) := by decide +kernel
theorem dX7_assemble_37 : decode cX7_assemble 37 = .ok (.istore_n 3, 1) := by decide +kernel
theorem dX7_assemble_38 : decode cX7_assemble 38 = .ok (.aload_n 0, 1) := by decide +kernel
theorem dX7_assemble_39 : decode cX7_assemble 39 = .ok (.getfield 135, 3) := by decide +kernel
theorem dX7_assemble_42 : decode cX7_assemble 42 = .ok (.iload_n 2, 1) := by decide +kernel
theorem dX7_assemble_43 : decode cX7_assemble 43 = .ok (.if_icmp .le 8, 3) := by decide +kernel
theorem dX7_assemble_46 : decode cX7_assemble 46 = .ok (.aload_n 0, 1) := by decide +kernel
theorem dX7_assemble_47 : decode cX7_assemble 47 = .ok (.iload_n 2, 1) := by decide +kernel
theorem dX7_assemble_48 : decode cX7_assemble 48 = .ok (.putfield 135, 3) := by decide +kernel
theorem dX7_assemble_51 : decode cX7_assemble 51 = .ok (.iload_n 3, 1) := by decide +kernel
theorem dX7_assemble_52 : decode cX7_assemble 52 = .ok (.ifCond .ge 5, 3) := by decide +kernel
theorem dX7_assemble_55 : decode cX7_assemble 55 = .ok (.iconst 0, 1) := by decide +kernel
theorem dX7_assemble_56 : decode cX7_assemble 56 = .ok (.ireturn, 1) := by decide +kernel
theorem dX7_assemble_57 : decode cX7_assemble 57 = .ok (.iconst 0, 1) := by decide +kernel
theorem dX7_assemble_58 : decode cX7_assemble 58 = .ok (.istore 4, 2) := by decide +kernel
theorem dX7_assemble_60 : decode cX7_assemble 60 = .ok (.iload 4, 2) := by decide +kernel
theorem dX7_assemble_62 : decode cX7_assemble 62 = .ok (.bipush 6, 2) := by decide +kernel
theorem dX7_assemble_64 : decode cX7_assemble 64 = .ok (.if_icmp .ge 17, 3) := by decide +kernel
theorem dX7_assemble_67 : decode cX7_assemble 67 = .ok (.aload_n 0, 1) := by decide +kernel
theorem dX7_assemble_68 : decode cX7_assemble 68 = .ok (.getfield 33, 3) := by decide +kernel
theorem dX7_assemble_71 : decode cX7_assemble 71 = .ok (.iload 4, 2) := by decide +kernel
theorem dX7_assemble_73 : decode cX7_assemble 73 = .ok (.lconst 0, 1) := by decide +kernel
theorem dX7_assemble_74 : decode cX7_assemble 74 = .ok (.lastore, 1) := by decide +kernel
theorem dX7_assemble_75 : decode cX7_assemble 75 = .ok (.iinc 4 1, 3) := by decide +kernel
theorem dX7_assemble_78 : decode cX7_assemble 78 = .ok (.goto (-18), 3) := by decide +kernel
theorem dX7_assemble_81 : decode cX7_assemble 81 = .ok (.iconst 0, 1) := by decide +kernel
theorem dX7_assemble_82 : decode cX7_assemble 82 = .ok (.istore 4, 2) := by decide +kernel
theorem dX7_assemble_84 : decode cX7_assemble 84 = .ok (.iload 4, 2) := by decide +kernel
theorem dX7_assemble_86 : decode cX7_assemble 86 = .ok (.iload_n 3, 1) := by decide +kernel
theorem dX7_assemble_87 : decode cX7_assemble 87 = .ok (.if_icmp .ge 28, 3) := by decide +kernel
theorem dX7_assemble_90 : decode cX7_assemble 90 = .ok (.aload_n 0, 1) := by decide +kernel
theorem dX7_assemble_91 : decode cX7_assemble 91 = .ok (.getfield 33, 3) := by decide +kernel
theorem dX7_assemble_94 : decode cX7_assemble 94 = .ok (.aload_n 0, 1) := by decide +kernel
theorem dX7_assemble_95 : decode cX7_assemble 95 = .ok (.getfield 45, 3) := by decide +kernel
theorem dX7_assemble_98 : decode cX7_assemble 98 = .ok (.iload 4, 2) := by decide +kernel
theorem dX7_assemble_100 : decode cX7_assemble 100 = .ok (.iaload, 1) := by decide +kernel
theorem dX7_assemble_101 : decode cX7_assemble 101 = .ok (.aload_n 0, 1) := by decide +kernel
theorem dX7_assemble_102 : decode cX7_assemble 102 = .ok (.getfield 51, 3) := by decide +kernel
theorem dX7_assemble_105 : decode cX7_assemble 105 = .ok (.iload 4, 2) := by decide +kernel
theorem dX7_assemble_107 : decode cX7_assemble 107 = .ok (.laload, 1) := by decide +kernel
theorem dX7_assemble_108 : decode cX7_assemble 108 = .ok (.lastore, 1) := by decide +kernel
theorem dX7_assemble_109 : decode cX7_assemble 109 = .ok (.iinc 4 1, 3) := by decide +kernel
theorem dX7_assemble_112 : decode cX7_assemble 112 = .ok (.goto (-28), 3) := by decide +kernel
theorem dX7_assemble_115 : decode cX7_assemble 115 = .ok (.iconst 1, 1) := by decide +kernel
theorem dX7_assemble_116 : decode cX7_assemble 116 = .ok (.ireturn, 1) := by decide +kernel
theorem dX7_put_0 : decode cX7_put 0 = .ok (.aload_n 0, 1) := by decide +kernel
theorem dX7_put_1 : decode cX7_put 1 = .ok (.iload_n 1, 1) := by decide +kernel
theorem dX7_put_2 : decode cX7_put 2 = .ok (.iconst 0, 1) := by decide +kernel
theorem dX7_put_3 : decode cX7_put 3 = .ok (.iconst 5, 1) := by decide +kernel
theorem dX7_put_4 : decode cX7_put 4 = .ok (.invokestatic 88, 3) := by decide +kernel
theorem dX7_put_7 : decode cX7_put 7 = .ok (.invokevirtual 96, 3) := by decide +kernel
theorem dX7_put_10 : decode cX7_put 10 = .ok (.ifCond .ne 4, 3) := by decide +kernel
theorem dX7_put_13 : decode cX7_put 13 = .ok (.return_, 1) := by decide +kernel
theorem dX7_put_14 : decode cX7_put 14 = .ok (.aload_n 0, 1) := by decide +kernel
theorem dX7_put_15 : decode cX7_put 15 = .ok (.iload_n 1, 1) := by decide +kernel
theorem dX7_put_16 : decode cX7_put 16 = .ok (.invokevirtual 124, 3) := by decide +kernel
theorem dX7_put_19 : decode cX7_put 19 = .ok (.iconst 0, 1) := by decide +kernel
theorem dX7_put_20 : decode cX7_put 20 = .ok (.istore 4, 2) := by decide +kernel
theorem dX7_put_22 : decode cX7_put 22 = .ok (.iconst 0, 1) := by decide +kernel
theorem dX7_put_23 : decode cX7_put 23 = .ok (.istore 5, 2) := by decide +kernel
theorem dX7_put_25 : decode cX7_put 25 = .ok (.iload 5, 2) := by decide +kernel
theorem dX7_put_27 : decode cX7_put 27 = .ok (.aload_n 0, 1) := by decide +kernel
theorem dX7_put_28 : decode cX7_put 28 = .ok (.getfield 21, 3) := by decide +kernel
theorem dX7_put_31 : decode cX7_put 31 = .ok (.iload_n 1, 1) := by decide +kernel
theorem dX7_put_32 : decode cX7_put 32 = .ok (.iaload, 1) := by decide +kernel
theorem dX7_put_33 : decode cX7_put 33 = .ok (.if_icmp .ge 78, 3) := by decide +kernel
theorem dX7_put_36 : decode cX7_put 36 = .ok (.iconst 0, 1) := by decide +kernel
theorem dX7_put_37 : decode cX7_put 37 = .ok (.istore 6, 2) := by decide +kernel
theorem dX7_put_39 : decode cX7_put 39 = .ok (.iload 6, 2) := by decide +kernel
theorem dX7_put_41 : decode cX7_put 41 = .ok (.bipush 64, 2) := by decide +kernel
theorem dX7_put_43 : decode cX7_put 43 = .ok (.if_icmp .ge 62, 3) := by decide +kernel
theorem dX7_put_46 : decode cX7_put 46 = .ok (.iload 4, 2) := by decide +kernel
theorem dX7_put_48 : decode cX7_put 48 = .ok (.ifCond .ne 44, 3) := by decide +kernel
theorem dX7_put_51 : decode cX7_put 51 = .ok (.lload_n 2, 1) := by decide +kernel
theorem dX7_put_52 : decode cX7_put 52 = .ok (.lconst 0, 1) := by decide +kernel
theorem dX7_put_53 : decode cX7_put 53 = .ok (.lcmp, 1) := by decide +kernel
theorem dX7_put_54 : decode cX7_put 54 = .ok (.ifCond .eq 42, 3) := by decide +kernel
theorem dX7_put_57 : decode cX7_put 57 = .ok (.aload_n 0, 1) := by decide +kernel
theorem dX7_put_58 : decode cX7_put 58 = .ok (.getfield 24, 3) := by decide +kernel
theorem dX7_put_61 : decode cX7_put 61 = .ok (.iload_n 1, 1) := by decide +kernel
theorem dX7_put_62 : decode cX7_put 62 = .ok (.bipush 48, 2) := by decide +kernel
theorem dX7_put_64 : decode cX7_put 64 = .ok (.imul, 1) := by decide +kernel
theorem dX7_put_65 : decode cX7_put 65 = .ok (.iload 5, 2) := by decide +kernel
theorem dX7_put_67 : decode cX7_put 67 = .ok (.iadd, 1) := by decide +kernel
theorem dX7_put_68 : decode cX7_put 68 = .ok (.laload, 1) := by decide +kernel
theorem dX7_put_69 : decode cX7_put 69 = .ok (.iload 6, 2) := by decide +kernel
theorem dX7_put_71 : decode cX7_put 71 = .ok (.iconst 4, 1) := by decide +kernel
theorem dX7_put_72 : decode cX7_put 72 = .ok (.irem, 1) := by decide +kernel
theorem dX7_put_73 : decode cX7_put 73 = .ok (.iload 6, 2) := by decide +kernel
theorem dX7_put_75 : decode cX7_put 75 = .ok (.iconst 4, 1) := by decide +kernel
theorem dX7_put_76 : decode cX7_put 76 = .ok (.idiv, 1) := by decide +kernel
theorem dX7_put_77 : decode cX7_put 77 = .ok (.iconst 4, 1) := by decide +kernel
theorem dX7_put_78 : decode cX7_put 78 = .ok (.irem, 1) := by decide +kernel
theorem dX7_put_79 : decode cX7_put 79 = .ok (.iload 6, 2) := by decide +kernel
theorem dX7_put_81 : decode cX7_put 81 = .ok (.bipush 16, 2) := by decide +kernel
theorem dX7_put_83 : decode cX7_put 83 = .ok (.idiv, 1) := by decide +kernel
theorem dX7_put_84 : decode cX7_put 84 = .ok (.invokestatic 128, 3) := by decide +kernel
theorem dX7_put_87 : decode cX7_put 87 = .ok (.lload_n 2, 1) := by decide +kernel
theorem dX7_put_88 : decode cX7_put 88 = .ok (.lcmp, 1) := by decide +kernel
theorem dX7_put_89 : decode cX7_put 89 = .ok (.ifCond .ne 7, 3) := by decide +kernel
theorem dX7_put_92 : decode cX7_put 92 = .ok (.iconst 1, 1) := by decide +kernel
theorem dX7_put_93 : decode cX7_put 93 = .ok (.goto 4, 3) := by decide +kernel
theorem dX7_put_96 : decode cX7_put 96 = .ok (.iconst 0, 1) := by decide +kernel
theorem dX7_put_97 : decode cX7_put 97 = .ok (.istore 4, 2) := by decide +kernel
theorem dX7_put_99 : decode cX7_put 99 = .ok (.iinc 6 1, 3) := by decide +kernel
theorem dX7_put_102 : decode cX7_put 102 = .ok (.goto (-63), 3) := by decide +kernel
theorem dX7_put_105 : decode cX7_put 105 = .ok (.iinc 5 1, 3) := by decide +kernel
theorem dX7_put_108 : decode cX7_put 108 = .ok (.goto (-83), 3) := by decide +kernel
theorem dX7_put_111 : decode cX7_put 111 = .ok (.iconst 1, 1) := by decide +kernel
theorem dX7_put_112 : decode cX7_put 112 = .ok (.istore 5, 2) := by decide +kernel
theorem dX7_put_114 : decode cX7_put 114 = .ok (.iconst 0, 1) := by decide +kernel
theorem dX7_put_115 : decode cX7_put 115 = .ok (.istore 6, 2) := by decide +kernel
theorem dX7_put_117 : decode cX7_put 117 = .ok (.iload 6, 2) := by decide +kernel
theorem dX7_put_119 : decode cX7_put 119 = .ok (.bipush 6, 2) := by decide +kernel
theorem dX7_put_121 : decode cX7_put 121 = .ok (.if_icmp .ge 41, 3) := by decide +kernel
theorem dX7_put_124 : decode cX7_put 124 = .ok (.iload 5, 2) := by decide +kernel
theorem dX7_put_126 : decode cX7_put 126 = .ok (.ifCond .eq 27, 3) := by decide +kernel
theorem dX7_put_129 : decode cX7_put 129 = .ok (.iload 6, 2) := by decide +kernel
theorem dX7_put_131 : decode cX7_put 131 = .ok (.iload_n 1, 1) := by decide +kernel
theorem dX7_put_132 : decode cX7_put 132 = .ok (.if_icmp .eq 17, 3) := by decide +kernel
theorem dX7_put_135 : decode cX7_put 135 = .ok (.aload_n 0, 1) := by decide +kernel
theorem dX7_put_136 : decode cX7_put 136 = .ok (.getfield 33, 3) := by decide +kernel
theorem dX7_put_139 : decode cX7_put 139 = .ok (.iload 6, 2) := by decide +kernel
theorem dX7_put_141 : decode cX7_put 141 = .ok (.laload, 1) := by decide +kernel
theorem dX7_put_142 : decode cX7_put 142 = .ok (.lload_n 2, 1) := by decide +kernel
theorem dX7_put_143 : decode cX7_put 143 = .ok (.land, 1) := by decide +kernel
theorem dX7_put_144 : decode cX7_put 144 = .ok (.lconst 0, 1) := by decide +kernel
theorem dX7_put_145 : decode cX7_put 145 = .ok (.lcmp, 1) := by decide +kernel
theorem dX7_put_146 : decode cX7_put 146 = .ok (.ifCond .ne 7, 3) := by decide +kernel
theorem dX7_put_149 : decode cX7_put 149 = .ok (.iconst 1, 1) := by decide +kernel
theorem dX7_put_150 : decode cX7_put 150 = .ok (.goto 4, 3) := by decide +kernel
theorem dX7_put_153 : decode cX7_put 153 = .ok (.iconst 0, 1) := by decide +kernel
theorem dX7_put_154 : decode cX7_put 154 = .ok (.istore 5, 2) := by decide +kernel
theorem dX7_put_156 : decode cX7_put 156 = .ok (.iinc 6 1, 3) := by decide +kernel
theorem dX7_put_159 : decode cX7_put 159 = .ok (.goto (-42), 3) := by decide +kernel
theorem dX7_put_162 : decode cX7_put 162 = .ok (.aload_n 0, 1) := by decide +kernel
theorem dX7_put_163 : decode cX7_put 163 = .ok (.iload 4, 2) := by decide +kernel
theorem dX7_put_165 : decode cX7_put 165 = .ok (.ifCond .ne 7, 3) := by decide +kernel
theorem dX7_put_168 : decode cX7_put 168 = .ok (.iconst 1, 1) := by decide +kernel
theorem dX7_put_169 : decode cX7_put 169 = .ok (.goto 13, 3) := by decide +kernel
theorem dX7_put_172 : decode cX7_put 172 = .ok (.iload 5, 2) := by decide +kernel
theorem dX7_put_174 : decode cX7_put 174 = .ok (.ifCond .eq 7, 3) := by decide +kernel
theorem dX7_put_177 : decode cX7_put 177 = .ok (.iconst 0, 1) := by decide +kernel
theorem dX7_put_178 : decode cX7_put 178 = .ok (.goto 4, 3) := by decide +kernel
theorem dX7_put_181 : decode cX7_put 181 = .ok (.iconst 2, 1) := by decide +kernel
theorem dX7_put_182 : decode cX7_put 182 = .ok (.putfield 78, 3) := by decide +kernel
theorem dX7_put_185 : decode cX7_put 185 = .ok (.aload_n 0, 1) := by decide +kernel
theorem dX7_put_186 : decode cX7_put 186 = .ok (.getfield 78, 3) := by decide +kernel
theorem dX7_put_189 : decode cX7_put 189 = .ok (.ifCond .ne 10, 3) := by decide +kernel
theorem dX7_put_192 : decode cX7_put 192 = .ok (.aload_n 0, 1) := by decide +kernel
theorem dX7_put_193 : decode cX7_put 193 = .ok (.getfield 33, 3) := by decide +kernel
theorem dX7_put_196 : decode cX7_put 196 = .ok (.iload_n 1, 1) := by decide +kernel
theorem dX7_put_197 : decode cX7_put 197 = .ok (.lload_n 2, 1) := by decide +kernel
theorem dX7_put_198 : decode cX7_put 198 = .ok (.lastore, 1) := by decide +kernel
theorem dX7_put_199 : decode cX7_put 199 = .ok (.return_, 1) := by decide +kernel
theorem dX7_take_0 : decode cX7_take 0 = .ok (.aload_n 0, 1) := by decide +kernel
theorem dX7_take_1 : decode cX7_take 1 = .ok (.iload_n 1, 1) := by decide +kernel
theorem dX7_take_2 : decode cX7_take 2 = .ok (.iconst 0, 1) := by decide +kernel
theorem dX7_take_3 : decode cX7_take 3 = .ok (.iconst 5, 1) := by decide +kernel
theorem dX7_take_4 : decode cX7_take 4 = .ok (.invokestatic 88, 3) := by decide +kernel
theorem dX7_take_7 : decode cX7_take 7 = .ok (.ifCond .ne 7, 3) := by decide +kernel
theorem dX7_take_10 : decode cX7_take 10 = .ok (.iconst 1, 1) := by decide +kernel
theorem dX7_take_11 : decode cX7_take 11 = .ok (.goto 19, 3) := by decide +kernel
theorem dX7_take_14 : decode cX7_take 14 = .ok (.aload_n 0, 1) := by decide +kernel
theorem dX7_take_15 : decode cX7_take 15 = .ok (.getfield 33, 3) := by decide +kernel
theorem dX7_take_18 : decode cX7_take 18 = .ok (.iload_n 1, 1) := by decide +kernel
theorem dX7_take_19 : decode cX7_take 19 = .ok (.laload, 1) := by decide +kernel
theorem dX7_take_20 : decode cX7_take 20 = .ok (.lconst 0, 1) := by decide +kernel
theorem dX7_take_21 : decode cX7_take 21 = .ok (.lcmp, 1) := by decide +kernel
theorem dX7_take_22 : decode cX7_take 22 = .ok (.ifCond .ne 7, 3) := by decide +kernel
theorem dX7_take_25 : decode cX7_take 25 = .ok (.iconst 2, 1) := by decide +kernel
theorem dX7_take_26 : decode cX7_take 26 = .ok (.goto 4, 3) := by decide +kernel
theorem dX7_take_29 : decode cX7_take 29 = .ok (.iconst 0, 1) := by decide +kernel
theorem dX7_take_30 : decode cX7_take 30 = .ok (.putfield 78, 3) := by decide +kernel
theorem dX7_take_33 : decode cX7_take 33 = .ok (.aload_n 0, 1) := by decide +kernel
theorem dX7_take_34 : decode cX7_take 34 = .ok (.getfield 78, 3) := by decide +kernel
theorem dX7_take_37 : decode cX7_take 37 = .ok (.ifCond .ne 10, 3) := by decide +kernel
theorem dX7_take_40 : decode cX7_take 40 = .ok (.aload_n 0, 1) := by decide +kernel
theorem dX7_take_41 : decode cX7_take 41 = .ok (.getfield 33, 3) := by decide +kernel
theorem dX7_take_44 : decode cX7_take 44 = .ok (.iload_n 1, 1) := by decide +kernel
theorem dX7_take_45 : decode cX7_take 45 = .ok (.lconst 0, 1) := by decide +kernel
theorem dX7_take_46 : decode cX7_take 46 = .ok (.lastore, 1) := by decide +kernel
theorem dX7_take_47 : decode cX7_take 47 = .ok (.return_, 1) := by decide +kernel
theorem dX7_cells_0 : decode cX7_cells 0 = .ok (.aload_n 0, 1) := by decide +kernel
theorem dX7_cells_1 : decode cX7_cells 1 = .ok (.iload_n 1, 1) := by decide +kernel
theorem dX7_cells_2 : decode cX7_cells 2 = .ok (.iconst 0, 1) := by decide +kernel
theorem dX7_cells_3 : decode cX7_cells 3 = .ok (.iconst 5, 1) := by decide +kernel
theorem dX7_cells_4 : decode cX7_cells 4 = .ok (.invokestatic 88, 3) := by decide +kernel
theorem dX7_cells_7 : decode cX7_cells 7 = .ok (.invokevirtual 96, 3) := by decide +kernel
theorem dX7_cells_10 : decode cX7_cells 10 = .ok (.ifCond .eq 12, 3) := by decide +kernel
theorem dX7_cells_13 : decode cX7_cells 13 = .ok (.aload_n 0, 1) := by decide +kernel
theorem dX7_cells_14 : decode cX7_cells 14 = .ok (.getfield 33, 3) := by decide +kernel
theorem dX7_cells_17 : decode cX7_cells 17 = .ok (.iload_n 1, 1) := by decide +kernel
theorem dX7_cells_18 : decode cX7_cells 18 = .ok (.laload, 1) := by decide +kernel
theorem dX7_cells_19 : decode cX7_cells 19 = .ok (.goto 4, 3) := by decide +kernel
theorem dX7_cells_22 : decode cX7_cells 22 = .ok (.lconst 0, 1) := by decide +kernel
theorem dX7_cells_23 : decode cX7_cells 23 = .ok (.lreturn, 1) := by decide +kernel
theorem dX7_at_0 : decode cX7_at 0 = .ok (.aload_n 0, 1) := by decide +kernel
theorem dX7_at_1 : decode cX7_at 1 = .ok (.getfield 57, 3) := by decide +kernel
theorem dX7_at_4 : decode cX7_at 4 = .ok (.iload_n 1, 1) := by decide +kernel
theorem dX7_at_5 : decode cX7_at 5 = .ok (.bipush 10, 2) := by decide +kernel
theorem dX7_at_7 : decode cX7_at 7 = .ok (.imul, 1) := by decide +kernel
theorem dX7_at_8 : decode cX7_at 8 = .ok (.iload_n 2, 1) := by decide +kernel
theorem dX7_at_9 : decode cX7_at 9 = .ok (.iadd, 1) := by decide +kernel
theorem dX7_at_10 : decode cX7_at 10 = .ok (.iconst 3, 1) := by decide +kernel
theorem dX7_at_11 : decode cX7_at 11 = .ok (.imul, 1) := by decide +kernel
theorem dX7_at_12 : decode cX7_at 12 = .ok (.iload_n 3, 1) := by decide +kernel
theorem dX7_at_13 : decode cX7_at 13 = .ok (.iadd, 1) := by decide +kernel
theorem dX7_at_14 : decode cX7_at 14 = .ok (.iaload, 1) := by decide +kernel
theorem dX7_at_15 : decode cX7_at 15 = .ok (.aload_n 0, 1) := by decide +kernel
theorem dX7_at_16 : decode cX7_at 16 = .ok (.getfield 69, 3) := by decide +kernel
theorem dX7_at_19 : decode cX7_at 19 = .ok (.iconst 3, 1) := by decide +kernel
theorem dX7_at_20 : decode cX7_at 20 = .ok (.iload_n 1, 1) := by decide +kernel
theorem dX7_at_21 : decode cX7_at 21 = .ok (.imul, 1) := by decide +kernel
theorem dX7_at_22 : decode cX7_at 22 = .ok (.iload_n 3, 1) := by decide +kernel
theorem dX7_at_23 : decode cX7_at 23 = .ok (.iadd, 1) := by decide +kernel
theorem dX7_at_24 : decode cX7_at 24 = .ok (.iaload, 1) := by decide +kernel
theorem dX7_at_25 : decode cX7_at 25 = .ok (.iadd, 1) := by decide +kernel
theorem dX7_at_26 : decode cX7_at 26 = .ok (.ireturn, 1) := by decide +kernel
theorem dX7_hits_0 : decode cX7_hits 0 = .ok (.iconst 0, 1) := by decide +kernel
theorem dX7_hits_1 : decode cX7_hits 1 = .ok (.istore_n 3, 1) := by decide +kernel
theorem dX7_hits_2 : decode cX7_hits 2 = .ok (.iload_n 3, 1) := by decide +kernel
theorem dX7_hits_3 : decode cX7_hits 3 = .ok (.bipush 6, 2) := by decide +kernel
theorem dX7_hits_5 : decode cX7_hits 5 = .ok (.if_icmp .ge 152, 3) := by decide +kernel
theorem dX7_hits_8 : decode cX7_hits 8 = .ok (.iconst 0, 1) := by decide +kernel
theorem dX7_hits_9 : decode cX7_hits 9 = .ok (.istore 4, 2) := by decide +kernel
theorem dX7_hits_11 : decode cX7_hits 11 = .ok (.iload 4, 2) := by decide +kernel
theorem dX7_hits_13 : decode cX7_hits 13 = .ok (.bipush 6, 2) := by decide +kernel
theorem dX7_hits_15 : decode cX7_hits 15 = .ok (.if_icmp .ge 136, 3) := by decide +kernel
theorem dX7_hits_18 : decode cX7_hits 18 = .ok (.iload_n 2, 1) := by decide +kernel
theorem dX7_hits_19 : decode cX7_hits 19 = .ok (.iload_n 3, 1) := by decide +kernel
theorem dX7_hits_20 : decode cX7_hits 20 = .ok (.ishr, 1) := by decide +kernel
theorem dX7_hits_21 : decode cX7_hits 21 = .ok (.iconst 1, 1) := by decide +kernel
theorem dX7_hits_22 : decode cX7_hits 22 = .ok (.iand, 1) := by decide +kernel
theorem dX7_hits_23 : decode cX7_hits 23 = .ok (.ifCond .eq 122, 3) := by decide +kernel
theorem dX7_hits_26 : decode cX7_hits 26 = .ok (.iload_n 1, 1) := by decide +kernel
theorem dX7_hits_27 : decode cX7_hits 27 = .ok (.iload_n 2, 1) := by decide +kernel
theorem dX7_hits_28 : decode cX7_hits 28 = .ok (.iconst (-1), 1) := by decide +kernel
theorem dX7_hits_29 : decode cX7_hits 29 = .ok (.ixor, 1) := by decide +kernel
theorem dX7_hits_30 : decode cX7_hits 30 = .ok (.iand, 1) := by decide +kernel
theorem dX7_hits_31 : decode cX7_hits 31 = .ok (.iload 4, 2) := by decide +kernel
theorem dX7_hits_33 : decode cX7_hits 33 = .ok (.ishr, 1) := by decide +kernel
theorem dX7_hits_34 : decode cX7_hits 34 = .ok (.iconst 1, 1) := by decide +kernel
theorem dX7_hits_35 : decode cX7_hits 35 = .ok (.iand, 1) := by decide +kernel
theorem dX7_hits_36 : decode cX7_hits 36 = .ok (.ifCond .ne 6, 3) := by decide +kernel
theorem dX7_hits_39 : decode cX7_hits 39 = .ok (.goto 106, 3) := by decide +kernel
theorem dX7_hits_42 : decode cX7_hits 42 = .ok (.iconst 0, 1) := by decide +kernel
theorem dX7_hits_43 : decode cX7_hits 43 = .ok (.istore 5, 2) := by decide +kernel
theorem dX7_hits_45 : decode cX7_hits 45 = .ok (.iload 5, 2) := by decide +kernel
theorem dX7_hits_47 : decode cX7_hits 47 = .ok (.aload_n 0, 1) := by decide +kernel
theorem dX7_hits_48 : decode cX7_hits 48 = .ok (.getfield 54, 3) := by decide +kernel
theorem dX7_hits_51 : decode cX7_hits 51 = .ok (.iload_n 3, 1) := by decide +kernel
theorem dX7_hits_52 : decode cX7_hits 52 = .ok (.iaload, 1) := by decide +kernel
theorem dX7_hits_53 : decode cX7_hits 53 = .ok (.if_icmp .ge 92, 3) := by decide +kernel
theorem dX7_hits_56 : decode cX7_hits 56 = .ok (.iconst 0, 1) := by decide +kernel
theorem dX7_hits_57 : decode cX7_hits 57 = .ok (.istore 6, 2) := by decide +kernel
theorem dX7_hits_59 : decode cX7_hits 59 = .ok (.iload 6, 2) := by decide +kernel
theorem dX7_hits_61 : decode cX7_hits 61 = .ok (.aload_n 0, 1) := by decide +kernel
theorem dX7_hits_62 : decode cX7_hits 62 = .ok (.getfield 54, 3) := by decide +kernel
theorem dX7_hits_65 : decode cX7_hits 65 = .ok (.iload 4, 2) := by decide +kernel
theorem dX7_hits_67 : decode cX7_hits 67 = .ok (.iaload, 1) := by decide +kernel
theorem dX7_hits_68 : decode cX7_hits 68 = .ok (.if_icmp .ge 71, 3) := by decide +kernel
theorem dX7_hits_71 : decode cX7_hits 71 = .ok (.aload_n 0, 1) := by decide +kernel
theorem dX7_hits_72 : decode cX7_hits 72 = .ok (.iload_n 3, 1) := by decide +kernel
theorem dX7_hits_73 : decode cX7_hits 73 = .ok (.iload 5, 2) := by decide +kernel
theorem dX7_hits_75 : decode cX7_hits 75 = .ok (.iconst 0, 1) := by decide +kernel
theorem dX7_hits_76 : decode cX7_hits 76 = .ok (.invokevirtual 148, 3) := by decide +kernel
theorem dX7_hits_79 : decode cX7_hits 79 = .ok (.aload_n 0, 1) := by decide +kernel
theorem dX7_hits_80 : decode cX7_hits 80 = .ok (.iload 4, 2) := by decide +kernel
theorem dX7_hits_82 : decode cX7_hits 82 = .ok (.iload 6, 2) := by decide +kernel
theorem dX7_hits_84 : decode cX7_hits 84 = .ok (.iconst 0, 1) := by decide +kernel
theorem dX7_hits_85 : decode cX7_hits 85 = .ok (.invokevirtual 148, 3) := by decide +kernel
theorem dX7_hits_88 : decode cX7_hits 88 = .ok (.if_icmp .ne 45, 3) := by decide +kernel
theorem dX7_hits_91 : decode cX7_hits 91 = .ok (.aload_n 0, 1) := by decide +kernel
theorem dX7_hits_92 : decode cX7_hits 92 = .ok (.iload_n 3, 1) := by decide +kernel
theorem dX7_hits_93 : decode cX7_hits 93 = .ok (.iload 5, 2) := by decide +kernel
theorem dX7_hits_95 : decode cX7_hits 95 = .ok (.iconst 1, 1) := by decide +kernel
theorem dX7_hits_96 : decode cX7_hits 96 = .ok (.invokevirtual 148, 3) := by decide +kernel
theorem dX7_hits_99 : decode cX7_hits 99 = .ok (.aload_n 0, 1) := by decide +kernel
theorem dX7_hits_100 : decode cX7_hits 100 = .ok (.iload 4, 2) := by decide +kernel
theorem dX7_hits_102 : decode cX7_hits 102 = .ok (.iload 6, 2) := by decide +kernel
theorem dX7_hits_104 : decode cX7_hits 104 = .ok (.iconst 1, 1) := by decide +kernel
theorem dX7_hits_105 : decode cX7_hits 105 = .ok (.invokevirtual 148, 3) := by decide +kernel
theorem dX7_hits_108 : decode cX7_hits 108 = .ok (.if_icmp .ne 25, 3) := by decide +kernel
theorem dX7_hits_111 : decode cX7_hits 111 = .ok (.aload_n 0, 1) := by decide +kernel
theorem dX7_hits_112 : decode cX7_hits 112 = .ok (.iload_n 3, 1) := by decide +kernel
theorem dX7_hits_113 : decode cX7_hits 113 = .ok (.iload 5, 2) := by decide +kernel
theorem dX7_hits_115 : decode cX7_hits 115 = .ok (.iconst 2, 1) := by decide +kernel
theorem dX7_hits_116 : decode cX7_hits 116 = .ok (.invokevirtual 148, 3) := by decide +kernel
theorem dX7_hits_119 : decode cX7_hits 119 = .ok (.aload_n 0, 1) := by decide +kernel
theorem dX7_hits_120 : decode cX7_hits 120 = .ok (.iload 4, 2) := by decide +kernel
theorem dX7_hits_122 : decode cX7_hits 122 = .ok (.iload 6, 2) := by decide +kernel
theorem dX7_hits_124 : decode cX7_hits 124 = .ok (.iconst 2, 1) := by decide +kernel
theorem dX7_hits_125 : decode cX7_hits 125 = .ok (.invokevirtual 148, 3) := by decide +kernel
theorem dX7_hits_128 : decode cX7_hits 128 = .ok (.if_icmp .ne 5, 3) := by decide +kernel
theorem dX7_hits_131 : decode cX7_hits 131 = .ok (.iconst 1, 1) := by decide +kernel
theorem dX7_hits_132 : decode cX7_hits 132 = .ok (.ireturn, 1) := by decide +kernel
theorem dX7_hits_133 : decode cX7_hits 133 = .ok (.iinc 6 1, 3) := by decide +kernel
theorem dX7_hits_136 : decode cX7_hits 136 = .ok (.goto (-77), 3) := by decide +kernel
theorem dX7_hits_139 : decode cX7_hits 139 = .ok (.iinc 5 1, 3) := by decide +kernel
theorem dX7_hits_142 : decode cX7_hits 142 = .ok (.goto (-97), 3) := by decide +kernel
theorem dX7_hits_145 : decode cX7_hits 145 = .ok (.iinc 4 1, 3) := by decide +kernel
theorem dX7_hits_148 : decode cX7_hits 148 = .ok (.goto (-137), 3) := by decide +kernel
theorem dX7_hits_151 : decode cX7_hits 151 = .ok (.iinc 3 1, 3) := by decide +kernel
theorem dX7_hits_154 : decode cX7_hits 154 = .ok (.goto (-152), 3) := by decide +kernel
theorem dX7_hits_157 : decode cX7_hits 157 = .ok (.iconst 0, 1) := by decide +kernel
theorem dX7_hits_158 : decode cX7_hits 158 = .ok (.ireturn, 1) := by decide +kernel
theorem dX7_edge_0 : decode cX7_edge 0 = .ok (.iload_n 3, 1) := by decide +kernel
theorem dX7_edge_1 : decode cX7_edge 1 = .ok (.ifCond .eq 8, 3) := by decide +kernel
theorem dX7_edge_4 : decode cX7_edge 4 = .ok (.ldc 152, 2) := by decide +kernel
theorem dX7_edge_6 : decode cX7_edge 6 = .ok (.goto 5, 3) := by decide +kernel
theorem dX7_edge_9 : decode cX7_edge 9 = .ok (.ldc 153, 2) := by decide +kernel
theorem dX7_edge_11 : decode cX7_edge 11 = .ok (.istore 4, 2) := by decide +kernel
theorem dX7_edge_13 : decode cX7_edge 13 = .ok (.iconst 0, 1) := by decide +kernel
theorem dX7_edge_14 : decode cX7_edge 14 = .ok (.istore 5, 2) := by decide +kernel
theorem dX7_edge_16 : decode cX7_edge 16 = .ok (.iload 5, 2) := by decide +kernel
theorem dX7_edge_18 : decode cX7_edge 18 = .ok (.bipush 6, 2) := by decide +kernel
theorem dX7_edge_20 : decode cX7_edge 20 = .ok (.if_icmp .ge 88, 3) := by decide +kernel
theorem dX7_edge_23 : decode cX7_edge 23 = .ok (.iconst 0, 1) := by decide +kernel
theorem dX7_edge_24 : decode cX7_edge 24 = .ok (.istore 6, 2) := by decide +kernel
theorem dX7_edge_26 : decode cX7_edge 26 = .ok (.iload 6, 2) := by decide +kernel
theorem dX7_edge_28 : decode cX7_edge 28 = .ok (.aload_n 0, 1) := by decide +kernel
theorem dX7_edge_29 : decode cX7_edge 29 = .ok (.getfield 54, 3) := by decide +kernel
theorem dX7_edge_32 : decode cX7_edge 32 = .ok (.iload 5, 2) := by decide +kernel
theorem dX7_edge_34 : decode cX7_edge 34 = .ok (.iaload, 1) := by decide +kernel
theorem dX7_edge_35 : decode cX7_edge 35 = .ok (.if_icmp .ge 67, 3) := by decide +kernel
theorem dX7_edge_38 : decode cX7_edge 38 = .ok (.iload_n 1, 1) := by decide +kernel
theorem dX7_edge_39 : decode cX7_edge 39 = .ok (.iload 5, 2) := by decide +kernel
theorem dX7_edge_41 : decode cX7_edge 41 = .ok (.ishr, 1) := by decide +kernel
theorem dX7_edge_42 : decode cX7_edge 42 = .ok (.iconst 1, 1) := by decide +kernel
theorem dX7_edge_43 : decode cX7_edge 43 = .ok (.iand, 1) := by decide +kernel
theorem dX7_edge_44 : decode cX7_edge 44 = .ok (.iconst 1, 1) := by decide +kernel
theorem dX7_edge_45 : decode cX7_edge 45 = .ok (.if_icmp .ne 57, 3) := by decide +kernel
theorem dX7_edge_48 : decode cX7_edge 48 = .ok (.aload_n 0, 1) := by decide +kernel
theorem dX7_edge_49 : decode cX7_edge 49 = .ok (.iload 5, 2) := by decide +kernel
theorem dX7_edge_51 : decode cX7_edge 51 = .ok (.iload 6, 2) := by decide +kernel
theorem dX7_edge_53 : decode cX7_edge 53 = .ok (.iload_n 2, 1) := by decide +kernel
theorem dX7_edge_54 : decode cX7_edge 54 = .ok (.invokevirtual 148, 3) := by decide +kernel
theorem dX7_edge_57 : decode cX7_edge 57 = .ok (.istore 7, 2) := by decide +kernel
theorem dX7_edge_59 : decode cX7_edge 59 = .ok (.iload_n 3, 1) := by decide +kernel
theorem dX7_edge_60 : decode cX7_edge 60 = .ok (.ifCond .eq 20, 3) := by decide +kernel
theorem dX7_edge_63 : decode cX7_edge 63 = .ok (.iload 7, 2) := by decide +kernel
theorem dX7_edge_65 : decode cX7_edge 65 = .ok (.iload 4, 2) := by decide +kernel
theorem dX7_edge_67 : decode cX7_edge 67 = .ok (.if_icmp .le 8, 3) := by decide +kernel
theorem dX7_edge_70 : decode cX7_edge 70 = .ok (.iload 7, 2) := by decide +kernel
theorem dX7_edge_72 : decode cX7_edge 72 = .ok (.goto 22, 3) := by decide +kernel
theorem dX7_edge_75 : decode cX7_edge 75 = .ok (.iload 4, 2) := by decide +kernel
theorem dX7_edge_77 : decode cX7_edge 77 = .ok (.goto 17, 3) := by decide +kernel
theorem dX7_edge_80 : decode cX7_edge 80 = .ok (.iload 7, 2) := by decide +kernel
theorem dX7_edge_82 : decode cX7_edge 82 = .ok (.iload 4, 2) := by decide +kernel
theorem dX7_edge_84 : decode cX7_edge 84 = .ok (.if_icmp .ge 8, 3) := by decide +kernel
theorem dX7_edge_87 : decode cX7_edge 87 = .ok (.iload 7, 2) := by decide +kernel
theorem dX7_edge_89 : decode cX7_edge 89 = .ok (.goto 5, 3) := by decide +kernel
theorem dX7_edge_92 : decode cX7_edge 92 = .ok (.iload 4, 2) := by decide +kernel
theorem dX7_edge_94 : decode cX7_edge 94 = .ok (.istore 4, 2) := by decide +kernel
theorem dX7_edge_96 : decode cX7_edge 96 = .ok (.iinc 6 1, 3) := by decide +kernel
theorem dX7_edge_99 : decode cX7_edge 99 = .ok (.goto (-73), 3) := by decide +kernel
theorem dX7_edge_102 : decode cX7_edge 102 = .ok (.iinc 5 1, 3) := by decide +kernel
theorem dX7_edge_105 : decode cX7_edge 105 = .ok (.goto (-89), 3) := by decide +kernel
theorem dX7_edge_108 : decode cX7_edge 108 = .ok (.iload 4, 2) := by decide +kernel
theorem dX7_edge_110 : decode cX7_edge 110 = .ok (.ireturn, 1) := by decide +kernel
theorem dX7_isFree_0 : decode cX7_isFree 0 = .ok (.iconst 0, 1) := by decide +kernel
theorem dX7_isFree_1 : decode cX7_isFree 1 = .ok (.istore_n 3, 1) := by decide +kernel
theorem dX7_isFree_2 : decode cX7_isFree 2 = .ok (.iload_n 3, 1) := by decide +kernel
theorem dX7_isFree_3 : decode cX7_isFree 3 = .ok (.iconst 3, 1) := by decide +kernel
theorem dX7_isFree_4 : decode cX7_isFree 4 = .ok (.if_icmp .ge 53, 3) := by decide +kernel
theorem dX7_isFree_7 : decode cX7_isFree 7 = .ok (.aload_n 0, 1) := by decide +kernel
theorem dX7_isFree_8 : decode cX7_isFree 8 = .ok (.iload_n 2, 1) := by decide +kernel
theorem dX7_isFree_9 : decode cX7_isFree 9 = .ok (.iload_n 3, 1) := by decide +kernel
theorem dX7_isFree_10 : decode cX7_isFree 10 = .ok (.iconst 1, 1) := by decide +kernel
theorem dX7_isFree_11 : decode cX7_isFree 11 = .ok (.invokevirtual 154, 3) := by decide +kernel
theorem dX7_isFree_14 : decode cX7_isFree 14 = .ok (.aload_n 0, 1) := by decide +kernel
theorem dX7_isFree_15 : decode cX7_isFree 15 = .ok (.iload_n 1, 1) := by decide +kernel
theorem dX7_isFree_16 : decode cX7_isFree 16 = .ok (.iload_n 2, 1) := by decide +kernel
theorem dX7_isFree_17 : decode cX7_isFree 17 = .ok (.iconst (-1), 1) := by decide +kernel
theorem dX7_isFree_18 : decode cX7_isFree 18 = .ok (.ixor, 1) := by decide +kernel
theorem dX7_isFree_19 : decode cX7_isFree 19 = .ok (.iand, 1) := by decide +kernel
theorem dX7_isFree_20 : decode cX7_isFree 20 = .ok (.iload_n 3, 1) := by decide +kernel
theorem dX7_isFree_21 : decode cX7_isFree 21 = .ok (.iconst 0, 1) := by decide +kernel
theorem dX7_isFree_22 : decode cX7_isFree 22 = .ok (.invokevirtual 154, 3) := by decide +kernel
theorem dX7_isFree_25 : decode cX7_isFree 25 = .ok (.if_icmp .lt 24, 3) := by decide +kernel
theorem dX7_isFree_28 : decode cX7_isFree 28 = .ok (.aload_n 0, 1) := by decide +kernel
theorem dX7_isFree_29 : decode cX7_isFree 29 = .ok (.iload_n 1, 1) := by decide +kernel
theorem dX7_isFree_30 : decode cX7_isFree 30 = .ok (.iload_n 2, 1) := by decide +kernel
theorem dX7_isFree_31 : decode cX7_isFree 31 = .ok (.iconst (-1), 1) := by decide +kernel
theorem dX7_isFree_32 : decode cX7_isFree 32 = .ok (.ixor, 1) := by decide +kernel
theorem dX7_isFree_33 : decode cX7_isFree 33 = .ok (.iand, 1) := by decide +kernel
theorem dX7_isFree_34 : decode cX7_isFree 34 = .ok (.iload_n 3, 1) := by decide +kernel
theorem dX7_isFree_35 : decode cX7_isFree 35 = .ok (.iconst 1, 1) := by decide +kernel
theorem dX7_isFree_36 : decode cX7_isFree 36 = .ok (.invokevirtual 154, 3) := by decide +kernel
theorem dX7_isFree_39 : decode cX7_isFree 39 = .ok (.aload_n 0, 1) := by decide +kernel
theorem dX7_isFree_40 : decode cX7_isFree 40 = .ok (.iload_n 2, 1) := by decide +kernel
theorem dX7_isFree_41 : decode cX7_isFree 41 = .ok (.iload_n 3, 1) := by decide +kernel
theorem dX7_isFree_42 : decode cX7_isFree 42 = .ok (.iconst 0, 1) := by decide +kernel
theorem dX7_isFree_43 : decode cX7_isFree 43 = .ok (.invokevirtual 154, 3) := by decide +kernel
theorem dX7_isFree_46 : decode cX7_isFree 46 = .ok (.if_icmp .ge 5, 3) := by decide +kernel
theorem dX7_isFree_49 : decode cX7_isFree 49 = .ok (.iconst 1, 1) := by decide +kernel
theorem dX7_isFree_50 : decode cX7_isFree 50 = .ok (.ireturn, 1) := by decide +kernel
theorem dX7_isFree_51 : decode cX7_isFree 51 = .ok (.iinc 3 1, 3) := by decide +kernel
theorem dX7_isFree_54 : decode cX7_isFree 54 = .ok (.goto (-52), 3) := by decide +kernel
theorem dX7_isFree_57 : decode cX7_isFree 57 = .ok (.iconst 0, 1) := by decide +kernel
theorem dX7_isFree_58 : decode cX7_isFree 58 = .ok (.ireturn, 1) := by decide +kernel
theorem dX7_isKnown_0 : decode cX7_isKnown 0 = .ok (.iconst 0, 1) := by decide +kernel
theorem dX7_isKnown_1 : decode cX7_isKnown 1 = .ok (.istore_n 2, 1) := by decide +kernel
theorem dX7_isKnown_2 : decode cX7_isKnown 2 = .ok (.iload_n 1, 1) := by decide +kernel
theorem dX7_isKnown_3 : decode cX7_isKnown 3 = .ok (.iload_n 2, 1) := by decide +kernel
theorem dX7_isKnown_4 : decode cX7_isKnown 4 = .ok (.ishr, 1) := by decide +kernel
theorem dX7_isKnown_5 : decode cX7_isKnown 5 = .ok (.iconst 1, 1) := by decide +kernel
theorem dX7_isKnown_6 : decode cX7_isKnown 6 = .ok (.iand, 1) := by decide +kernel
theorem dX7_isKnown_7 : decode cX7_isKnown 7 = .ok (.ifCond .ne 9, 3) := by decide +kernel
theorem dX7_isKnown_10 : decode cX7_isKnown 10 = .ok (.iinc 2 1, 3) := by decide +kernel
theorem dX7_isKnown_13 : decode cX7_isKnown 13 = .ok (.goto (-11), 3) := by decide +kernel
theorem dX7_isKnown_16 : decode cX7_isKnown 16 = .ok (.iconst 0, 1) := by decide +kernel
theorem dX7_isKnown_17 : decode cX7_isKnown 17 = .ok (.istore_n 3, 1) := by decide +kernel
theorem dX7_isKnown_18 : decode cX7_isKnown 18 = .ok (.iload_n 3, 1) := by decide +kernel
theorem dX7_isKnown_19 : decode cX7_isKnown 19 = .ok (.bipush 18, 2) := by decide +kernel
theorem dX7_isKnown_21 : decode cX7_isKnown 21 = .ok (.if_icmp .ge 49, 3) := by decide +kernel
theorem dX7_isKnown_24 : decode cX7_isKnown 24 = .ok (.aload_n 0, 1) := by decide +kernel
theorem dX7_isKnown_25 : decode cX7_isKnown 25 = .ok (.getfield 72, 3) := by decide +kernel
theorem dX7_isKnown_28 : decode cX7_isKnown 28 = .ok (.iload_n 3, 1) := by decide +kernel
theorem dX7_isKnown_29 : decode cX7_isKnown 29 = .ok (.iload_n 1, 1) := by decide +kernel
theorem dX7_isKnown_30 : decode cX7_isKnown 30 = .ok (.iload_n 3, 1) := by decide +kernel
theorem dX7_isKnown_31 : decode cX7_isKnown 31 = .ok (.iconst 3, 1) := by decide +kernel
theorem dX7_isKnown_32 : decode cX7_isKnown 32 = .ok (.idiv, 1) := by decide +kernel
theorem dX7_isKnown_33 : decode cX7_isKnown 33 = .ok (.ishr, 1) := by decide +kernel
theorem dX7_isKnown_34 : decode cX7_isKnown 34 = .ok (.iconst 1, 1) := by decide +kernel
theorem dX7_isKnown_35 : decode cX7_isKnown 35 = .ok (.iand, 1) := by decide +kernel
theorem dX7_isKnown_36 : decode cX7_isKnown 36 = .ok (.iconst 1, 1) := by decide +kernel
theorem dX7_isKnown_37 : decode cX7_isKnown 37 = .ok (.if_icmp .ne 25, 3) := by decide +kernel
theorem dX7_isKnown_40 : decode cX7_isKnown 40 = .ok (.aload_n 0, 1) := by decide +kernel
theorem dX7_isKnown_41 : decode cX7_isKnown 41 = .ok (.getfield 69, 3) := by decide +kernel
theorem dX7_isKnown_44 : decode cX7_isKnown 44 = .ok (.iload_n 3, 1) := by decide +kernel
theorem dX7_isKnown_45 : decode cX7_isKnown 45 = .ok (.iaload, 1) := by decide +kernel
theorem dX7_isKnown_46 : decode cX7_isKnown 46 = .ok (.aload_n 0, 1) := by decide +kernel
theorem dX7_isKnown_47 : decode cX7_isKnown 47 = .ok (.getfield 69, 3) := by decide +kernel
theorem dX7_isKnown_50 : decode cX7_isKnown 50 = .ok (.iconst 3, 1) := by decide +kernel
theorem dX7_isKnown_51 : decode cX7_isKnown 51 = .ok (.iload_n 2, 1) := by decide +kernel
theorem dX7_isKnown_52 : decode cX7_isKnown 52 = .ok (.imul, 1) := by decide +kernel
theorem dX7_isKnown_53 : decode cX7_isKnown 53 = .ok (.iload_n 3, 1) := by decide +kernel
theorem dX7_isKnown_54 : decode cX7_isKnown 54 = .ok (.iconst 3, 1) := by decide +kernel
theorem dX7_isKnown_55 : decode cX7_isKnown 55 = .ok (.irem, 1) := by decide +kernel
theorem dX7_isKnown_56 : decode cX7_isKnown 56 = .ok (.iadd, 1) := by decide +kernel
theorem dX7_isKnown_57 : decode cX7_isKnown 57 = .ok (.iaload, 1) := by decide +kernel
theorem dX7_isKnown_58 : decode cX7_isKnown 58 = .ok (.isub, 1) := by decide +kernel
theorem dX7_isKnown_59 : decode cX7_isKnown 59 = .ok (.goto 4, 3) := by decide +kernel
theorem dX7_isKnown_62 : decode cX7_isKnown 62 = .ok (.iconst 0, 1) := by decide +kernel
theorem dX7_isKnown_63 : decode cX7_isKnown 63 = .ok (.iastore, 1) := by decide +kernel
theorem dX7_isKnown_64 : decode cX7_isKnown 64 = .ok (.iinc 3 1, 3) := by decide +kernel
theorem dX7_isKnown_67 : decode cX7_isKnown 67 = .ok (.goto (-49), 3) := by decide +kernel
theorem dX7_isKnown_70 : decode cX7_isKnown 70 = .ok (.iconst 0, 1) := by decide +kernel
theorem dX7_isKnown_71 : decode cX7_isKnown 71 = .ok (.istore_n 3, 1) := by decide +kernel
theorem dX7_isKnown_72 : decode cX7_isKnown 72 = .ok (.iload_n 3, 1) := by decide +kernel
theorem dX7_isKnown_73 : decode cX7_isKnown 73 = .ok (.aload_n 0, 1) := by decide +kernel
theorem dX7_isKnown_74 : decode cX7_isKnown 74 = .ok (.getfield 157, 3) := by decide +kernel
theorem dX7_isKnown_77 : decode cX7_isKnown 77 = .ok (.if_icmp .ge 69, 3) := by decide +kernel
theorem dX7_isKnown_80 : decode cX7_isKnown 80 = .ok (.iconst 1, 1) := by decide +kernel
theorem dX7_isKnown_81 : decode cX7_isKnown 81 = .ok (.istore 4, 2) := by decide +kernel
theorem dX7_isKnown_83 : decode cX7_isKnown 83 = .ok (.iconst 0, 1) := by decide +kernel
theorem dX7_isKnown_84 : decode cX7_isKnown 84 = .ok (.istore 5, 2) := by decide +kernel
theorem dX7_isKnown_86 : decode cX7_isKnown 86 = .ok (.iload 5, 2) := by decide +kernel
theorem dX7_isKnown_88 : decode cX7_isKnown 88 = .ok (.bipush 18, 2) := by decide +kernel
theorem dX7_isKnown_90 : decode cX7_isKnown 90 = .ok (.if_icmp .ge 43, 3) := by decide +kernel
theorem dX7_isKnown_93 : decode cX7_isKnown 93 = .ok (.iload 4, 2) := by decide +kernel
theorem dX7_isKnown_95 : decode cX7_isKnown 95 = .ok (.ifCond .eq 38, 3) := by decide +kernel
theorem dX7_isKnown_98 : decode cX7_isKnown 98 = .ok (.aload_n 0, 1) := by decide +kernel
theorem dX7_isKnown_99 : decode cX7_isKnown 99 = .ok (.getfield 60, 3) := by decide +kernel
theorem dX7_isKnown_102 : decode cX7_isKnown 102 = .ok (.iload_n 3, 1) := by decide +kernel
theorem dX7_isKnown_103 : decode cX7_isKnown 103 = .ok (.bipush 18, 2) := by decide +kernel
theorem dX7_isKnown_105 : decode cX7_isKnown 105 = .ok (.imul, 1) := by decide +kernel
theorem dX7_isKnown_106 : decode cX7_isKnown 106 = .ok (.iload 5, 2) := by decide +kernel
theorem dX7_isKnown_108 : decode cX7_isKnown 108 = .ok (.iadd, 1) := by decide +kernel
theorem dX7_isKnown_109 : decode cX7_isKnown 109 = .ok (.iaload, 1) := by decide +kernel
theorem dX7_isKnown_110 : decode cX7_isKnown 110 = .ok (.aload_n 0, 1) := by decide +kernel
theorem dX7_isKnown_111 : decode cX7_isKnown 111 = .ok (.getfield 72, 3) := by decide +kernel
theorem dX7_isKnown_114 : decode cX7_isKnown 114 = .ok (.iload 5, 2) := by decide +kernel
theorem dX7_isKnown_116 : decode cX7_isKnown 116 = .ok (.iaload, 1) := by decide +kernel
theorem dX7_isKnown_117 : decode cX7_isKnown 117 = .ok (.if_icmp .ne 7, 3) := by decide +kernel
theorem dX7_isKnown_120 : decode cX7_isKnown 120 = .ok (.iconst 1, 1) := by decide +kernel
theorem dX7_isKnown_121 : decode cX7_isKnown 121 = .ok (.goto 4, 3) := by decide +kernel
theorem dX7_isKnown_124 : decode cX7_isKnown 124 = .ok (.iconst 0, 1) := by decide +kernel
theorem dX7_isKnown_125 : decode cX7_isKnown 125 = .ok (.istore 4, 2) := by decide +kernel
theorem dX7_isKnown_127 : decode cX7_isKnown 127 = .ok (.iinc 5 1, 3) := by decide +kernel
theorem dX7_isKnown_130 : decode cX7_isKnown 130 = .ok (.goto (-44), 3) := by decide +kernel
theorem dX7_isKnown_133 : decode cX7_isKnown 133 = .ok (.iload 4, 2) := by decide +kernel
theorem dX7_isKnown_135 : decode cX7_isKnown 135 = .ok (.ifCond .eq 5, 3) := by decide +kernel
theorem dX7_isKnown_138 : decode cX7_isKnown 138 = .ok (.iconst 1, 1) := by decide +kernel
theorem dX7_isKnown_139 : decode cX7_isKnown 139 = .ok (.ireturn, 1) := by decide +kernel
theorem dX7_isKnown_140 : decode cX7_isKnown 140 = .ok (.iinc 3 1, 3) := by decide +kernel
theorem dX7_isKnown_143 : decode cX7_isKnown 143 = .ok (.goto (-71), 3) := by decide +kernel
theorem dX7_isKnown_146 : decode cX7_isKnown 146 = .ok (.iconst 0, 1) := by decide +kernel
theorem dX7_isKnown_147 : decode cX7_isKnown 147 = .ok (.ireturn, 1) := by decide +kernel
theorem dX7_plan_0 : decode cX7_plan 0 = .ok (.iload_n 1, 1) := by decide +kernel
theorem dX7_plan_1 : decode cX7_plan 1 = .ok (.iconst 0, 1) := by decide +kernel
theorem dX7_plan_2 : decode cX7_plan 2 = .ok (.bipush 63, 2) := by decide +kernel
theorem dX7_plan_4 : decode cX7_plan 4 = .ok (.invokestatic 88, 3) := by decide +kernel
theorem dX7_plan_7 : decode cX7_plan 7 = .ok (.ifCond .eq 18, 3) := by decide +kernel
theorem dX7_plan_10 : decode cX7_plan 10 = .ok (.iload_n 2, 1) := by decide +kernel
theorem dX7_plan_11 : decode cX7_plan 11 = .ok (.iconst 1, 1) := by decide +kernel
theorem dX7_plan_12 : decode cX7_plan 12 = .ok (.sipush 300, 3) := by decide +kernel
theorem dX7_plan_15 : decode cX7_plan 15 = .ok (.invokestatic 88, 3) := by decide +kernel
theorem dX7_plan_18 : decode cX7_plan 18 = .ok (.ifCond .eq 7, 3) := by decide +kernel
theorem dX7_plan_21 : decode cX7_plan 21 = .ok (.iconst 1, 1) := by decide +kernel
theorem dX7_plan_22 : decode cX7_plan 22 = .ok (.goto 4, 3) := by decide +kernel
theorem dX7_plan_25 : decode cX7_plan 25 = .ok (.iconst 0, 1) := by decide +kernel
theorem dX7_plan_26 : decode cX7_plan 26 = .ok (.istore_n 3, 1) := by decide +kernel
theorem dX7_plan_27 : decode cX7_plan 27 = .ok (.iconst 0, 1) := by decide +kernel
theorem dX7_plan_28 : decode cX7_plan 28 = .ok (.istore 4, 2) := by decide +kernel
theorem dX7_plan_30 : decode cX7_plan 30 = .ok (.iconst 0, 1) := by decide +kernel
theorem dX7_plan_31 : decode cX7_plan 31 = .ok (.istore 5, 2) := by decide +kernel
theorem dX7_plan_33 : decode cX7_plan 33 = .ok (.iload 5, 2) := by decide +kernel
theorem dX7_plan_35 : decode cX7_plan 35 = .ok (.bipush 6, 2) := by decide +kernel
theorem dX7_plan_37 : decode cX7_plan 37 = .ok (.if_icmp .ge 46, 3) := by decide +kernel
theorem dX7_plan_40 : decode cX7_plan 40 = .ok (.iload_n 3, 1) := by decide +kernel
theorem dX7_plan_41 : decode cX7_plan 41 = .ok (.ifCond .eq 42, 3) := by decide +kernel
theorem dX7_plan_44 : decode cX7_plan 44 = .ok (.iload_n 1, 1) := by decide +kernel
theorem dX7_plan_45 : decode cX7_plan 45 = .ok (.iload 5, 2) := by decide +kernel
theorem dX7_plan_47 : decode cX7_plan 47 = .ok (.ishr, 1) := by decide +kernel
theorem dX7_plan_48 : decode cX7_plan 48 = .ok (.iconst 1, 1) := by decide +kernel
theorem dX7_plan_49 : decode cX7_plan 49 = .ok (.iand, 1) := by decide +kernel
theorem dX7_plan_50 : decode cX7_plan 50 = .ok (.ifCond .ne 6, 3) := by decide +kernel
theorem dX7_plan_53 : decode cX7_plan 53 = .ok (.goto 24, 3) := by decide +kernel
theorem dX7_plan_56 : decode cX7_plan 56 = .ok (.iinc 4 1, 3) := by decide +kernel
theorem dX7_plan_59 : decode cX7_plan 59 = .ok (.aload_n 0, 1) := by decide +kernel
theorem dX7_plan_60 : decode cX7_plan 60 = .ok (.getfield 33, 3) := by decide +kernel
theorem dX7_plan_63 : decode cX7_plan 63 = .ok (.iload 5, 2) := by decide +kernel
theorem dX7_plan_65 : decode cX7_plan 65 = .ok (.laload, 1) := by decide +kernel
theorem dX7_plan_66 : decode cX7_plan 66 = .ok (.lconst 0, 1) := by decide +kernel
theorem dX7_plan_67 : decode cX7_plan 67 = .ok (.lcmp, 1) := by decide +kernel
theorem dX7_plan_68 : decode cX7_plan 68 = .ok (.ifCond .eq 7, 3) := by decide +kernel
theorem dX7_plan_71 : decode cX7_plan 71 = .ok (.iconst 1, 1) := by decide +kernel
theorem dX7_plan_72 : decode cX7_plan 72 = .ok (.goto 4, 3) := by decide +kernel
theorem dX7_plan_75 : decode cX7_plan 75 = .ok (.iconst 0, 1) := by decide +kernel
theorem dX7_plan_76 : decode cX7_plan 76 = .ok (.istore_n 3, 1) := by decide +kernel
theorem dX7_plan_77 : decode cX7_plan 77 = .ok (.iinc 5 1, 3) := by decide +kernel
theorem dX7_plan_80 : decode cX7_plan 80 = .ok (.goto (-47), 3) := by decide +kernel
theorem dX7_plan_83 : decode cX7_plan 83 = .ok (.aload_n 0, 1) := by decide +kernel
theorem dX7_plan_84 : decode cX7_plan 84 = .ok (.iload_n 3, 1) := by decide +kernel
theorem dX7_plan_85 : decode cX7_plan 85 = .ok (.ifCond .eq 13, 3) := by decide +kernel
theorem dX7_plan_88 : decode cX7_plan 88 = .ok (.iload 4, 2) := by decide +kernel
theorem dX7_plan_90 : decode cX7_plan 90 = .ok (.iconst 1, 1) := by decide +kernel
theorem dX7_plan_91 : decode cX7_plan 91 = .ok (.if_icmp .le 7, 3) := by decide +kernel
theorem dX7_plan_94 : decode cX7_plan 94 = .ok (.iconst 1, 1) := by decide +kernel
theorem dX7_plan_95 : decode cX7_plan 95 = .ok (.goto 4, 3) := by decide +kernel
theorem dX7_plan_98 : decode cX7_plan 98 = .ok (.iconst 0, 1) := by decide +kernel
theorem dX7_plan_99 : decode cX7_plan 99 = .ok (.invokevirtual 96, 3) := by decide +kernel
theorem dX7_plan_102 : decode cX7_plan 102 = .ok (.ifCond .ne 5, 3) := by decide +kernel
theorem dX7_plan_105 : decode cX7_plan 105 = .ok (.iconst 0, 1) := by decide +kernel
theorem dX7_plan_106 : decode cX7_plan 106 = .ok (.ireturn, 1) := by decide +kernel
theorem dX7_plan_107 : decode cX7_plan 107 = .ok (.iconst 0, 1) := by decide +kernel
theorem dX7_plan_108 : decode cX7_plan 108 = .ok (.istore 5, 2) := by decide +kernel
theorem dX7_plan_110 : decode cX7_plan 110 = .ok (.iload 5, 2) := by decide +kernel
theorem dX7_plan_112 : decode cX7_plan 112 = .ok (.bipush 6, 2) := by decide +kernel
theorem dX7_plan_114 : decode cX7_plan 114 = .ok (.if_icmp .ge 119, 3) := by decide +kernel
theorem dX7_plan_117 : decode cX7_plan 117 = .ok (.aload_n 0, 1) := by decide +kernel
theorem dX7_plan_118 : decode cX7_plan 118 = .ok (.getfield 54, 3) := by decide +kernel
theorem dX7_plan_121 : decode cX7_plan 121 = .ok (.iload 5, 2) := by decide +kernel
theorem dX7_plan_123 : decode cX7_plan 123 = .ok (.iconst 0, 1) := by decide +kernel
theorem dX7_plan_124 : decode cX7_plan 124 = .ok (.iastore, 1) := by decide +kernel
theorem dX7_plan_125 : decode cX7_plan 125 = .ok (.iconst 0, 1) := by decide +kernel
theorem dX7_plan_126 : decode cX7_plan 126 = .ok (.istore 6, 2) := by decide +kernel
theorem dX7_plan_128 : decode cX7_plan 128 = .ok (.iload 6, 2) := by decide +kernel
theorem dX7_plan_130 : decode cX7_plan 130 = .ok (.bipush 64, 2) := by decide +kernel
theorem dX7_plan_132 : decode cX7_plan 132 = .ok (.if_icmp .ge 95, 3) := by decide +kernel
theorem dX7_plan_135 : decode cX7_plan 135 = .ok (.aload_n 0, 1) := by decide +kernel
theorem dX7_plan_136 : decode cX7_plan 136 = .ok (.getfield 33, 3) := by decide +kernel
theorem dX7_plan_139 : decode cX7_plan 139 = .ok (.iload 5, 2) := by decide +kernel
theorem dX7_plan_141 : decode cX7_plan 141 = .ok (.laload, 1) := by decide +kernel
theorem dX7_plan_142 : decode cX7_plan 142 = .ok (.iload 6, 2) := by decide +kernel
theorem dX7_plan_144 : decode cX7_plan 144 = .ok (.invokestatic 82, 3) := by decide +kernel
theorem dX7_plan_147 : decode cX7_plan 147 = .ok (.ifCond .ne 6, 3) := by decide +kernel
theorem dX7_plan_150 : decode cX7_plan 150 = .ok (.goto 71, 3) := by decide +kernel
theorem dX7_plan_153 : decode cX7_plan 153 = .ok (.iload 5, 2) := by decide +kernel
theorem dX7_plan_155 : decode cX7_plan 155 = .ok (.bipush 10, 2) := by decide +kernel
theorem dX7_plan_157 : decode cX7_plan 157 = .ok (.imul, 1) := by decide +kernel
theorem dX7_plan_158 : decode cX7_plan 158 = .ok (.aload_n 0, 1) := by decide +kernel
theorem dX7_plan_159 : decode cX7_plan 159 = .ok (.getfield 54, 3) := by decide +kernel
theorem dX7_plan_162 : decode cX7_plan 162 = .ok (.iload 5, 2) := by decide +kernel
theorem dX7_plan_164 : decode cX7_plan 164 = .ok (.iaload, 1) := by decide +kernel
theorem dX7_plan_165 : decode cX7_plan 165 = .ok (.iadd, 1) := by decide +kernel
theorem dX7_plan_166 : decode cX7_plan 166 = .ok (.iconst 3, 1) := by decide +kernel
theorem dX7_plan_167 : decode cX7_plan 167 = .ok (.imul, 1) := by decide +kernel
theorem dX7_plan_168 : decode cX7_plan 168 = .ok (.istore 7, 2) := by decide +kernel
theorem dX7_plan_170 : decode cX7_plan 170 = .ok (.aload_n 0, 1) := by decide +kernel
theorem dX7_plan_171 : decode cX7_plan 171 = .ok (.getfield 57, 3) := by decide +kernel
theorem dX7_plan_174 : decode cX7_plan 174 = .ok (.iload 7, 2) := by decide +kernel
theorem dX7_plan_176 : decode cX7_plan 176 = .ok (.iload 6, 2) := by decide +kernel
theorem dX7_plan_178 : decode cX7_plan 178 = .ok (.iconst 4, 1) := by decide +kernel
theorem dX7_plan_179 : decode cX7_plan 179 = .ok (.irem, 1) := by decide +kernel
theorem dX7_plan_180 : decode cX7_plan 180 = .ok (.iastore, 1) := by decide +kernel
theorem dX7_plan_181 : decode cX7_plan 181 = .ok (.aload_n 0, 1) := by decide +kernel
theorem dX7_plan_182 : decode cX7_plan 182 = .ok (.getfield 57, 3) := by decide +kernel
theorem dX7_plan_185 : decode cX7_plan 185 = .ok (.iload 7, 2) := by decide +kernel
theorem dX7_plan_187 : decode cX7_plan 187 = .ok (.iconst 1, 1) := by decide +kernel
theorem dX7_plan_188 : decode cX7_plan 188 = .ok (.iadd, 1) := by decide +kernel
theorem dX7_plan_189 : decode cX7_plan 189 = .ok (.iload 6, 2) := by decide +kernel
theorem dX7_plan_191 : decode cX7_plan 191 = .ok (.iconst 4, 1) := by decide +kernel
theorem dX7_plan_192 : decode cX7_plan 192 = .ok (.idiv, 1) := by decide +kernel
theorem dX7_plan_193 : decode cX7_plan 193 = .ok (.iconst 4, 1) := by decide +kernel
theorem dX7_plan_194 : decode cX7_plan 194 = .ok (.irem, 1) := by decide +kernel
theorem dX7_plan_195 : decode cX7_plan 195 = .ok (.iastore, 1) := by decide +kernel
theorem dX7_plan_196 : decode cX7_plan 196 = .ok (.aload_n 0, 1) := by decide +kernel
theorem dX7_plan_197 : decode cX7_plan 197 = .ok (.getfield 57, 3) := by decide +kernel
theorem dX7_plan_200 : decode cX7_plan 200 = .ok (.iload 7, 2) := by decide +kernel
theorem dX7_plan_202 : decode cX7_plan 202 = .ok (.iconst 2, 1) := by decide +kernel
theorem dX7_plan_203 : decode cX7_plan 203 = .ok (.iadd, 1) := by decide +kernel
theorem dX7_plan_204 : decode cX7_plan 204 = .ok (.iload 6, 2) := by decide +kernel
theorem dX7_plan_206 : decode cX7_plan 206 = .ok (.bipush 16, 2) := by decide +kernel
theorem dX7_plan_208 : decode cX7_plan 208 = .ok (.idiv, 1) := by decide +kernel
theorem dX7_plan_209 : decode cX7_plan 209 = .ok (.iastore, 1) := by decide +kernel
theorem dX7_plan_210 : decode cX7_plan 210 = .ok (.aload_n 0, 1) := by decide +kernel
theorem dX7_plan_211 : decode cX7_plan 211 = .ok (.getfield 54, 3) := by decide +kernel
theorem dX7_plan_214 : decode cX7_plan 214 = .ok (.iload 5, 2) := by decide +kernel
theorem dX7_plan_216 : decode cX7_plan 216 = .ok (.dup2, 1) := by decide +kernel
theorem dX7_plan_217 : decode cX7_plan 217 = .ok (.iaload, 1) := by decide +kernel
theorem dX7_plan_218 : decode cX7_plan 218 = .ok (.iconst 1, 1) := by decide +kernel
theorem dX7_plan_219 : decode cX7_plan 219 = .ok (.iadd, 1) := by decide +kernel
theorem dX7_plan_220 : decode cX7_plan 220 = .ok (.iastore, 1) := by decide +kernel
theorem dX7_plan_221 : decode cX7_plan 221 = .ok (.iinc 6 1, 3) := by decide +kernel
theorem dX7_plan_224 : decode cX7_plan 224 = .ok (.goto (-96), 3) := by decide +kernel
theorem dX7_plan_227 : decode cX7_plan 227 = .ok (.iinc 5 1, 3) := by decide +kernel
theorem dX7_plan_230 : decode cX7_plan 230 = .ok (.goto (-120), 3) := by decide +kernel
theorem dX7_plan_233 : decode cX7_plan 233 = .ok (.aload_n 0, 1) := by decide +kernel
theorem dX7_plan_234 : decode cX7_plan 234 = .ok (.iconst 0, 1) := by decide +kernel
theorem dX7_plan_235 : decode cX7_plan 235 = .ok (.putfield 160, 3) := by decide +kernel
theorem dX7_plan_238 : decode cX7_plan 238 = .ok (.aload_n 0, 1) := by decide +kernel
theorem dX7_plan_239 : decode cX7_plan 239 = .ok (.iconst 1, 1) := by decide +kernel
theorem dX7_plan_240 : decode cX7_plan 240 = .ok (.putfield 157, 3) := by decide +kernel
theorem dX7_plan_243 : decode cX7_plan 243 = .ok (.iconst 0, 1) := by decide +kernel
theorem dX7_plan_244 : decode cX7_plan 244 = .ok (.istore 5, 2) := by decide +kernel
theorem dX7_plan_246 : decode cX7_plan 246 = .ok (.iload 5, 2) := by decide +kernel
theorem dX7_plan_248 : decode cX7_plan 248 = .ok (.bipush 18, 2) := by decide +kernel
theorem dX7_plan_250 : decode cX7_plan 250 = .ok (.if_icmp .ge 17, 3) := by decide +kernel
theorem dX7_plan_253 : decode cX7_plan 253 = .ok (.aload_n 0, 1) := by decide +kernel
theorem dX7_plan_254 : decode cX7_plan 254 = .ok (.getfield 60, 3) := by decide +kernel
theorem dX7_plan_257 : decode cX7_plan 257 = .ok (.iload 5, 2) := by decide +kernel
theorem dX7_plan_259 : decode cX7_plan 259 = .ok (.iconst 0, 1) := by decide +kernel
theorem dX7_plan_260 : decode cX7_plan 260 = .ok (.iastore, 1) := by decide +kernel
theorem dX7_plan_261 : decode cX7_plan 261 = .ok (.iinc 5 1, 3) := by decide +kernel
theorem dX7_plan_264 : decode cX7_plan 264 = .ok (.goto (-18), 3) := by decide +kernel
theorem dX7_plan_267 : decode cX7_plan 267 = .ok (.aload_n 0, 1) := by decide +kernel
theorem dX7_plan_268 : decode cX7_plan 268 = .ok (.getfield 63, 3) := by decide +kernel
theorem dX7_plan_271 : decode cX7_plan 271 = .ok (.iconst 0, 1) := by decide +kernel
theorem dX7_plan_272 : decode cX7_plan 272 = .ok (.iconst (-1), 1) := by decide +kernel
theorem dX7_plan_273 : decode cX7_plan 273 = .ok (.iastore, 1) := by decide +kernel
theorem dX7_plan_274 : decode cX7_plan 274 = .ok (.iconst 0, 1) := by decide +kernel
theorem dX7_plan_275 : decode cX7_plan 275 = .ok (.istore 5, 2) := by decide +kernel
theorem dX7_plan_277 : decode cX7_plan 277 = .ok (.iload 5, 2) := by decide +kernel
theorem dX7_plan_279 : decode cX7_plan 279 = .ok (.aload_n 0, 1) := by decide +kernel
theorem dX7_plan_280 : decode cX7_plan 280 = .ok (.getfield 157, 3) := by decide +kernel
theorem dX7_plan_283 : decode cX7_plan 283 = .ok (.if_icmp .ge 74, 3) := by decide +kernel
theorem dX7_plan_286 : decode cX7_plan 286 = .ok (.iconst 1, 1) := by decide +kernel
theorem dX7_plan_287 : decode cX7_plan 287 = .ok (.istore 6, 2) := by decide +kernel
theorem dX7_plan_289 : decode cX7_plan 289 = .ok (.iload 6, 2) := by decide +kernel
theorem dX7_plan_291 : decode cX7_plan 291 = .ok (.iload_n 1, 1) := by decide +kernel
theorem dX7_plan_292 : decode cX7_plan 292 = .ok (.if_icmp .ge 59, 3) := by decide +kernel
theorem dX7_plan_295 : decode cX7_plan 295 = .ok (.iload 6, 2) := by decide +kernel
theorem dX7_plan_297 : decode cX7_plan 297 = .ok (.iload_n 1, 1) := by decide +kernel
theorem dX7_plan_298 : decode cX7_plan 298 = .ok (.iconst (-1), 1) := by decide +kernel
theorem dX7_plan_299 : decode cX7_plan 299 = .ok (.ixor, 1) := by decide +kernel
theorem dX7_plan_300 : decode cX7_plan 300 = .ok (.iand, 1) := by decide +kernel
theorem dX7_plan_301 : decode cX7_plan 301 = .ok (.ifCond .eq 6, 3) := by decide +kernel
theorem dX7_plan_304 : decode cX7_plan 304 = .ok (.goto 41, 3) := by decide +kernel
theorem dX7_plan_307 : decode cX7_plan 307 = .ok (.iconst 0, 1) := by decide +kernel
theorem dX7_plan_308 : decode cX7_plan 308 = .ok (.istore 7, 2) := by decide +kernel
theorem dX7_plan_310 : decode cX7_plan 310 = .ok (.iload 7, 2) := by decide +kernel
theorem dX7_plan_312 : decode cX7_plan 312 = .ok (.bipush 6, 2) := by decide +kernel
theorem dX7_plan_314 : decode cX7_plan 314 = .ok (.if_icmp .ge 31, 3) := by decide +kernel
theorem dX7_plan_317 : decode cX7_plan 317 = .ok (.aload_n 0, 1) := by decide +kernel
theorem dX7_plan_318 : decode cX7_plan 318 = .ok (.iload_n 1, 1) := by decide +kernel
theorem dX7_plan_319 : decode cX7_plan 319 = .ok (.iload_n 2, 1) := by decide +kernel
theorem dX7_plan_320 : decode cX7_plan 320 = .ok (.iload 5, 2) := by decide +kernel
theorem dX7_plan_322 : decode cX7_plan 322 = .ok (.iload 6, 2) := by decide +kernel
theorem dX7_plan_324 : decode cX7_plan 324 = .ok (.iload 7, 2) := by decide +kernel
theorem dX7_plan_326 : decode cX7_plan 326 = .ok (.invokevirtual 163, 3) := by decide +kernel
theorem dX7_plan_329 : decode cX7_plan 329 = .ok (.istore 8, 2) := by decide +kernel
theorem dX7_plan_331 : decode cX7_plan 331 = .ok (.iload 8, 2) := by decide +kernel
theorem dX7_plan_333 : decode cX7_plan 333 = .ok (.ifCond .eq 6, 3) := by decide +kernel
theorem dX7_plan_336 : decode cX7_plan 336 = .ok (.iload 8, 2) := by decide +kernel
theorem dX7_plan_338 : decode cX7_plan 338 = .ok (.ireturn, 1) := by decide +kernel
theorem dX7_plan_339 : decode cX7_plan 339 = .ok (.iinc 7 1, 3) := by decide +kernel
theorem dX7_plan_342 : decode cX7_plan 342 = .ok (.goto (-32), 3) := by decide +kernel
theorem dX7_plan_345 : decode cX7_plan 345 = .ok (.iinc 6 1, 3) := by decide +kernel
theorem dX7_plan_348 : decode cX7_plan 348 = .ok (.goto (-59), 3) := by decide +kernel
theorem dX7_plan_351 : decode cX7_plan 351 = .ok (.iinc 5 1, 3) := by decide +kernel
theorem dX7_plan_354 : decode cX7_plan 354 = .ok (.goto (-77), 3) := by decide +kernel
theorem dX7_plan_357 : decode cX7_plan 357 = .ok (.iconst (-1), 1) := by decide +kernel
theorem dX7_plan_358 : decode cX7_plan 358 = .ok (.ireturn, 1) := by decide +kernel
theorem dX7_run_0 : decode cX7_run 0 = .ok (.iconst 0, 1) := by decide +kernel
theorem dX7_run_1 : decode cX7_run 1 = .ok (.istore 6, 2) := by decide +kernel
theorem dX7_run_3 : decode cX7_run 3 = .ok (.iload 6, 2) := by decide +kernel
theorem dX7_run_5 : decode cX7_run 5 = .ok (.bipush 18, 2) := by decide +kernel
theorem dX7_run_7 : decode cX7_run 7 = .ok (.if_icmp .ge 28, 3) := by decide +kernel
theorem dX7_run_10 : decode cX7_run 10 = .ok (.aload_n 0, 1) := by decide +kernel
theorem dX7_run_11 : decode cX7_run 11 = .ok (.getfield 69, 3) := by decide +kernel
theorem dX7_run_14 : decode cX7_run 14 = .ok (.iload 6, 2) := by decide +kernel
theorem dX7_run_16 : decode cX7_run 16 = .ok (.aload_n 0, 1) := by decide +kernel
theorem dX7_run_17 : decode cX7_run 17 = .ok (.getfield 60, 3) := by decide +kernel
theorem dX7_run_20 : decode cX7_run 20 = .ok (.iload_n 3, 1) := by decide +kernel
theorem dX7_run_21 : decode cX7_run 21 = .ok (.bipush 18, 2) := by decide +kernel
theorem dX7_run_23 : decode cX7_run 23 = .ok (.imul, 1) := by decide +kernel
theorem dX7_run_24 : decode cX7_run 24 = .ok (.iload 6, 2) := by decide +kernel
theorem dX7_run_26 : decode cX7_run 26 = .ok (.iadd, 1) := by decide +kernel
theorem dX7_run_27 : decode cX7_run 27 = .ok (.iaload, 1) := by decide +kernel
theorem dX7_run_28 : decode cX7_run 28 = .ok (.iastore, 1) := by decide +kernel
theorem dX7_run_29 : decode cX7_run 29 = .ok (.iinc 6 1, 3) := by decide +kernel
theorem dX7_run_32 : decode cX7_run 32 = .ok (.goto (-29), 3) := by decide +kernel
theorem dX7_run_35 : decode cX7_run 35 = .ok (.iconst 0, 1) := by decide +kernel
theorem dX7_run_36 : decode cX7_run 36 = .ok (.istore 6, 2) := by decide +kernel
theorem dX7_run_38 : decode cX7_run 38 = .ok (.iinc 6 1, 3) := by decide +kernel
theorem dX7_run_41 : decode cX7_run 41 = .ok (.iconst 0, 1) := by decide +kernel
theorem dX7_run_42 : decode cX7_run 42 = .ok (.istore 7, 2) := by decide +kernel
theorem dX7_run_44 : decode cX7_run 44 = .ok (.iload 7, 2) := by decide +kernel
theorem dX7_run_46 : decode cX7_run 46 = .ok (.bipush 6, 2) := by decide +kernel
theorem dX7_run_48 : decode cX7_run 48 = .ok (.if_icmp .ge 61, 3) := by decide +kernel
theorem dX7_run_51 : decode cX7_run 51 = .ok (.iload 4, 2) := by decide +kernel
theorem dX7_run_53 : decode cX7_run 53 = .ok (.iload 7, 2) := by decide +kernel
theorem dX7_run_55 : decode cX7_run 55 = .ok (.ishr, 1) := by decide +kernel
theorem dX7_run_56 : decode cX7_run 56 = .ok (.iconst 1, 1) := by decide +kernel
theorem dX7_run_57 : decode cX7_run 57 = .ok (.iand, 1) := by decide +kernel
theorem dX7_run_58 : decode cX7_run 58 = .ok (.iconst 1, 1) := by decide +kernel
theorem dX7_run_59 : decode cX7_run 59 = .ok (.if_icmp .ne 44, 3) := by decide +kernel
theorem dX7_run_62 : decode cX7_run 62 = .ok (.aload_n 0, 1) := by decide +kernel
theorem dX7_run_63 : decode cX7_run 63 = .ok (.getfield 69, 3) := by decide +kernel
theorem dX7_run_66 : decode cX7_run 66 = .ok (.iconst 3, 1) := by decide +kernel
theorem dX7_run_67 : decode cX7_run 67 = .ok (.iload 7, 2) := by decide +kernel
theorem dX7_run_69 : decode cX7_run 69 = .ok (.imul, 1) := by decide +kernel
theorem dX7_run_70 : decode cX7_run 70 = .ok (.iload 5, 2) := by decide +kernel
theorem dX7_run_72 : decode cX7_run 72 = .ok (.iconst 2, 1) := by decide +kernel
theorem dX7_run_73 : decode cX7_run 73 = .ok (.idiv, 1) := by decide +kernel
theorem dX7_run_74 : decode cX7_run 74 = .ok (.iadd, 1) := by decide +kernel
theorem dX7_run_75 : decode cX7_run 75 = .ok (.aload_n 0, 1) := by decide +kernel
theorem dX7_run_76 : decode cX7_run 76 = .ok (.getfield 69, 3) := by decide +kernel
theorem dX7_run_79 : decode cX7_run 79 = .ok (.iconst 3, 1) := by decide +kernel
theorem dX7_run_80 : decode cX7_run 80 = .ok (.iload 7, 2) := by decide +kernel
theorem dX7_run_82 : decode cX7_run 82 = .ok (.imul, 1) := by decide +kernel
theorem dX7_run_83 : decode cX7_run 83 = .ok (.iload 5, 2) := by decide +kernel
theorem dX7_run_85 : decode cX7_run 85 = .ok (.iconst 2, 1) := by decide +kernel
theorem dX7_run_86 : decode cX7_run 86 = .ok (.idiv, 1) := by decide +kernel
theorem dX7_run_87 : decode cX7_run 87 = .ok (.iadd, 1) := by decide +kernel
theorem dX7_run_88 : decode cX7_run 88 = .ok (.iaload, 1) := by decide +kernel
theorem dX7_run_89 : decode cX7_run 89 = .ok (.iload 5, 2) := by decide +kernel
theorem dX7_run_91 : decode cX7_run 91 = .ok (.iconst 2, 1) := by decide +kernel
theorem dX7_run_92 : decode cX7_run 92 = .ok (.irem, 1) := by decide +kernel
theorem dX7_run_93 : decode cX7_run 93 = .ok (.ifCond .ne 7, 3) := by decide +kernel
theorem dX7_run_96 : decode cX7_run 96 = .ok (.iconst 1, 1) := by decide +kernel
theorem dX7_run_97 : decode cX7_run 97 = .ok (.goto 4, 3) := by decide +kernel
theorem dX7_run_100 : decode cX7_run 100 = .ok (.iconst (-1), 1) := by decide +kernel
theorem dX7_run_101 : decode cX7_run 101 = .ok (.iadd, 1) := by decide +kernel
theorem dX7_run_102 : decode cX7_run 102 = .ok (.iastore, 1) := by decide +kernel
theorem dX7_run_103 : decode cX7_run 103 = .ok (.iinc 7 1, 3) := by decide +kernel
theorem dX7_run_106 : decode cX7_run 106 = .ok (.goto (-62), 3) := by decide +kernel
theorem dX7_run_109 : decode cX7_run 109 = .ok (.aload_n 0, 1) := by decide +kernel
theorem dX7_run_110 : decode cX7_run 110 = .ok (.iload_n 1, 1) := by decide +kernel
theorem dX7_run_111 : decode cX7_run 111 = .ok (.iload 4, 2) := by decide +kernel
theorem dX7_run_113 : decode cX7_run 113 = .ok (.invokevirtual 167, 3) := by decide +kernel
theorem dX7_run_116 : decode cX7_run 116 = .ok (.ifCond .eq 5, 3) := by decide +kernel
theorem dX7_run_119 : decode cX7_run 119 = .ok (.iconst 0, 1) := by decide +kernel
theorem dX7_run_120 : decode cX7_run 120 = .ok (.ireturn, 1) := by decide +kernel
theorem dX7_run_121 : decode cX7_run 121 = .ok (.sipush 1000, 3) := by decide +kernel
theorem dX7_run_124 : decode cX7_run 124 = .ok (.iload 4, 2) := by decide +kernel
