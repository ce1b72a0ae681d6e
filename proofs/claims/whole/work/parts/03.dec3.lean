theorem dX8_halls_267 : decode cX8_halls 267 = .ok (.iload_n 2, 1) := by decide +kernel
theorem dX8_halls_268 : decode cX8_halls 268 = .ok (.iaload, 1) := by decide +kernel
theorem dX8_halls_269 : decode cX8_halls 269 = .ok (.istore 4, 2) := by decide +kernel
theorem dX8_halls_271 : decode cX8_halls 271 = .ok (.iload 4, 2) := by decide +kernel
theorem dX8_halls_273 : decode cX8_halls 273 = .ok (.ldc_w 283, 3) := by decide +kernel
theorem dX8_halls_276 : decode cX8_halls 276 = .ok (.if_icmp .lt 6, 3) := by decide +kernel
theorem dX8_halls_279 : decode cX8_halls 279 = .ok (.bipush (-9), 2) := by decide +kernel
theorem dX8_halls_281 : decode cX8_halls 281 = .ok (.ireturn, 1) := by decide +kernel
theorem dX8_halls_282 : decode cX8_halls 282 = .ok (.aload_n 0, 1) := by decide +kernel
theorem dX8_halls_283 : decode cX8_halls 283 = .ok (.getfield 13, 3) := by decide +kernel
theorem dX8_halls_286 : decode cX8_halls 286 = .ok (.iload_n 3, 1) := by decide +kernel
theorem dX8_halls_287 : decode cX8_halls 287 = .ok (.iconst 4, 1) := by decide +kernel
theorem dX8_halls_288 : decode cX8_halls 288 = .ok (.iastore, 1) := by decide +kernel
theorem dX8_halls_289 : decode cX8_halls 289 = .ok (.iconst 0, 1) := by decide +kernel
theorem dX8_halls_290 : decode cX8_halls 290 = .ok (.istore 5, 2) := by decide +kernel
theorem dX8_halls_292 : decode cX8_halls 292 = .ok (.iload 5, 2) := by decide +kernel
theorem dX8_halls_294 : decode cX8_halls 294 = .ok (.bipush 60, 2) := by decide +kernel
theorem dX8_halls_296 : decode cX8_halls 296 = .ok (.if_icmp .ge 22, 3) := by decide +kernel
theorem dX8_halls_299 : decode cX8_halls 299 = .ok (.aload_n 0, 1) := by decide +kernel
theorem dX8_halls_300 : decode cX8_halls 300 = .ok (.getfield 16, 3) := by decide +kernel
theorem dX8_halls_303 : decode cX8_halls 303 = .ok (.bipush 60, 2) := by decide +kernel
theorem dX8_halls_305 : decode cX8_halls 305 = .ok (.iload_n 3, 1) := by decide +kernel
theorem dX8_halls_306 : decode cX8_halls 306 = .ok (.imul, 1) := by decide +kernel
theorem dX8_halls_307 : decode cX8_halls 307 = .ok (.iload 5, 2) := by decide +kernel
theorem dX8_halls_309 : decode cX8_halls 309 = .ok (.iadd, 1) := by decide +kernel
theorem dX8_halls_310 : decode cX8_halls 310 = .ok (.iconst 0, 1) := by decide +kernel
theorem dX8_halls_311 : decode cX8_halls 311 = .ok (.iastore, 1) := by decide +kernel
theorem dX8_halls_312 : decode cX8_halls 312 = .ok (.iinc 5 1, 3) := by decide +kernel
theorem dX8_halls_315 : decode cX8_halls 315 = .ok (.goto (-23), 3) := by decide +kernel
theorem dX8_halls_318 : decode cX8_halls 318 = .ok (.iload_n 2, 1) := by decide +kernel
theorem dX8_halls_319 : decode cX8_halls 319 = .ok (.istore 5, 2) := by decide +kernel
theorem dX8_halls_321 : decode cX8_halls 321 = .ok (.iload 4, 2) := by decide +kernel
theorem dX8_halls_323 : decode cX8_halls 323 = .ok (.istore 6, 2) := by decide +kernel
theorem dX8_halls_325 : decode cX8_halls 325 = .ok (.iconst 0, 1) := by decide +kernel
theorem dX8_halls_326 : decode cX8_halls 326 = .ok (.istore 7, 2) := by decide +kernel
theorem dX8_halls_328 : decode cX8_halls 328 = .ok (.iload 7, 2) := by decide +kernel
theorem dX8_halls_330 : decode cX8_halls 330 = .ok (.iconst 4, 1) := by decide +kernel
theorem dX8_halls_331 : decode cX8_halls 331 = .ok (.if_icmp .ge 74, 3) := by decide +kernel
theorem dX8_halls_334 : decode cX8_halls 334 = .ok (.aload_n 0, 1) := by decide +kernel
theorem dX8_halls_335 : decode cX8_halls 335 = .ok (.getfield 54, 3) := by decide +kernel
theorem dX8_halls_338 : decode cX8_halls 338 = .ok (.bipush 41, 2) := by decide +kernel
theorem dX8_halls_340 : decode cX8_halls 340 = .ok (.iload 7, 2) := by decide +kernel
theorem dX8_halls_342 : decode cX8_halls 342 = .ok (.iconst 1, 1) := by decide +kernel
theorem dX8_halls_343 : decode cX8_halls 343 = .ok (.iadd, 1) := by decide +kernel
theorem dX8_halls_344 : decode cX8_halls 344 = .ok (.imul, 1) := by decide +kernel
theorem dX8_halls_345 : decode cX8_halls 345 = .ok (.iload 5, 2) := by decide +kernel
theorem dX8_halls_347 : decode cX8_halls 347 = .ok (.iadd, 1) := by decide +kernel
theorem dX8_halls_348 : decode cX8_halls 348 = .ok (.iaload, 1) := by decide +kernel
theorem dX8_halls_349 : decode cX8_halls 349 = .ok (.iload 6, 2) := by decide +kernel
theorem dX8_halls_351 : decode cX8_halls 351 = .ok (.if_icmp .eq 48, 3) := by decide +kernel
theorem dX8_halls_354 : decode cX8_halls 354 = .ok (.aload_n 0, 1) := by decide +kernel
theorem dX8_halls_355 : decode cX8_halls 355 = .ok (.getfield 16, 3) := by decide +kernel
theorem dX8_halls_358 : decode cX8_halls 358 = .ok (.bipush 60, 2) := by decide +kernel
theorem dX8_halls_360 : decode cX8_halls 360 = .ok (.iload_n 3, 1) := by decide +kernel
theorem dX8_halls_361 : decode cX8_halls 361 = .ok (.imul, 1) := by decide +kernel
theorem dX8_halls_362 : decode cX8_halls 362 = .ok (.iload 7, 2) := by decide +kernel
theorem dX8_halls_364 : decode cX8_halls 364 = .ok (.iadd, 1) := by decide +kernel
theorem dX8_halls_365 : decode cX8_halls 365 = .ok (.dup2, 1) := by decide +kernel
theorem dX8_halls_366 : decode cX8_halls 366 = .ok (.iaload, 1) := by decide +kernel
theorem dX8_halls_367 : decode cX8_halls 367 = .ok (.iconst 1, 1) := by decide +kernel
theorem dX8_halls_368 : decode cX8_halls 368 = .ok (.iadd, 1) := by decide +kernel
theorem dX8_halls_369 : decode cX8_halls 369 = .ok (.iastore, 1) := by decide +kernel
theorem dX8_halls_370 : decode cX8_halls 370 = .ok (.iconst 0, 1) := by decide +kernel
theorem dX8_halls_371 : decode cX8_halls 371 = .ok (.iload 5, 2) := by decide +kernel
theorem dX8_halls_373 : decode cX8_halls 373 = .ok (.aload_n 0, 1) := by decide +kernel
theorem dX8_halls_374 : decode cX8_halls 374 = .ok (.iload 7, 2) := by decide +kernel
theorem dX8_halls_376 : decode cX8_halls 376 = .ok (.invokevirtual 142, 3) := by decide +kernel
theorem dX8_halls_379 : decode cX8_halls 379 = .ok (.isub, 1) := by decide +kernel
theorem dX8_halls_380 : decode cX8_halls 380 = .ok (.invokestatic 284, 3) := by decide +kernel
theorem dX8_halls_383 : decode cX8_halls 383 = .ok (.istore 5, 2) := by decide +kernel
theorem dX8_halls_385 : decode cX8_halls 385 = .ok (.iload 6, 2) := by decide +kernel
theorem dX8_halls_387 : decode cX8_halls 387 = .ok (.aload_n 0, 1) := by decide +kernel
theorem dX8_halls_388 : decode cX8_halls 388 = .ok (.iload 7, 2) := by decide +kernel
theorem dX8_halls_390 : decode cX8_halls 390 = .ok (.invokevirtual 139, 3) := by decide +kernel
theorem dX8_halls_393 : decode cX8_halls 393 = .ok (.isub, 1) := by decide +kernel
theorem dX8_halls_394 : decode cX8_halls 394 = .ok (.istore 6, 2) := by decide +kernel
theorem dX8_halls_396 : decode cX8_halls 396 = .ok (.goto (-62), 3) := by decide +kernel
theorem dX8_halls_399 : decode cX8_halls 399 = .ok (.iinc 7 1, 3) := by decide +kernel
theorem dX8_halls_402 : decode cX8_halls 402 = .ok (.goto (-74), 3) := by decide +kernel
theorem dX8_halls_405 : decode cX8_halls 405 = .ok (.iload 4, 2) := by decide +kernel
theorem dX8_halls_407 : decode cX8_halls 407 = .ok (.ireturn, 1) := by decide +kernel
theorem dX8_quarry_0 : decode cX8_quarry 0 = .ok (.iload_n 1, 1) := by decide +kernel
theorem dX8_quarry_1 : decode cX8_quarry 1 = .ok (.invokestatic 136, 3) := by decide +kernel
theorem dX8_quarry_4 : decode cX8_quarry 4 = .ok (.ifCond .ne 5, 3) := by decide +kernel
theorem dX8_quarry_7 : decode cX8_quarry 7 = .ok (.iconst (-1), 1) := by decide +kernel
theorem dX8_quarry_8 : decode cX8_quarry 8 = .ok (.ireturn, 1) := by decide +kernel
theorem dX8_quarry_9 : decode cX8_quarry 9 = .ok (.aload_n 0, 1) := by decide +kernel
theorem dX8_quarry_10 : decode cX8_quarry 10 = .ok (.getfield 36, 3) := by decide +kernel
theorem dX8_quarry_13 : decode cX8_quarry 13 = .ok (.iload_n 1, 1) := by decide +kernel
theorem dX8_quarry_14 : decode cX8_quarry 14 = .ok (.baload, 1) := by decide +kernel
theorem dX8_quarry_15 : decode cX8_quarry 15 = .ok (.ifCond .ne 9, 3) := by decide +kernel
theorem dX8_quarry_18 : decode cX8_quarry 18 = .ok (.aload_n 0, 1) := by decide +kernel
theorem dX8_quarry_19 : decode cX8_quarry 19 = .ok (.iconst 1, 1) := by decide +kernel
theorem dX8_quarry_20 : decode cX8_quarry 20 = .ok (.invokevirtual 85, 3) := by decide +kernel
theorem dX8_quarry_23 : decode cX8_quarry 23 = .ok (.ireturn, 1) := by decide +kernel
theorem dX8_quarry_24 : decode cX8_quarry 24 = .ok (.aload_n 0, 1) := by decide +kernel
theorem dX8_quarry_25 : decode cX8_quarry 25 = .ok (.getfield 39, 3) := by decide +kernel
theorem dX8_quarry_28 : decode cX8_quarry 28 = .ok (.bipush 26, 2) := by decide +kernel
theorem dX8_quarry_30 : decode cX8_quarry 30 = .ok (.iload_n 1, 1) := by decide +kernel
theorem dX8_quarry_31 : decode cX8_quarry 31 = .ok (.imul, 1) := by decide +kernel
theorem dX8_quarry_32 : decode cX8_quarry 32 = .ok (.iconst 3, 1) := by decide +kernel
theorem dX8_quarry_33 : decode cX8_quarry 33 = .ok (.iadd, 1) := by decide +kernel
theorem dX8_quarry_34 : decode cX8_quarry 34 = .ok (.iaload, 1) := by decide +kernel
theorem dX8_quarry_35 : decode cX8_quarry 35 = .ok (.istore_n 2, 1) := by decide +kernel
theorem dX8_quarry_36 : decode cX8_quarry 36 = .ok (.iload_n 2, 1) := by decide +kernel
theorem dX8_quarry_37 : decode cX8_quarry 37 = .ok (.iload_n 2, 1) := by decide +kernel
theorem dX8_quarry_38 : decode cX8_quarry 38 = .ok (.imul, 1) := by decide +kernel
theorem dX8_quarry_39 : decode cX8_quarry 39 = .ok (.iconst 4, 1) := by decide +kernel
theorem dX8_quarry_40 : decode cX8_quarry 40 = .ok (.idiv, 1) := by decide +kernel
theorem dX8_quarry_41 : decode cX8_quarry 41 = .ok (.istore_n 3, 1) := by decide +kernel
theorem dX8_quarry_42 : decode cX8_quarry 42 = .ok (.aload_n 0, 1) := by decide +kernel
theorem dX8_quarry_43 : decode cX8_quarry 43 = .ok (.iconst 0, 1) := by decide +kernel
theorem dX8_quarry_44 : decode cX8_quarry 44 = .ok (.aload_n 0, 1) := by decide +kernel
theorem dX8_quarry_45 : decode cX8_quarry 45 = .ok (.iload_n 1, 1) := by decide +kernel
theorem dX8_quarry_46 : decode cX8_quarry 46 = .ok (.invokevirtual 139, 3) := by decide +kernel
theorem dX8_quarry_49 : decode cX8_quarry 49 = .ok (.iload_n 3, 1) := by decide +kernel
theorem dX8_quarry_50 : decode cX8_quarry 50 = .ok (.isub, 1) := by decide +kernel
theorem dX8_quarry_51 : decode cX8_quarry 51 = .ok (.invokestatic 284, 3) := by decide +kernel
theorem dX8_quarry_54 : decode cX8_quarry 54 = .ok (.iload_n 3, 1) := by decide +kernel
theorem dX8_quarry_55 : decode cX8_quarry 55 = .ok (.invokevirtual 93, 3) := by decide +kernel
theorem dX8_quarry_58 : decode cX8_quarry 58 = .ok (.ireturn, 1) := by decide +kernel
theorem dX8_begin_0 : decode cX8_begin 0 = .ok (.aload_n 0, 1) := by decide +kernel
theorem dX8_begin_1 : decode cX8_begin 1 = .ok (.bipush 100, 2) := by decide +kernel
theorem dX8_begin_3 : decode cX8_begin 3 = .ok (.putfield 287, 3) := by decide +kernel
theorem dX8_begin_6 : decode cX8_begin 6 = .ok (.iconst 0, 1) := by decide +kernel
theorem dX8_begin_7 : decode cX8_begin 7 = .ok (.istore_n 2, 1) := by decide +kernel
theorem dX8_begin_8 : decode cX8_begin 8 = .ok (.iload_n 2, 1) := by decide +kernel
theorem dX8_begin_9 : decode cX8_begin 9 = .ok (.bipush 6, 2) := by decide +kernel
theorem dX8_begin_11 : decode cX8_begin 11 = .ok (.if_icmp .ge 28, 3) := by decide +kernel
theorem dX8_begin_14 : decode cX8_begin 14 = .ok (.aload_n 0, 1) := by decide +kernel
theorem dX8_begin_15 : decode cX8_begin 15 = .ok (.getfield 60, 3) := by decide +kernel
theorem dX8_begin_18 : decode cX8_begin 18 = .ok (.iload_n 2, 1) := by decide +kernel
theorem dX8_begin_19 : decode cX8_begin 19 = .ok (.bipush (-10), 2) := by decide +kernel
theorem dX8_begin_21 : decode cX8_begin 21 = .ok (.aload_n 0, 1) := by decide +kernel
theorem dX8_begin_22 : decode cX8_begin 22 = .ok (.getfield 33, 3) := by decide +kernel
theorem dX8_begin_25 : decode cX8_begin 25 = .ok (.iconst 4, 1) := by decide +kernel
theorem dX8_begin_26 : decode cX8_begin 26 = .ok (.iload_n 1, 1) := by decide +kernel
theorem dX8_begin_27 : decode cX8_begin 27 = .ok (.imul, 1) := by decide +kernel
theorem dX8_begin_28 : decode cX8_begin 28 = .ok (.iconst 2, 1) := by decide +kernel
theorem dX8_begin_29 : decode cX8_begin 29 = .ok (.iadd, 1) := by decide +kernel
theorem dX8_begin_30 : decode cX8_begin 30 = .ok (.iaload, 1) := by decide +kernel
theorem dX8_begin_31 : decode cX8_begin 31 = .ok (.imul, 1) := by decide +kernel
theorem dX8_begin_32 : decode cX8_begin 32 = .ok (.iastore, 1) := by decide +kernel
theorem dX8_begin_33 : decode cX8_begin 33 = .ok (.iinc 2 1, 3) := by decide +kernel
theorem dX8_begin_36 : decode cX8_begin 36 = .ok (.goto (-28), 3) := by decide +kernel
theorem dX8_begin_39 : decode cX8_begin 39 = .ok (.return_, 1) := by decide +kernel
theorem dX8_hour_0 : decode cX8_hour 0 = .ok (.bipush (-10), 2) := by decide +kernel
theorem dX8_hour_2 : decode cX8_hour 2 = .ok (.aload_n 0, 1) := by decide +kernel
theorem dX8_hour_3 : decode cX8_hour 3 = .ok (.getfield 33, 3) := by decide +kernel
theorem dX8_hour_6 : decode cX8_hour 6 = .ok (.iconst 4, 1) := by decide +kernel
theorem dX8_hour_7 : decode cX8_hour 7 = .ok (.iload_n 1, 1) := by decide +kernel
theorem dX8_hour_8 : decode cX8_hour 8 = .ok (.imul, 1) := by decide +kernel
theorem dX8_hour_9 : decode cX8_hour 9 = .ok (.iconst 2, 1) := by decide +kernel
theorem dX8_hour_10 : decode cX8_hour 10 = .ok (.iadd, 1) := by decide +kernel
theorem dX8_hour_11 : decode cX8_hour 11 = .ok (.iaload, 1) := by decide +kernel
theorem dX8_hour_12 : decode cX8_hour 12 = .ok (.imul, 1) := by decide +kernel
theorem dX8_hour_13 : decode cX8_hour 13 = .ok (.istore 6, 2) := by decide +kernel
theorem dX8_hour_15 : decode cX8_hour 15 = .ok (.aload_n 0, 1) := by decide +kernel
theorem dX8_hour_16 : decode cX8_hour 16 = .ok (.getfield 60, 3) := by decide +kernel
theorem dX8_hour_19 : decode cX8_hour 19 = .ok (.iconst 5, 1) := by decide +kernel
theorem dX8_hour_20 : decode cX8_hour 20 = .ok (.dup2, 1) := by decide +kernel
theorem dX8_hour_21 : decode cX8_hour 21 = .ok (.iaload, 1) := by decide +kernel
theorem dX8_hour_22 : decode cX8_hour 22 = .ok (.bipush 20, 2) := by decide +kernel
theorem dX8_hour_24 : decode cX8_hour 24 = .ok (.iload_n 2, 1) := by decide +kernel
theorem dX8_hour_25 : decode cX8_hour 25 = .ok (.imul, 1) := by decide +kernel
theorem dX8_hour_26 : decode cX8_hour 26 = .ok (.iadd, 1) := by decide +kernel
theorem dX8_hour_27 : decode cX8_hour 27 = .ok (.iastore, 1) := by decide +kernel
theorem dX8_hour_28 : decode cX8_hour 28 = .ok (.iconst 1, 1) := by decide +kernel
theorem dX8_hour_29 : decode cX8_hour 29 = .ok (.istore 7, 2) := by decide +kernel
theorem dX8_hour_31 : decode cX8_hour 31 = .ok (.iload 7, 2) := by decide +kernel
theorem dX8_hour_33 : decode cX8_hour 33 = .ok (.iconst 3, 1) := by decide +kernel
theorem dX8_hour_34 : decode cX8_hour 34 = .ok (.if_icmp .gt 23, 3) := by decide +kernel
theorem dX8_hour_37 : decode cX8_hour 37 = .ok (.aload_n 0, 1) := by decide +kernel
theorem dX8_hour_38 : decode cX8_hour 38 = .ok (.getfield 60, 3) := by decide +kernel
theorem dX8_hour_41 : decode cX8_hour 41 = .ok (.iload 7, 2) := by decide +kernel
theorem dX8_hour_43 : decode cX8_hour 43 = .ok (.dup2, 1) := by decide +kernel
theorem dX8_hour_44 : decode cX8_hour 44 = .ok (.iaload, 1) := by decide +kernel
theorem dX8_hour_45 : decode cX8_hour 45 = .ok (.bipush 10, 2) := by decide +kernel
theorem dX8_hour_47 : decode cX8_hour 47 = .ok (.iload_n 3, 1) := by decide +kernel
theorem dX8_hour_48 : decode cX8_hour 48 = .ok (.imul, 1) := by decide +kernel
theorem dX8_hour_49 : decode cX8_hour 49 = .ok (.iadd, 1) := by decide +kernel
theorem dX8_hour_50 : decode cX8_hour 50 = .ok (.iastore, 1) := by decide +kernel
theorem dX8_hour_51 : decode cX8_hour 51 = .ok (.iinc 7 1, 3) := by decide +kernel
theorem dX8_hour_54 : decode cX8_hour 54 = .ok (.goto (-23), 3) := by decide +kernel
theorem dX8_hour_57 : decode cX8_hour 57 = .ok (.iconst 0, 1) := by decide +kernel
theorem dX8_hour_58 : decode cX8_hour 58 = .ok (.istore 7, 2) := by decide +kernel
theorem dX8_hour_60 : decode cX8_hour 60 = .ok (.iload 7, 2) := by decide +kernel
theorem dX8_hour_62 : decode cX8_hour 62 = .ok (.iconst 5, 1) := by decide +kernel
theorem dX8_hour_63 : decode cX8_hour 63 = .ok (.if_icmp .ge 64, 3) := by decide +kernel
theorem dX8_hour_66 : decode cX8_hour 66 = .ok (.aload_n 0, 1) := by decide +kernel
theorem dX8_hour_67 : decode cX8_hour 67 = .ok (.getfield 60, 3) := by decide +kernel
theorem dX8_hour_70 : decode cX8_hour 70 = .ok (.iload 7, 2) := by decide +kernel
theorem dX8_hour_72 : decode cX8_hour 72 = .ok (.iaload, 1) := by decide +kernel
theorem dX8_hour_73 : decode cX8_hour 73 = .ok (.aload_n 0, 1) := by decide +kernel
theorem dX8_hour_74 : decode cX8_hour 74 = .ok (.getfield 60, 3) := by decide +kernel
theorem dX8_hour_77 : decode cX8_hour 77 = .ok (.iload 7, 2) := by decide +kernel
theorem dX8_hour_79 : decode cX8_hour 79 = .ok (.iconst 1, 1) := by decide +kernel
theorem dX8_hour_80 : decode cX8_hour 80 = .ok (.iadd, 1) := by decide +kernel
theorem dX8_hour_81 : decode cX8_hour 81 = .ok (.iaload, 1) := by decide +kernel
theorem dX8_hour_82 : decode cX8_hour 82 = .ok (.if_icmp .le 39, 3) := by decide +kernel
theorem dX8_hour_85 : decode cX8_hour 85 = .ok (.aload_n 0, 1) := by decide +kernel
theorem dX8_hour_86 : decode cX8_hour 86 = .ok (.getfield 60, 3) := by decide +kernel
theorem dX8_hour_89 : decode cX8_hour 89 = .ok (.iload 7, 2) := by decide +kernel
theorem dX8_hour_91 : decode cX8_hour 91 = .ok (.iaload, 1) := by decide +kernel
theorem dX8_hour_92 : decode cX8_hour 92 = .ok (.istore 8, 2) := by decide +kernel
theorem dX8_hour_94 : decode cX8_hour 94 = .ok (.aload_n 0, 1) := by decide +kernel
theorem dX8_hour_95 : decode cX8_hour 95 = .ok (.getfield 60, 3) := by decide +kernel
theorem dX8_hour_98 : decode cX8_hour 98 = .ok (.iload 7, 2) := by decide +kernel
theorem dX8_hour_100 : decode cX8_hour 100 = .ok (.aload_n 0, 1) := by decide +kernel
theorem dX8_hour_101 : decode cX8_hour 101 = .ok (.getfield 60, 3) := by decide +kernel
theorem dX8_hour_104 : decode cX8_hour 104 = .ok (.iload 7, 2) := by decide +kernel
theorem dX8_hour_106 : decode cX8_hour 106 = .ok (.iconst 1, 1) := by decide +kernel
theorem dX8_hour_107 : decode cX8_hour 107 = .ok (.iadd, 1) := by decide +kernel
theorem dX8_hour_108 : decode cX8_hour 108 = .ok (.iaload, 1) := by decide +kernel
theorem dX8_hour_109 : decode cX8_hour 109 = .ok (.iastore, 1) := by decide +kernel
theorem dX8_hour_110 : decode cX8_hour 110 = .ok (.aload_n 0, 1) := by decide +kernel
theorem dX8_hour_111 : decode cX8_hour 111 = .ok (.getfield 60, 3) := by decide +kernel
theorem dX8_hour_114 : decode cX8_hour 114 = .ok (.iload 7, 2) := by decide +kernel
theorem dX8_hour_116 : decode cX8_hour 116 = .ok (.iconst 1, 1) := by decide +kernel
theorem dX8_hour_117 : decode cX8_hour 117 = .ok (.iadd, 1) := by decide +kernel
theorem dX8_hour_118 : decode cX8_hour 118 = .ok (.iload 8, 2) := by decide +kernel
theorem dX8_hour_120 : decode cX8_hour 120 = .ok (.iastore, 1) := by decide +kernel
theorem dX8_hour_121 : decode cX8_hour 121 = .ok (.iinc 7 1, 3) := by decide +kernel
theorem dX8_hour_124 : decode cX8_hour 124 = .ok (.goto (-64), 3) := by decide +kernel
theorem dX8_hour_127 : decode cX8_hour 127 = .ok (.iconst 0, 1) := by decide +kernel
theorem dX8_hour_128 : decode cX8_hour 128 = .ok (.istore 7, 2) := by decide +kernel
theorem dX8_hour_130 : decode cX8_hour 130 = .ok (.iload 7, 2) := by decide +kernel
theorem dX8_hour_132 : decode cX8_hour 132 = .ok (.bipush 6, 2) := by decide +kernel
theorem dX8_hour_134 : decode cX8_hour 134 = .ok (.if_icmp .ge 32, 3) := by decide +kernel
theorem dX8_hour_137 : decode cX8_hour 137 = .ok (.aload_n 0, 1) := by decide +kernel
theorem dX8_hour_138 : decode cX8_hour 138 = .ok (.getfield 60, 3) := by decide +kernel
theorem dX8_hour_141 : decode cX8_hour 141 = .ok (.iload 7, 2) := by decide +kernel
theorem dX8_hour_143 : decode cX8_hour 143 = .ok (.dup2, 1) := by decide +kernel
theorem dX8_hour_144 : decode cX8_hour 144 = .ok (.iaload, 1) := by decide +kernel
theorem dX8_hour_145 : decode cX8_hour 145 = .ok (.aload_n 0, 1) := by decide +kernel
theorem dX8_hour_146 : decode cX8_hour 146 = .ok (.getfield 60, 3) := by decide +kernel
theorem dX8_hour_149 : decode cX8_hour 149 = .ok (.iload 7, 2) := by decide +kernel
theorem dX8_hour_151 : decode cX8_hour 151 = .ok (.iaload, 1) := by decide +kernel
theorem dX8_hour_152 : decode cX8_hour 152 = .ok (.iload 6, 2) := by decide +kernel
theorem dX8_hour_154 : decode cX8_hour 154 = .ok (.isub, 1) := by decide +kernel
theorem dX8_hour_155 : decode cX8_hour 155 = .ok (.bipush 10, 2) := by decide +kernel
theorem dX8_hour_157 : decode cX8_hour 157 = .ok (.idiv, 1) := by decide +kernel
theorem dX8_hour_158 : decode cX8_hour 158 = .ok (.isub, 1) := by decide +kernel
theorem dX8_hour_159 : decode cX8_hour 159 = .ok (.iastore, 1) := by decide +kernel
theorem dX8_hour_160 : decode cX8_hour 160 = .ok (.iinc 7 1, 3) := by decide +kernel
theorem dX8_hour_163 : decode cX8_hour 163 = .ok (.goto (-33), 3) := by decide +kernel
theorem dX8_hour_166 : decode cX8_hour 166 = .ok (.aload_n 0, 1) := by decide +kernel
theorem dX8_hour_167 : decode cX8_hour 167 = .ok (.getfield 60, 3) := by decide +kernel
theorem dX8_hour_170 : decode cX8_hour 170 = .ok (.iconst 5, 1) := by decide +kernel
theorem dX8_hour_171 : decode cX8_hour 171 = .ok (.dup2, 1) := by decide +kernel
theorem dX8_hour_172 : decode cX8_hour 172 = .ok (.iaload, 1) := by decide +kernel
theorem dX8_hour_173 : decode cX8_hour 173 = .ok (.aload_n 0, 1) := by decide +kernel
theorem dX8_hour_174 : decode cX8_hour 174 = .ok (.getfield 60, 3) := by decide +kernel
theorem dX8_hour_177 : decode cX8_hour 177 = .ok (.iconst 5, 1) := by decide +kernel
theorem dX8_hour_178 : decode cX8_hour 178 = .ok (.iaload, 1) := by decide +kernel
theorem dX8_hour_179 : decode cX8_hour 179 = .ok (.iload 6, 2) := by decide +kernel
theorem dX8_hour_181 : decode cX8_hour 181 = .ok (.isub, 1) := by decide +kernel
theorem dX8_hour_182 : decode cX8_hour 182 = .ok (.iload 4, 2) := by decide +kernel
theorem dX8_hour_184 : decode cX8_hour 184 = .ok (.imul, 1) := by decide +kernel
theorem dX8_hour_185 : decode cX8_hour 185 = .ok (.bipush 20, 2) := by decide +kernel
theorem dX8_hour_187 : decode cX8_hour 187 = .ok (.idiv, 1) := by decide +kernel
theorem dX8_hour_188 : decode cX8_hour 188 = .ok (.isub, 1) := by decide +kernel
theorem dX8_hour_189 : decode cX8_hour 189 = .ok (.iastore, 1) := by decide +kernel
theorem dX8_hour_190 : decode cX8_hour 190 = .ok (.iload 5, 2) := by decide +kernel
theorem dX8_hour_192 : decode cX8_hour 192 = .ok (.ifCond .ne 31, 3) := by decide +kernel
theorem dX8_hour_195 : decode cX8_hour 195 = .ok (.aload_n 0, 1) := by decide +kernel
theorem dX8_hour_196 : decode cX8_hour 196 = .ok (.getfield 60, 3) := by decide +kernel
theorem dX8_hour_199 : decode cX8_hour 199 = .ok (.iconst 0, 1) := by decide +kernel
theorem dX8_hour_200 : decode cX8_hour 200 = .ok (.iload 6, 2) := by decide +kernel
theorem dX8_hour_202 : decode cX8_hour 202 = .ok (.iastore, 1) := by decide +kernel
theorem dX8_hour_203 : decode cX8_hour 203 = .ok (.aload_n 0, 1) := by decide +kernel
theorem dX8_hour_204 : decode cX8_hour 204 = .ok (.getfield 60, 3) := by decide +kernel
theorem dX8_hour_207 : decode cX8_hour 207 = .ok (.iconst 1, 1) := by decide +kernel
theorem dX8_hour_208 : decode cX8_hour 208 = .ok (.dup2, 1) := by decide +kernel
theorem dX8_hour_209 : decode cX8_hour 209 = .ok (.iaload, 1) := by decide +kernel
theorem dX8_hour_210 : decode cX8_hour 210 = .ok (.aload_n 0, 1) := by decide +kernel
theorem dX8_hour_211 : decode cX8_hour 211 = .ok (.getfield 60, 3) := by decide +kernel
theorem dX8_hour_214 : decode cX8_hour 214 = .ok (.iconst 1, 1) := by decide +kernel
theorem dX8_hour_215 : decode cX8_hour 215 = .ok (.iaload, 1) := by decide +kernel
theorem dX8_hour_216 : decode cX8_hour 216 = .ok (.iload 6, 2) := by decide +kernel
theorem dX8_hour_218 : decode cX8_hour 218 = .ok (.isub, 1) := by decide +kernel
theorem dX8_hour_219 : decode cX8_hour 219 = .ok (.iconst 2, 1) := by decide +kernel
theorem dX8_hour_220 : decode cX8_hour 220 = .ok (.idiv, 1) := by decide +kernel
theorem dX8_hour_221 : decode cX8_hour 221 = .ok (.isub, 1) := by decide +kernel
theorem dX8_hour_222 : decode cX8_hour 222 = .ok (.iastore, 1) := by decide +kernel
theorem dX8_hour_223 : decode cX8_hour 223 = .ok (.aload_n 0, 1) := by decide +kernel
theorem dX8_hour_224 : decode cX8_hour 224 = .ok (.dup, 1) := by decide +kernel
theorem dX8_hour_225 : decode cX8_hour 225 = .ok (.getfield 287, 3) := by decide +kernel
theorem dX8_hour_228 : decode cX8_hour 228 = .ok (.iconst 3, 1) := by decide +kernel
theorem dX8_hour_229 : decode cX8_hour 229 = .ok (.iload 4, 2) := by decide +kernel
theorem dX8_hour_231 : decode cX8_hour 231 = .ok (.imul, 1) := by decide +kernel
theorem dX8_hour_232 : decode cX8_hour 232 = .ok (.iconst 2, 1) := by decide +kernel
theorem dX8_hour_233 : decode cX8_hour 233 = .ok (.iload_n 3, 1) := by decide +kernel
theorem dX8_hour_234 : decode cX8_hour 234 = .ok (.imul, 1) := by decide +kernel
theorem dX8_hour_235 : decode cX8_hour 235 = .ok (.isub, 1) := by decide +kernel
theorem dX8_hour_236 : decode cX8_hour 236 = .ok (.iload_n 2, 1) := by decide +kernel
theorem dX8_hour_237 : decode cX8_hour 237 = .ok (.isub, 1) := by decide +kernel
theorem dX8_hour_238 : decode cX8_hour 238 = .ok (.iload 5, 2) := by decide +kernel
theorem dX8_hour_240 : decode cX8_hour 240 = .ok (.ifCond .eq 7, 3) := by decide +kernel
theorem dX8_hour_243 : decode cX8_hour 243 = .ok (.iconst 0, 1) := by decide +kernel
theorem dX8_hour_244 : decode cX8_hour 244 = .ok (.goto 4, 3) := by decide +kernel
theorem dX8_hour_247 : decode cX8_hour 247 = .ok (.iconst 2, 1) := by decide +kernel
theorem dX8_hour_248 : decode cX8_hour 248 = .ok (.iadd, 1) := by decide +kernel
theorem dX8_hour_249 : decode cX8_hour 249 = .ok (.iadd, 1) := by decide +kernel
theorem dX8_hour_250 : decode cX8_hour 250 = .ok (.putfield 287, 3) := by decide +kernel
theorem dX8_hour_253 : decode cX8_hour 253 = .ok (.aload_n 0, 1) := by decide +kernel
theorem dX8_hour_254 : decode cX8_hour 254 = .ok (.iconst 0, 1) := by decide +kernel
theorem dX8_hour_255 : decode cX8_hour 255 = .ok (.bipush 100, 2) := by decide +kernel
theorem dX8_hour_257 : decode cX8_hour 257 = .ok (.aload_n 0, 1) := by decide +kernel
theorem dX8_hour_258 : decode cX8_hour 258 = .ok (.getfield 287, 3) := by decide +kernel
theorem dX8_hour_261 : decode cX8_hour 261 = .ok (.invokestatic 203, 3) := by decide +kernel
theorem dX8_hour_264 : decode cX8_hour 264 = .ok (.invokestatic 284, 3) := by decide +kernel
theorem dX8_hour_267 : decode cX8_hour 267 = .ok (.putfield 287, 3) := by decide +kernel
theorem dX8_hour_270 : decode cX8_hour 270 = .ok (.return_, 1) := by decide +kernel
theorem dX8_isMany_0 : decode cX8_isMany 0 = .ok (.iload_n 0, 1) := by decide +kernel
theorem dX8_isMany_1 : decode cX8_isMany 1 = .ok (.iconst 0, 1) := by decide +kernel
theorem dX8_isMany_2 : decode cX8_isMany 2 = .ok (.bipush 9, 2) := by decide +kernel
theorem dX8_isMany_4 : decode cX8_isMany 4 = .ok (.invokestatic 71, 3) := by decide +kernel
theorem dX8_isMany_7 : decode cX8_isMany 7 = .ok (.ireturn, 1) := by decide +kernel
theorem dX8_hours_0 : decode cX8_hours 0 = .ok (.aload_n 0, 1) := by decide +kernel
theorem dX8_hours_1 : decode cX8_hours 1 = .ok (.iload_n 1, 1) := by decide +kernel
theorem dX8_hours_2 : decode cX8_hours 2 = .ok (.invokevirtual 290, 3) := by decide +kernel
theorem dX8_hours_5 : decode cX8_hours 5 = .ok (.iconst 0, 1) := by decide +kernel
theorem dX8_hours_6 : decode cX8_hours 6 = .ok (.istore 7, 2) := by decide +kernel
theorem dX8_hours_8 : decode cX8_hours 8 = .ok (.iload 7, 2) := by decide +kernel
theorem dX8_hours_10 : decode cX8_hours 10 = .ok (.iload 6, 2) := by decide +kernel
theorem dX8_hours_12 : decode cX8_hours 12 = .ok (.if_icmp .ge 20, 3) := by decide +kernel
theorem dX8_hours_15 : decode cX8_hours 15 = .ok (.aload_n 0, 1) := by decide +kernel
theorem dX8_hours_16 : decode cX8_hours 16 = .ok (.iload_n 1, 1) := by decide +kernel
theorem dX8_hours_17 : decode cX8_hours 17 = .ok (.iload_n 2, 1) := by decide +kernel
theorem dX8_hours_18 : decode cX8_hours 18 = .ok (.iload_n 3, 1) := by decide +kernel
theorem dX8_hours_19 : decode cX8_hours 19 = .ok (.iload 4, 2) := by decide +kernel
theorem dX8_hours_21 : decode cX8_hours 21 = .ok (.iload 5, 2) := by decide +kernel
theorem dX8_hours_23 : decode cX8_hours 23 = .ok (.invokevirtual 293, 3) := by decide +kernel
theorem dX8_hours_26 : decode cX8_hours 26 = .ok (.iinc 7 1, 3) := by decide +kernel
theorem dX8_hours_29 : decode cX8_hours 29 = .ok (.goto (-21), 3) := by decide +kernel
theorem dX8_hours_32 : decode cX8_hours 32 = .ok (.return_, 1) := by decide +kernel
theorem dX8_air_0 : decode cX8_air 0 = .ok (.iload_n 1, 1) := by decide +kernel
theorem dX8_air_1 : decode cX8_air 1 = .ok (.invokestatic 136, 3) := by decide +kernel
theorem dX8_air_4 : decode cX8_air 4 = .ok (.ifCond .eq 46, 3) := by decide +kernel
theorem dX8_air_7 : decode cX8_air 7 = .ok (.iload_n 2, 1) := by decide +kernel
theorem dX8_air_8 : decode cX8_air 8 = .ok (.invokestatic 297, 3) := by decide +kernel
theorem dX8_air_11 : decode cX8_air 11 = .ok (.ifCond .eq 39, 3) := by decide +kernel
theorem dX8_air_14 : decode cX8_air 14 = .ok (.iload_n 3, 1) := by decide +kernel
theorem dX8_air_15 : decode cX8_air 15 = .ok (.invokestatic 297, 3) := by decide +kernel
theorem dX8_air_18 : decode cX8_air 18 = .ok (.ifCond .eq 32, 3) := by decide +kernel
theorem dX8_air_21 : decode cX8_air 21 = .ok (.iload 4, 2) := by decide +kernel
theorem dX8_air_23 : decode cX8_air 23 = .ok (.invokestatic 297, 3) := by decide +kernel
theorem dX8_air_26 : decode cX8_air 26 = .ok (.ifCond .eq 24, 3) := by decide +kernel
theorem dX8_air_29 : decode cX8_air 29 = .ok (.iload 5, 2) := by decide +kernel
theorem dX8_air_31 : decode cX8_air 31 = .ok (.iconst 0, 1) := by decide +kernel
theorem dX8_air_32 : decode cX8_air 32 = .ok (.iconst 1, 1) := by decide +kernel
theorem dX8_air_33 : decode cX8_air 33 = .ok (.invokestatic 71, 3) := by decide +kernel
theorem dX8_air_36 : decode cX8_air 36 = .ok (.ifCond .eq 14, 3) := by decide +kernel
theorem dX8_air_39 : decode cX8_air 39 = .ok (.iload 6, 2) := by decide +kernel
theorem dX8_air_41 : decode cX8_air 41 = .ok (.iconst 0, 1) := by decide +kernel
theorem dX8_air_42 : decode cX8_air 42 = .ok (.bipush 48, 2) := by decide +kernel
theorem dX8_air_44 : decode cX8_air 44 = .ok (.invokestatic 71, 3) := by decide +kernel
theorem dX8_air_47 : decode cX8_air 47 = .ok (.ifCond .ne 5, 3) := by decide +kernel
theorem dX8_air_50 : decode cX8_air 50 = .ok (.iconst (-1), 1) := by decide +kernel
theorem dX8_air_51 : decode cX8_air 51 = .ok (.ireturn, 1) := by decide +kernel
theorem dX8_air_52 : decode cX8_air 52 = .ok (.aload_n 0, 1) := by decide +kernel
theorem dX8_air_53 : decode cX8_air 53 = .ok (.getfield 29, 3) := by decide +kernel
theorem dX8_air_56 : decode cX8_air 56 = .ok (.iload_n 1, 1) := by decide +kernel
theorem dX8_air_57 : decode cX8_air 57 = .ok (.baload, 1) := by decide +kernel
theorem dX8_air_58 : decode cX8_air 58 = .ok (.ifCond .ne 9, 3) := by decide +kernel
theorem dX8_air_61 : decode cX8_air 61 = .ok (.aload_n 0, 1) := by decide +kernel
theorem dX8_air_62 : decode cX8_air 62 = .ok (.iconst 1, 1) := by decide +kernel
theorem dX8_air_63 : decode cX8_air 63 = .ok (.invokevirtual 85, 3) := by decide +kernel
theorem dX8_air_66 : decode cX8_air 66 = .ok (.ireturn, 1) := by decide +kernel
theorem dX8_air_67 : decode cX8_air 67 = .ok (.aload_n 0, 1) := by decide +kernel
theorem dX8_air_68 : decode cX8_air 68 = .ok (.iload_n 1, 1) := by decide +kernel
theorem dX8_air_69 : decode cX8_air 69 = .ok (.iload_n 2, 1) := by decide +kernel
theorem dX8_air_70 : decode cX8_air 70 = .ok (.iload_n 3, 1) := by decide +kernel
theorem dX8_air_71 : decode cX8_air 71 = .ok (.iload 4, 2) := by decide +kernel
theorem dX8_air_73 : decode cX8_air 73 = .ok (.iload 5, 2) := by decide +kernel
theorem dX8_air_75 : decode cX8_air 75 = .ok (.iconst 1, 1) := by decide +kernel
theorem dX8_air_76 : decode cX8_air 76 = .ok (.if_icmp .ne 7, 3) := by decide +kernel
theorem dX8_air_79 : decode cX8_air 79 = .ok (.iconst 1, 1) := by decide +kernel
theorem dX8_air_80 : decode cX8_air 80 = .ok (.goto 4, 3) := by decide +kernel
theorem dX8_air_83 : decode cX8_air 83 = .ok (.iconst 0, 1) := by decide +kernel
theorem dX8_air_84 : decode cX8_air 84 = .ok (.iload 6, 2) := by decide +kernel
theorem dX8_air_86 : decode cX8_air 86 = .ok (.invokevirtual 300, 3) := by decide +kernel
theorem dX8_air_89 : decode cX8_air 89 = .ok (.aload_n 0, 1) := by decide +kernel
theorem dX8_air_90 : decode cX8_air 90 = .ok (.aload_n 0, 1) := by decide +kernel
theorem dX8_air_91 : decode cX8_air 91 = .ok (.getfield 60, 3) := by decide +kernel
theorem dX8_air_94 : decode cX8_air 94 = .ok (.iconst 5, 1) := by decide +kernel
theorem dX8_air_95 : decode cX8_air 95 = .ok (.iaload, 1) := by decide +kernel
theorem dX8_air_96 : decode cX8_air 96 = .ok (.aload_n 0, 1) := by decide +kernel
theorem dX8_air_97 : decode cX8_air 97 = .ok (.getfield 287, 3) := by decide +kernel
theorem dX8_air_100 : decode cX8_air 100 = .ok (.invokevirtual 93, 3) := by decide +kernel
theorem dX8_air_103 : decode cX8_air 103 = .ok (.ireturn, 1) := by decide +kernel
theorem dX8_layer_0 : decode cX8_layer 0 = .ok (.iload_n 1, 1) := by decide +kernel
theorem dX8_layer_1 : decode cX8_layer 1 = .ok (.invokestatic 136, 3) := by decide +kernel
theorem dX8_layer_4 : decode cX8_layer 4 = .ok (.ifCond .eq 46, 3) := by decide +kernel
theorem dX8_layer_7 : decode cX8_layer 7 = .ok (.iload_n 2, 1) := by decide +kernel
theorem dX8_layer_8 : decode cX8_layer 8 = .ok (.invokestatic 297, 3) := by decide +kernel
theorem dX8_layer_11 : decode cX8_layer 11 = .ok (.ifCond .eq 39, 3) := by decide +kernel
theorem dX8_layer_14 : decode cX8_layer 14 = .ok (.iload_n 3, 1) := by decide +kernel
theorem dX8_layer_15 : decode cX8_layer 15 = .ok (.invokestatic 297, 3) := by decide +kernel
theorem dX8_layer_18 : decode cX8_layer 18 = .ok (.ifCond .eq 32, 3) := by decide +kernel
theorem dX8_layer_21 : decode cX8_layer 21 = .ok (.iload 4, 2) := by decide +kernel
theorem dX8_layer_23 : decode cX8_layer 23 = .ok (.invokestatic 297, 3) := by decide +kernel
theorem dX8_layer_26 : decode cX8_layer 26 = .ok (.ifCond .eq 24, 3) := by decide +kernel
theorem dX8_layer_29 : decode cX8_layer 29 = .ok (.iload 5, 2) := by decide +kernel
theorem dX8_layer_31 : decode cX8_layer 31 = .ok (.iconst 0, 1) := by decide +kernel
theorem dX8_layer_32 : decode cX8_layer 32 = .ok (.bipush 48, 2) := by decide +kernel
theorem dX8_layer_34 : decode cX8_layer 34 = .ok (.invokestatic 71, 3) := by decide +kernel
theorem dX8_layer_37 : decode cX8_layer 37 = .ok (.ifCond .eq 13, 3) := by decide +kernel
theorem dX8_layer_40 : decode cX8_layer 40 = .ok (.iload 6, 2) := by decide +kernel
theorem dX8_layer_42 : decode cX8_layer 42 = .ok (.iconst 0, 1) := by decide +kernel
theorem dX8_layer_43 : decode cX8_layer 43 = .ok (.iconst 5, 1) := by decide +kernel
theorem dX8_layer_44 : decode cX8_layer 44 = .ok (.invokestatic 71, 3) := by decide +kernel
theorem dX8_layer_47 : decode cX8_layer 47 = .ok (.ifCond .ne 5, 3) := by decide +kernel
theorem dX8_layer_50 : decode cX8_layer 50 = .ok (.iconst (-1), 1) := by decide +kernel
theorem dX8_layer_51 : decode cX8_layer 51 = .ok (.ireturn, 1) := by decide +kernel
theorem dX8_layer_52 : decode cX8_layer 52 = .ok (.aload_n 0, 1) := by decide +kernel
theorem dX8_layer_53 : decode cX8_layer 53 = .ok (.getfield 29, 3) := by decide +kernel
theorem dX8_layer_56 : decode cX8_layer 56 = .ok (.iload_n 1, 1) := by decide +kernel
theorem dX8_layer_57 : decode cX8_layer 57 = .ok (.baload, 1) := by decide +kernel
theorem dX8_layer_58 : decode cX8_layer 58 = .ok (.ifCond .ne 9, 3) := by decide +kernel
theorem dX8_layer_61 : decode cX8_layer 61 = .ok (.aload_n 0, 1) := by decide +kernel
theorem dX8_layer_62 : decode cX8_layer 62 = .ok (.iconst 1, 1) := by decide +kernel
theorem dX8_layer_63 : decode cX8_layer 63 = .ok (.invokevirtual 85, 3) := by decide +kernel
theorem dX8_layer_66 : decode cX8_layer 66 = .ok (.ireturn, 1) := by decide +kernel
theorem dX8_layer_67 : decode cX8_layer 67 = .ok (.aload_n 0, 1) := by decide +kernel
theorem dX8_layer_68 : decode cX8_layer 68 = .ok (.iload_n 1, 1) := by decide +kernel
theorem dX8_layer_69 : decode cX8_layer 69 = .ok (.iload_n 2, 1) := by decide +kernel
theorem dX8_layer_70 : decode cX8_layer 70 = .ok (.iload_n 3, 1) := by decide +kernel
theorem dX8_layer_71 : decode cX8_layer 71 = .ok (.iload 4, 2) := by decide +kernel
theorem dX8_layer_73 : decode cX8_layer 73 = .ok (.iconst 1, 1) := by decide +kernel
theorem dX8_layer_74 : decode cX8_layer 74 = .ok (.iload 5, 2) := by decide +kernel
theorem dX8_layer_76 : decode cX8_layer 76 = .ok (.invokevirtual 300, 3) := by decide +kernel
theorem dX8_layer_79 : decode cX8_layer 79 = .ok (.aload_n 0, 1) := by decide +kernel
theorem dX8_layer_80 : decode cX8_layer 80 = .ok (.aload_n 0, 1) := by decide +kernel
theorem dX8_layer_81 : decode cX8_layer 81 = .ok (.getfield 60, 3) := by decide +kernel
theorem dX8_layer_84 : decode cX8_layer 84 = .ok (.iload 6, 2) := by decide +kernel
theorem dX8_layer_86 : decode cX8_layer 86 = .ok (.iaload, 1) := by decide +kernel
theorem dX8_layer_87 : decode cX8_layer 87 = .ok (.iconst 1, 1) := by decide +kernel
theorem dX8_layer_88 : decode cX8_layer 88 = .ok (.invokevirtual 93, 3) := by decide +kernel
theorem dX8_layer_91 : decode cX8_layer 91 = .ok (.ireturn, 1) := by decide +kernel
theorem dX8_hole_0 : decode cX8_hole 0 = .ok (.iload_n 1, 1) := by decide +kernel
theorem dX8_hole_1 : decode cX8_hole 1 = .ok (.invokestatic 136, 3) := by decide +kernel
theorem dX8_hole_4 : decode cX8_hole 4 = .ok (.ifCond .eq 17, 3) := by decide +kernel
theorem dX8_hole_7 : decode cX8_hole 7 = .ok (.iload_n 2, 1) := by decide +kernel
theorem dX8_hole_8 : decode cX8_hole 8 = .ok (.invokestatic 297, 3) := by decide +kernel
theorem dX8_hole_11 : decode cX8_hole 11 = .ok (.ifCond .eq 10, 3) := by decide +kernel
theorem dX8_hole_14 : decode cX8_hole 14 = .ok (.iload_n 3, 1) := by decide +kernel
theorem dX8_hole_15 : decode cX8_hole 15 = .ok (.invokestatic 297, 3) := by decide +kernel
theorem dX8_hole_18 : decode cX8_hole 18 = .ok (.ifCond .ne 5, 3) := by decide +kernel
theorem dX8_hole_21 : decode cX8_hole 21 = .ok (.iconst (-1), 1) := by decide +kernel
theorem dX8_hole_22 : decode cX8_hole 22 = .ok (.ireturn, 1) := by decide +kernel
theorem dX8_hole_23 : decode cX8_hole 23 = .ok (.aload_n 0, 1) := by decide +kernel
theorem dX8_hole_24 : decode cX8_hole 24 = .ok (.getfield 29, 3) := by decide +kernel
theorem dX8_hole_27 : decode cX8_hole 27 = .ok (.iload_n 1, 1) := by decide +kernel
theorem dX8_hole_28 : decode cX8_hole 28 = .ok (.baload, 1) := by decide +kernel
theorem dX8_hole_29 : decode cX8_hole 29 = .ok (.ifCond .ne 9, 3) := by decide +kernel
theorem dX8_hole_32 : decode cX8_hole 32 = .ok (.aload_n 0, 1) := by decide +kernel
theorem dX8_hole_33 : decode cX8_hole 33 = .ok (.iconst 1, 1) := by decide +kernel
theorem dX8_hole_34 : decode cX8_hole 34 = .ok (.invokevirtual 85, 3) := by decide +kernel
theorem dX8_hole_37 : decode cX8_hole 37 = .ok (.ireturn, 1) := by decide +kernel
theorem dX8_hole_38 : decode cX8_hole 38 = .ok (.iconst 0, 1) := by decide +kernel
theorem dX8_hole_39 : decode cX8_hole 39 = .ok (.istore 4, 2) := by decide +kernel
theorem dX8_hole_41 : decode cX8_hole 41 = .ok (.iload 4, 2) := by decide +kernel
theorem dX8_hole_43 : decode cX8_hole 43 = .ok (.bipush 9, 2) := by decide +kernel
theorem dX8_hole_45 : decode cX8_hole 45 = .ok (.if_icmp .gt 82, 3) := by decide +kernel
theorem dX8_hole_48 : decode cX8_hole 48 = .ok (.iconst 1, 1) := by decide +kernel
theorem dX8_hole_49 : decode cX8_hole 49 = .ok (.istore 5, 2) := by decide +kernel
theorem dX8_hole_51 : decode cX8_hole 51 = .ok (.aload_n 0, 1) := by decide +kernel
theorem dX8_hole_52 : decode cX8_hole 52 = .ok (.iload_n 1, 1) := by decide +kernel
theorem dX8_hole_53 : decode cX8_hole 53 = .ok (.invokevirtual 290, 3) := by decide +kernel
theorem dX8_hole_56 : decode cX8_hole 56 = .ok (.iconst 0, 1) := by decide +kernel
theorem dX8_hole_57 : decode cX8_hole 57 = .ok (.istore 6, 2) := by decide +kernel
theorem dX8_hole_59 : decode cX8_hole 59 = .ok (.iload 6, 2) := by decide +kernel
theorem dX8_hole_61 : decode cX8_hole 61 = .ok (.bipush 12, 2) := by decide +kernel
theorem dX8_hole_63 : decode cX8_hole 63 = .ok (.if_icmp .ge 40, 3) := by decide +kernel
theorem dX8_hole_66 : decode cX8_hole 66 = .ok (.aload_n 0, 1) := by decide +kernel
theorem dX8_hole_67 : decode cX8_hole 67 = .ok (.iload_n 1, 1) := by decide +kernel
theorem dX8_hole_68 : decode cX8_hole 68 = .ok (.iload_n 2, 1) := by decide +kernel
theorem dX8_hole_69 : decode cX8_hole 69 = .ok (.iload_n 3, 1) := by decide +kernel
theorem dX8_hole_70 : decode cX8_hole 70 = .ok (.iload 4, 2) := by decide +kernel
theorem dX8_hole_72 : decode cX8_hole 72 = .ok (.iconst 1, 1) := by decide +kernel
theorem dX8_hole_73 : decode cX8_hole 73 = .ok (.invokevirtual 293, 3) := by decide +kernel
theorem dX8_hole_76 : decode cX8_hole 76 = .ok (.iload 5, 2) := by decide +kernel
theorem dX8_hole_78 : decode cX8_hole 78 = .ok (.ifCond .eq 16, 3) := by decide +kernel
theorem dX8_hole_81 : decode cX8_hole 81 = .ok (.aload_n 0, 1) := by decide +kernel
theorem dX8_hole_82 : decode cX8_hole 82 = .ok (.getfield 287, 3) := by decide +kernel
theorem dX8_hole_85 : decode cX8_hole 85 = .ok (.bipush 50, 2) := by decide +kernel
theorem dX8_hole_87 : decode cX8_hole 87 = .ok (.if_icmp .lt 7, 3) := by decide +kernel
theorem dX8_hole_90 : decode cX8_hole 90 = .ok (.iconst 1, 1) := by decide +kernel
theorem dX8_hole_91 : decode cX8_hole 91 = .ok (.goto 4, 3) := by decide +kernel
theorem dX8_hole_94 : decode cX8_hole 94 = .ok (.iconst 0, 1) := by decide +kernel
theorem dX8_hole_95 : decode cX8_hole 95 = .ok (.istore 5, 2) := by decide +kernel
theorem dX8_hole_97 : decode cX8_hole 97 = .ok (.iinc 6 1, 3) := by decide +kernel
theorem dX8_hole_100 : decode cX8_hole 100 = .ok (.goto (-41), 3) := by decide +kernel
theorem dX8_hole_103 : decode cX8_hole 103 = .ok (.iload 5, 2) := by decide +kernel
theorem dX8_hole_105 : decode cX8_hole 105 = .ok (.ifCond .eq 16, 3) := by decide +kernel
theorem dX8_hole_108 : decode cX8_hole 108 = .ok (.aload_n 0, 1) := by decide +kernel
theorem dX8_hole_109 : decode cX8_hole 109 = .ok (.aload_n 0, 1) := by decide +kernel
theorem dX8_hole_110 : decode cX8_hole 110 = .ok (.getfield 60, 3) := by decide +kernel
theorem dX8_hole_113 : decode cX8_hole 113 = .ok (.iconst 5, 1) := by decide +kernel
theorem dX8_hole_114 : decode cX8_hole 114 = .ok (.iaload, 1) := by decide +kernel
theorem dX8_hole_115 : decode cX8_hole 115 = .ok (.iload 4, 2) := by decide +kernel
theorem dX8_hole_117 : decode cX8_hole 117 = .ok (.invokevirtual 93, 3) := by decide +kernel
theorem dX8_hole_120 : decode cX8_hole 120 = .ok (.ireturn, 1) := by decide +kernel
theorem dX8_hole_121 : decode cX8_hole 121 = .ok (.iinc 4 1, 3) := by decide +kernel
theorem dX8_hole_124 : decode cX8_hole 124 = .ok (.goto (-83), 3) := by decide +kernel
theorem dX8_hole_127 : decode cX8_hole 127 = .ok (.bipush (-9), 2) := by decide +kernel
theorem dX8_hole_129 : decode cX8_hole 129 = .ok (.ireturn, 1) := by decide +kernel
theorem dX8_drips_0 : decode cX8_drips 0 = .ok (.iload_n 1, 1) := by decide +kernel
theorem dX8_drips_1 : decode cX8_drips 1 = .ok (.invokestatic 136, 3) := by decide +kernel
theorem dX8_drips_4 : decode cX8_drips 4 = .ok (.ifCond .eq 17, 3) := by decide +kernel
theorem dX8_drips_7 : decode cX8_drips 7 = .ok (.iload_n 2, 1) := by decide +kernel
theorem dX8_drips_8 : decode cX8_drips 8 = .ok (.invokestatic 297, 3) := by decide +kernel
theorem dX8_drips_11 : decode cX8_drips 11 = .ok (.ifCond .eq 10, 3) := by decide +kernel
theorem dX8_drips_14 : decode cX8_drips 14 = .ok (.iload_n 3, 1) := by decide +kernel
theorem dX8_drips_15 : decode cX8_drips 15 = .ok (.invokestatic 297, 3) := by decide +kernel
theorem dX8_drips_18 : decode cX8_drips 18 = .ok (.ifCond .ne 5, 3) := by decide +kernel
theorem dX8_drips_21 : decode cX8_drips 21 = .ok (.iconst (-1), 1) := by decide +kernel
theorem dX8_drips_22 : decode cX8_drips 22 = .ok (.ireturn, 1) := by decide +kernel
theorem dX8_drips_23 : decode cX8_drips 23 = .ok (.aload_n 0, 1) := by decide +kernel
theorem dX8_drips_24 : decode cX8_drips 24 = .ok (.getfield 29, 3) := by decide +kernel
theorem dX8_drips_27 : decode cX8_drips 27 = .ok (.iload_n 1, 1) := by decide +kernel
theorem dX8_drips_28 : decode cX8_drips 28 = .ok (.baload, 1) := by decide +kernel
theorem dX8_drips_29 : decode cX8_drips 29 = .ok (.ifCond .ne 9, 3) := by decide +kernel
theorem dX8_drips_32 : decode cX8_drips 32 = .ok (.aload_n 0, 1) := by decide +kernel
theorem dX8_drips_33 : decode cX8_drips 33 = .ok (.iconst 1, 1) := by decide +kernel
theorem dX8_drips_34 : decode cX8_drips 34 = .ok (.invokevirtual 85, 3) := by decide +kernel
theorem dX8_drips_37 : decode cX8_drips 37 = .ok (.ireturn, 1) := by decide +kernel
theorem dX8_drips_38 : decode cX8_drips 38 = .ok (.bipush 9, 2) := by decide +kernel
theorem dX8_drips_40 : decode cX8_drips 40 = .ok (.istore 4, 2) := by decide +kernel
theorem dX8_drips_42 : decode cX8_drips 42 = .ok (.iload 4, 2) := by decide +kernel
theorem dX8_drips_44 : decode cX8_drips 44 = .ok (.ifCond .lt 102, 3) := by decide +kernel
theorem dX8_drips_47 : decode cX8_drips 47 = .ok (.iconst 1, 1) := by decide +kernel
theorem dX8_drips_48 : decode cX8_drips 48 = .ok (.istore 5, 2) := by decide +kernel
theorem dX8_drips_50 : decode cX8_drips 50 = .ok (.iconst 0, 1) := by decide +kernel
theorem dX8_drips_51 : decode cX8_drips 51 = .ok (.istore 6, 2) := by decide +kernel
theorem dX8_drips_53 : decode cX8_drips 53 = .ok (.aload_n 0, 1) := by decide +kernel
theorem dX8_drips_54 : decode cX8_drips 54 = .ok (.iload_n 1, 1) := by decide +kernel
theorem dX8_drips_55 : decode cX8_drips 55 = .ok (.invokevirtual 290, 3) := by decide +kernel
theorem dX8_drips_58 : decode cX8_drips 58 = .ok (.iconst 0, 1) := by decide +kernel
theorem dX8_drips_59 : decode cX8_drips 59 = .ok (.istore 7, 2) := by decide +kernel
theorem dX8_drips_61 : decode cX8_drips 61 = .ok (.iload 7, 2) := by decide +kernel
theorem dX8_drips_63 : decode cX8_drips 63 = .ok (.bipush 24, 2) := by decide +kernel
theorem dX8_drips_65 : decode cX8_drips 65 = .ok (.if_icmp .ge 61, 3) := by decide +kernel
theorem dX8_drips_68 : decode cX8_drips 68 = .ok (.aload_n 0, 1) := by decide +kernel
theorem dX8_drips_69 : decode cX8_drips 69 = .ok (.iload_n 1, 1) := by decide +kernel
theorem dX8_drips_70 : decode cX8_drips 70 = .ok (.iload 4, 2) := by decide +kernel
theorem dX8_drips_72 : decode cX8_drips 72 = .ok (.iload_n 2, 1) := by decide +kernel
theorem dX8_drips_73 : decode cX8_drips 73 = .ok (.iload_n 3, 1) := by decide +kernel
theorem dX8_drips_74 : decode cX8_drips 74 = .ok (.iconst 1, 1) := by decide +kernel
theorem dX8_drips_75 : decode cX8_drips 75 = .ok (.invokevirtual 293, 3) := by decide +kernel
theorem dX8_drips_78 : decode cX8_drips 78 = .ok (.iload 5, 2) := by decide +kernel
theorem dX8_drips_80 : decode cX8_drips 80 = .ok (.ifCond .eq 18, 3) := by decide +kernel
theorem dX8_drips_83 : decode cX8_drips 83 = .ok (.aload_n 0, 1) := by decide +kernel
theorem dX8_drips_84 : decode cX8_drips 84 = .ok (.getfield 60, 3) := by decide +kernel
theorem dX8_drips_87 : decode cX8_drips 87 = .ok (.iconst 5, 1) := by decide +kernel
theorem dX8_drips_88 : decode cX8_drips 88 = .ok (.iaload, 1) := by decide +kernel
theorem dX8_drips_89 : decode cX8_drips 89 = .ok (.bipush 30, 2) := by decide +kernel
theorem dX8_drips_91 : decode cX8_drips 91 = .ok (.if_icmp .gt 7, 3) := by decide +kernel
theorem dX8_drips_94 : decode cX8_drips 94 = .ok (.iconst 1, 1) := by decide +kernel
theorem dX8_drips_95 : decode cX8_drips 95 = .ok (.goto 4, 3) := by decide +kernel
theorem dX8_drips_98 : decode cX8_drips 98 = .ok (.iconst 0, 1) := by decide +kernel
theorem dX8_drips_99 : decode cX8_drips 99 = .ok (.istore 5, 2) := by decide +kernel
theorem dX8_drips_101 : decode cX8_drips 101 = .ok (.iload 6, 2) := by decide +kernel
theorem dX8_drips_103 : decode cX8_drips 103 = .ok (.aload_n 0, 1) := by decide +kernel
theorem dX8_drips_104 : decode cX8_drips 104 = .ok (.getfield 60, 3) := by decide +kernel
theorem dX8_drips_107 : decode cX8_drips 107 = .ok (.iconst 5, 1) := by decide +kernel
theorem dX8_drips_108 : decode cX8_drips 108 = .ok (.iaload, 1) := by decide +kernel
theorem dX8_drips_109 : decode cX8_drips 109 = .ok (.ifCond .le 7, 3) := by decide +kernel
theorem dX8_drips_112 : decode cX8_drips 112 = .ok (.iconst 1, 1) := by decide +kernel
theorem dX8_drips_113 : decode cX8_drips 113 = .ok (.goto 4, 3) := by decide +kernel
theorem dX8_drips_116 : decode cX8_drips 116 = .ok (.iconst 0, 1) := by decide +kernel
theorem dX8_drips_117 : decode cX8_drips 117 = .ok (.iadd, 1) := by decide +kernel
theorem dX8_drips_118 : decode cX8_drips 118 = .ok (.istore 6, 2) := by decide +kernel
theorem dX8_drips_120 : decode cX8_drips 120 = .ok (.iinc 7 1, 3) := by decide +kernel
theorem dX8_drips_123 : decode cX8_drips 123 = .ok (.goto (-62), 3) := by decide +kernel
theorem dX8_drips_126 : decode cX8_drips 126 = .ok (.iload 5, 2) := by decide +kernel
theorem dX8_drips_128 : decode cX8_drips 128 = .ok (.ifCond .eq 12, 3) := by decide +kernel
theorem dX8_drips_131 : decode cX8_drips 131 = .ok (.aload_n 0, 1) := by decide +kernel
theorem dX8_drips_132 : decode cX8_drips 132 = .ok (.iload 6, 2) := by decide +kernel
theorem dX8_drips_134 : decode cX8_drips 134 = .ok (.iload 4, 2) := by decide +kernel
theorem dX8_drips_136 : decode cX8_drips 136 = .ok (.invokevirtual 93, 3) := by decide +kernel
theorem dX8_drips_139 : decode cX8_drips 139 = .ok (.ireturn, 1) := by decide +kernel
theorem dX8_drips_140 : decode cX8_drips 140 = .ok (.iinc 4 (-1), 3) := by decide +kernel
theorem dX8_drips_143 : decode cX8_drips 143 = .ok (.goto (-101), 3) := by decide +kernel
theorem dX8_drips_146 : decode cX8_drips 146 = .ok (.bipush (-9), 2) := by decide +kernel
theorem dX8_drips_148 : decode cX8_drips 148 = .ok (.ireturn, 1) := by decide +kernel
theorem dX8_daysOf_0 : decode cX8_daysOf 0 = .ok (.bipush 100, 2) := by decide +kernel
theorem dX8_daysOf_2 : decode cX8_daysOf 2 = .ok (.istore 4, 2) := by decide +kernel
theorem dX8_daysOf_4 : decode cX8_daysOf 4 = .ok (.iconst 0, 1) := by decide +kernel
theorem dX8_daysOf_5 : decode cX8_daysOf 5 = .ok (.istore 5, 2) := by decide +kernel
theorem dX8_daysOf_7 : decode cX8_daysOf 7 = .ok (.aload_n 0, 1) := by decide +kernel
theorem dX8_daysOf_8 : decode cX8_daysOf 8 = .ok (.iconst 0, 1) := by decide +kernel
theorem dX8_daysOf_9 : decode cX8_daysOf 9 = .ok (.putfield 304, 3) := by decide +kernel
theorem dX8_daysOf_12 : decode cX8_daysOf 12 = .ok (.iconst 1, 1) := by decide +kernel
theorem dX8_daysOf_13 : decode cX8_daysOf 13 = .ok (.istore 6, 2) := by decide +kernel
theorem dX8_daysOf_15 : decode cX8_daysOf 15 = .ok (.iload 6, 2) := by decide +kernel
theorem dX8_daysOf_17 : decode cX8_daysOf 17 = .ok (.bipush 60, 2) := by decide +kernel
theorem dX8_daysOf_19 : decode cX8_daysOf 19 = .ok (.if_icmp .gt 87, 3) := by decide +kernel
theorem dX8_daysOf_22 : decode cX8_daysOf 22 = .ok (.iload 4, 2) := by decide +kernel
theorem dX8_daysOf_24 : decode cX8_daysOf 24 = .ok (.iconst 3, 1) := by decide +kernel
theorem dX8_daysOf_25 : decode cX8_daysOf 25 = .ok (.iload_n 2, 1) := by decide +kernel
theorem dX8_daysOf_26 : decode cX8_daysOf 26 = .ok (.imul, 1) := by decide +kernel
theorem dX8_daysOf_27 : decode cX8_daysOf 27 = .ok (.iload_n 1, 1) := by decide +kernel
theorem dX8_daysOf_28 : decode cX8_daysOf 28 = .ok (.iadd, 1) := by decide +kernel
theorem dX8_daysOf_29 : decode cX8_daysOf 29 = .ok (.iload 6, 2) := by decide +kernel
theorem dX8_daysOf_31 : decode cX8_daysOf 31 = .ok (.iconst 5, 1) := by decide +kernel
theorem dX8_daysOf_32 : decode cX8_daysOf 32 = .ok (.if_icmp .lt 7, 3) := by decide +kernel
theorem dX8_daysOf_35 : decode cX8_daysOf 35 = .ok (.iconst 2, 1) := by decide +kernel
theorem dX8_daysOf_36 : decode cX8_daysOf 36 = .ok (.goto 4, 3) := by decide +kernel
theorem dX8_daysOf_39 : decode cX8_daysOf 39 = .ok (.iconst 0, 1) := by decide +kernel
theorem dX8_daysOf_40 : decode cX8_daysOf 40 = .ok (.iadd, 1) := by decide +kernel
theorem dX8_daysOf_41 : decode cX8_daysOf 41 = .ok (.isub, 1) := by decide +kernel
theorem dX8_daysOf_42 : decode cX8_daysOf 42 = .ok (.istore 4, 2) := by decide +kernel
theorem dX8_daysOf_44 : decode cX8_daysOf 44 = .ok (.iload 5, 2) := by decide +kernel
theorem dX8_daysOf_46 : decode cX8_daysOf 46 = .ok (.iload_n 1, 1) := by decide +kernel
theorem dX8_daysOf_47 : decode cX8_daysOf 47 = .ok (.iconst 1, 1) := by decide +kernel
theorem dX8_daysOf_48 : decode cX8_daysOf 48 = .ok (.iadd, 1) := by decide +kernel
theorem dX8_daysOf_49 : decode cX8_daysOf 49 = .ok (.iadd, 1) := by decide +kernel
theorem dX8_daysOf_50 : decode cX8_daysOf 50 = .ok (.istore 5, 2) := by decide +kernel
theorem dX8_daysOf_52 : decode cX8_daysOf 52 = .ok (.iload_n 3, 1) := by decide +kernel
theorem dX8_daysOf_53 : decode cX8_daysOf 53 = .ok (.ifCond .le 22, 3) := by decide +kernel
theorem dX8_daysOf_56 : decode cX8_daysOf 56 = .ok (.iload 6, 2) := by decide +kernel
theorem dX8_daysOf_58 : decode cX8_daysOf 58 = .ok (.iload_n 3, 1) := by decide +kernel
theorem dX8_daysOf_59 : decode cX8_daysOf 59 = .ok (.irem, 1) := by decide +kernel
theorem dX8_daysOf_60 : decode cX8_daysOf 60 = .ok (.ifCond .ne 15, 3) := by decide +kernel
theorem dX8_daysOf_63 : decode cX8_daysOf 63 = .ok (.iload 5, 2) := by decide +kernel
theorem dX8_daysOf_65 : decode cX8_daysOf 65 = .ok (.iload 5, 2) := by decide +kernel
theorem dX8_daysOf_67 : decode cX8_daysOf 67 = .ok (.iconst 2, 1) := by decide +kernel
theorem dX8_daysOf_68 : decode cX8_daysOf 68 = .ok (.idiv, 1) := by decide +kernel
theorem dX8_daysOf_69 : decode cX8_daysOf 69 = .ok (.isub, 1) := by decide +kernel
theorem dX8_daysOf_70 : decode cX8_daysOf 70 = .ok (.istore 5, 2) := by decide +kernel
theorem dX8_daysOf_72 : decode cX8_daysOf 72 = .ok (.iinc 4 (-5), 3) := by decide +kernel
theorem dX8_daysOf_75 : decode cX8_daysOf 75 = .ok (.iload 4, 2) := by decide +kernel
theorem dX8_daysOf_77 : decode cX8_daysOf 77 = .ok (.bipush 30, 2) := by decide +kernel
theorem dX8_daysOf_79 : decode cX8_daysOf 79 = .ok (.if_icmp .lt 10, 3) := by decide +kernel
theorem dX8_daysOf_82 : decode cX8_daysOf 82 = .ok (.iload 5, 2) := by decide +kernel
theorem dX8_daysOf_84 : decode cX8_daysOf 84 = .ok (.bipush 40, 2) := by decide +kernel
theorem dX8_daysOf_86 : decode cX8_daysOf 86 = .ok (.if_icmp .le 8, 3) := by decide +kernel
theorem dX8_daysOf_89 : decode cX8_daysOf 89 = .ok (.iload 6, 2) := by decide +kernel
theorem dX8_daysOf_91 : decode cX8_daysOf 91 = .ok (.iconst 1, 1) := by decide +kernel
theorem dX8_daysOf_92 : decode cX8_daysOf 92 = .ok (.isub, 1) := by decide +kernel
theorem dX8_daysOf_93 : decode cX8_daysOf 93 = .ok (.ireturn, 1) := by decide +kernel
theorem dX8_daysOf_94 : decode cX8_daysOf 94 = .ok (.aload_n 0, 1) := by decide +kernel
theorem dX8_daysOf_95 : decode cX8_daysOf 95 = .ok (.iload 5, 2) := by decide +kernel
theorem dX8_daysOf_97 : decode cX8_daysOf 97 = .ok (.putfield 304, 3) := by decide +kernel
theorem dX8_daysOf_100 : decode cX8_daysOf 100 = .ok (.iinc 6 1, 3) := by decide +kernel
theorem dX8_daysOf_103 : decode cX8_daysOf 103 = .ok (.goto (-88), 3) := by decide +kernel
theorem dX8_daysOf_106 : decode cX8_daysOf 106 = .ok (.bipush 60, 2) := by decide +kernel
theorem dX8_daysOf_108 : decode cX8_daysOf 108 = .ok (.ireturn, 1) := by decide +kernel
theorem dX8_lasts_0 : decode cX8_lasts 0 = .ok (.iload_n 1, 1) := by decide +kernel
theorem dX8_lasts_1 : decode cX8_lasts 1 = .ok (.invokestatic 297, 3) := by decide +kernel
theorem dX8_lasts_4 : decode cX8_lasts 4 = .ok (.ifCond .eq 20, 3) := by decide +kernel
theorem dX8_lasts_7 : decode cX8_lasts 7 = .ok (.iload_n 2, 1) := by decide +kernel
theorem dX8_lasts_8 : decode cX8_lasts 8 = .ok (.invokestatic 297, 3) := by decide +kernel
theorem dX8_lasts_11 : decode cX8_lasts 11 = .ok (.ifCond .eq 13, 3) := by decide +kernel
theorem dX8_lasts_14 : decode cX8_lasts 14 = .ok (.iload_n 3, 1) := by decide +kernel
theorem dX8_lasts_15 : decode cX8_lasts 15 = .ok (.iconst 0, 1) := by decide +kernel
theorem dX8_lasts_16 : decode cX8_lasts 16 = .ok (.bipush 9, 2) := by decide +kernel
theorem dX8_lasts_18 : decode cX8_lasts 18 = .ok (.invokestatic 71, 3) := by decide +kernel
theorem dX8_lasts_21 : decode cX8_lasts 21 = .ok (.ifCond .ne 5, 3) := by decide +kernel
theorem dX8_lasts_24 : decode cX8_lasts 24 = .ok (.iconst (-1), 1) := by decide +kernel
theorem dX8_lasts_25 : decode cX8_lasts 25 = .ok (.ireturn, 1) := by decide +kernel
theorem dX8_lasts_26 : decode cX8_lasts 26 = .ok (.aload_n 0, 1) := by decide +kernel
theorem dX8_lasts_27 : decode cX8_lasts 27 = .ok (.iload_n 1, 1) := by decide +kernel
theorem dX8_lasts_28 : decode cX8_lasts 28 = .ok (.iload_n 2, 1) := by decide +kernel
theorem dX8_lasts_29 : decode cX8_lasts 29 = .ok (.iload_n 3, 1) := by decide +kernel
theorem dX8_lasts_30 : decode cX8_lasts 30 = .ok (.invokevirtual 307, 3) := by decide +kernel
theorem dX8_lasts_33 : decode cX8_lasts 33 = .ok (.istore 4, 2) := by decide +kernel
theorem dX8_lasts_35 : decode cX8_lasts 35 = .ok (.aload_n 0, 1) := by decide +kernel
theorem dX8_lasts_36 : decode cX8_lasts 36 = .ok (.aload_n 0, 1) := by decide +kernel
theorem dX8_lasts_37 : decode cX8_lasts 37 = .ok (.getfield 304, 3) := by decide +kernel
theorem dX8_lasts_40 : decode cX8_lasts 40 = .ok (.iload 4, 2) := by decide +kernel
theorem dX8_lasts_42 : decode cX8_lasts 42 = .ok (.invokevirtual 93, 3) := by decide +kernel
theorem dX8_lasts_45 : decode cX8_lasts 45 = .ok (.ireturn, 1) := by decide +kernel
theorem dX8_scrape_0 : decode cX8_scrape 0 = .ok (.iload_n 1, 1) := by decide +kernel
theorem dX8_scrape_1 : decode cX8_scrape 1 = .ok (.invokestatic 297, 3) := by decide +kernel
theorem dX8_scrape_4 : decode cX8_scrape 4 = .ok (.ifCond .eq 10, 3) := by decide +kernel
theorem dX8_scrape_7 : decode cX8_scrape 7 = .ok (.iload_n 2, 1) := by decide +kernel
theorem dX8_scrape_8 : decode cX8_scrape 8 = .ok (.invokestatic 297, 3) := by decide +kernel
theorem dX8_scrape_11 : decode cX8_scrape 11 = .ok (.ifCond .ne 5, 3) := by decide +kernel
theorem dX8_scrape_14 : decode cX8_scrape 14 = .ok (.iconst (-1), 1) := by decide +kernel
theorem dX8_scrape_15 : decode cX8_scrape 15 = .ok (.ireturn, 1) := by decide +kernel
theorem dX8_scrape_16 : decode cX8_scrape 16 = .ok (.iconst 0, 1) := by decide +kernel
theorem dX8_scrape_17 : decode cX8_scrape 17 = .ok (.istore_n 3, 1) := by decide +kernel
theorem dX8_scrape_18 : decode cX8_scrape 18 = .ok (.iconst (-1), 1) := by decide +kernel
theorem dX8_scrape_19 : decode cX8_scrape 19 = .ok (.istore 4, 2) := by decide +kernel
theorem dX8_scrape_21 : decode cX8_scrape 21 = .ok (.iconst 0, 1) := by decide +kernel
theorem dX8_scrape_22 : decode cX8_scrape 22 = .ok (.istore 5, 2) := by decide +kernel
theorem dX8_scrape_24 : decode cX8_scrape 24 = .ok (.iload 5, 2) := by decide +kernel
theorem dX8_scrape_26 : decode cX8_scrape 26 = .ok (.bipush 9, 2) := by decide +kernel
theorem dX8_scrape_28 : decode cX8_scrape 28 = .ok (.if_icmp .gt 42, 3) := by decide +kernel
theorem dX8_scrape_31 : decode cX8_scrape 31 = .ok (.aload_n 0, 1) := by decide +kernel
theorem dX8_scrape_32 : decode cX8_scrape 32 = .ok (.iload_n 1, 1) := by decide +kernel
theorem dX8_scrape_33 : decode cX8_scrape 33 = .ok (.iload_n 2, 1) := by decide +kernel
theorem dX8_scrape_34 : decode cX8_scrape 34 = .ok (.iload 5, 2) := by decide +kernel
theorem dX8_scrape_36 : decode cX8_scrape 36 = .ok (.invokevirtual 307, 3) := by decide +kernel
theorem dX8_scrape_39 : decode cX8_scrape 39 = .ok (.istore 6, 2) := by decide +kernel
theorem dX8_scrape_41 : decode cX8_scrape 41 = .ok (.iload 6, 2) := by decide +kernel
theorem dX8_scrape_43 : decode cX8_scrape 43 = .ok (.iload 4, 2) := by decide +kernel
theorem dX8_scrape_45 : decode cX8_scrape 45 = .ok (.if_icmp .le 8, 3) := by decide +kernel
theorem dX8_scrape_48 : decode cX8_scrape 48 = .ok (.iload 5, 2) := by decide +kernel
theorem dX8_scrape_50 : decode cX8_scrape 50 = .ok (.goto 4, 3) := by decide +kernel
theorem dX8_scrape_53 : decode cX8_scrape 53 = .ok (.iload_n 3, 1) := by decide +kernel
theorem dX8_scrape_54 : decode cX8_scrape 54 = .ok (.istore_n 3, 1) := by decide +kernel
theorem dX8_scrape_55 : decode cX8_scrape 55 = .ok (.iload 4, 2) := by decide +kernel
theorem dX8_scrape_57 : decode cX8_scrape 57 = .ok (.iload 6, 2) := by decide +kernel
theorem dX8_scrape_59 : decode cX8_scrape 59 = .ok (.invokestatic 284, 3) := by decide +kernel
theorem dX8_scrape_62 : decode cX8_scrape 62 = .ok (.istore 4, 2) := by decide +kernel
theorem dX8_scrape_64 : decode cX8_scrape 64 = .ok (.iinc 5 1, 3) := by decide +kernel
theorem dX8_scrape_67 : decode cX8_scrape 67 = .ok (.goto (-43), 3) := by decide +kernel
theorem dX8_scrape_70 : decode cX8_scrape 70 = .ok (.aload_n 0, 1) := by decide +kernel
theorem dX8_scrape_71 : decode cX8_scrape 71 = .ok (.iload 4, 2) := by decide +kernel
theorem dX8_scrape_73 : decode cX8_scrape 73 = .ok (.iload_n 3, 1) := by decide +kernel
theorem dX8_scrape_74 : decode cX8_scrape 74 = .ok (.invokevirtual 93, 3) := by decide +kernel
theorem dX8_scrape_77 : decode cX8_scrape 77 = .ok (.ireturn, 1) := by decide +kernel
theorem dX8_counted_0 : decode cX8_counted 0 = .ok (.iconst 0, 1) := by decide +kernel
theorem dX8_counted_1 : decode cX8_counted 1 = .ok (.istore_n 2, 1) := by decide +kernel
theorem dX8_counted_2 : decode cX8_counted 2 = .ok (.iconst 0, 1) := by decide +kernel
theorem dX8_counted_3 : decode cX8_counted 3 = .ok (.istore_n 3, 1) := by decide +kernel
theorem dX8_counted_4 : decode cX8_counted 4 = .ok (.iload_n 3, 1) := by decide +kernel
theorem dX8_counted_5 : decode cX8_counted 5 = .ok (.iconst 4, 1) := by decide +kernel
theorem dX8_counted_6 : decode cX8_counted 6 = .ok (.if_icmp .ge 77, 3) := by decide +kernel
theorem dX8_counted_9 : decode cX8_counted 9 = .ok (.iload_n 2, 1) := by decide +kernel
theorem dX8_counted_10 : decode cX8_counted 10 = .ok (.iload_n 1, 1) := by decide +kernel
theorem dX8_counted_11 : decode cX8_counted 11 = .ok (.ifCond .ne 12, 3) := by decide +kernel
theorem dX8_counted_14 : decode cX8_counted 14 = .ok (.aload_n 0, 1) := by decide +kernel
theorem dX8_counted_15 : decode cX8_counted 15 = .ok (.getfield 29, 3) := by decide +kernel
theorem dX8_counted_18 : decode cX8_counted 18 = .ok (.iload_n 3, 1) := by decide +kernel
theorem dX8_counted_19 : decode cX8_counted 19 = .ok (.baload, 1) := by decide +kernel
theorem dX8_counted_20 : decode cX8_counted 20 = .ok (.ifCond .ne 50, 3) := by decide +kernel
theorem dX8_counted_23 : decode cX8_counted 23 = .ok (.iload_n 1, 1) := by decide +kernel
theorem dX8_counted_24 : decode cX8_counted 24 = .ok (.iconst 1, 1) := by decide +kernel
theorem dX8_counted_25 : decode cX8_counted 25 = .ok (.if_icmp .ne 12, 3) := by decide +kernel
theorem dX8_counted_28 : decode cX8_counted 28 = .ok (.aload_n 0, 1) := by decide +kernel
theorem dX8_counted_29 : decode cX8_counted 29 = .ok (.getfield 36, 3) := by decide +kernel
theorem dX8_counted_32 : decode cX8_counted 32 = .ok (.iload_n 3, 1) := by decide +kernel
theorem dX8_counted_33 : decode cX8_counted 33 = .ok (.baload, 1) := by decide +kernel
theorem dX8_counted_34 : decode cX8_counted 34 = .ok (.ifCond .ne 36, 3) := by decide +kernel
theorem dX8_counted_37 : decode cX8_counted 37 = .ok (.iload_n 1, 1) := by decide +kernel
theorem dX8_counted_38 : decode cX8_counted 38 = .ok (.iconst 5, 1) := by decide +kernel
theorem dX8_counted_39 : decode cX8_counted 39 = .ok (.if_icmp .ne 16, 3) := by decide +kernel
theorem dX8_counted_42 : decode cX8_counted 42 = .ok (.iload_n 3, 1) := by decide +kernel
theorem dX8_counted_43 : decode cX8_counted 43 = .ok (.ifCond .le 12, 3) := by decide +kernel
theorem dX8_counted_46 : decode cX8_counted 46 = .ok (.aload_n 0, 1) := by decide +kernel
theorem dX8_counted_47 : decode cX8_counted 47 = .ok (.getfield 48, 3) := by decide +kernel
theorem dX8_counted_50 : decode cX8_counted 50 = .ok (.iload_n 3, 1) := by decide +kernel
theorem dX8_counted_51 : decode cX8_counted 51 = .ok (.baload, 1) := by decide +kernel
theorem dX8_counted_52 : decode cX8_counted 52 = .ok (.ifCond .ne 18, 3) := by decide +kernel
theorem dX8_counted_55 : decode cX8_counted 55 = .ok (.iload_n 1, 1) := by decide +kernel
theorem dX8_counted_56 : decode cX8_counted 56 = .ok (.bipush 7, 2) := by decide +kernel
theorem dX8_counted_58 : decode cX8_counted 58 = .ok (.if_icmp .ne 16, 3) := by decide +kernel
theorem dX8_counted_61 : decode cX8_counted 61 = .ok (.aload_n 0, 1) := by decide +kernel
theorem dX8_counted_62 : decode cX8_counted 62 = .ok (.getfield 22, 3) := by decide +kernel
theorem dX8_counted_65 : decode cX8_counted 65 = .ok (.iload_n 3, 1) := by decide +kernel
theorem dX8_counted_66 : decode cX8_counted 66 = .ok (.iaload, 1) := by decide +kernel
theorem dX8_counted_67 : decode cX8_counted 67 = .ok (.ifCond .lt 7, 3) := by decide +kernel
theorem dX8_counted_70 : decode cX8_counted 70 = .ok (.iconst 1, 1) := by decide +kernel
theorem dX8_counted_71 : decode cX8_counted 71 = .ok (.goto 4, 3) := by decide +kernel
theorem dX8_counted_74 : decode cX8_counted 74 = .ok (.iconst 0, 1) := by decide +kernel
theorem dX8_counted_75 : decode cX8_counted 75 = .ok (.iadd, 1) := by decide +kernel
theorem dX8_counted_76 : decode cX8_counted 76 = .ok (.istore_n 2, 1) := by decide +kernel
theorem dX8_counted_77 : decode cX8_counted 77 = .ok (.iinc 3 1, 3) := by decide +kernel
theorem dX8_counted_80 : decode cX8_counted 80 = .ok (.goto (-76), 3) := by decide +kernel
theorem dX8_counted_83 : decode cX8_counted 83 = .ok (.iconst 0, 1) := by decide +kernel
theorem dX8_counted_84 : decode cX8_counted 84 = .ok (.istore_n 3, 1) := by decide +kernel
theorem dX8_counted_85 : decode cX8_counted 85 = .ok (.iload_n 3, 1) := by decide +kernel
theorem dX8_counted_86 : decode cX8_counted 86 = .ok (.bipush 6, 2) := by decide +kernel
theorem dX8_counted_88 : decode cX8_counted 88 = .ok (.if_icmp .ge 32, 3) := by decide +kernel
theorem dX8_counted_91 : decode cX8_counted 91 = .ok (.iload_n 2, 1) := by decide +kernel
theorem dX8_counted_92 : decode cX8_counted 92 = .ok (.iload_n 1, 1) := by decide +kernel
theorem dX8_counted_93 : decode cX8_counted 93 = .ok (.bipush 6, 2) := by decide +kernel
theorem dX8_counted_95 : decode cX8_counted 95 = .ok (.if_icmp .ne 16, 3) := by decide +kernel
theorem dX8_counted_98 : decode cX8_counted 98 = .ok (.aload_n 0, 1) := by decide +kernel
theorem dX8_counted_99 : decode cX8_counted 99 = .ok (.getfield 13, 3) := by decide +kernel
theorem dX8_counted_102 : decode cX8_counted 102 = .ok (.iload_n 3, 1) := by decide +kernel
theorem dX8_counted_103 : decode cX8_counted 103 = .ok (.iaload, 1) := by decide +kernel
theorem dX8_counted_104 : decode cX8_counted 104 = .ok (.ifCond .lt 7, 3) := by decide +kernel
theorem dX8_counted_107 : decode cX8_counted 107 = .ok (.iconst 1, 1) := by decide +kernel
theorem dX8_counted_108 : decode cX8_counted 108 = .ok (.goto 4, 3) := by decide +kernel
theorem dX8_counted_111 : decode cX8_counted 111 = .ok (.iconst 0, 1) := by decide +kernel
theorem dX8_counted_112 : decode cX8_counted 112 = .ok (.iadd, 1) := by decide +kernel
theorem dX8_counted_113 : decode cX8_counted 113 = .ok (.istore_n 2, 1) := by decide +kernel
theorem dX8_counted_114 : decode cX8_counted 114 = .ok (.iinc 3 1, 3) := by decide +kernel
theorem dX8_counted_117 : decode cX8_counted 117 = .ok (.goto (-32), 3) := by decide +kernel
theorem dX8_counted_120 : decode cX8_counted 120 = .ok (.aload_n 0, 1) := by decide +kernel
theorem dX8_counted_121 : decode cX8_counted 121 = .ok (.iconst 0, 1) := by decide +kernel
theorem dX8_counted_122 : decode cX8_counted 122 = .ok (.invokevirtual 167, 3) := by decide +kernel
theorem dX8_counted_125 : decode cX8_counted 125 = .ok (.aload_n 0, 1) := by decide +kernel
theorem dX8_counted_126 : decode cX8_counted 126 = .ok (.getfield 48, 3) := by decide +kernel
theorem dX8_counted_129 : decode cX8_counted 129 = .ok (.iconst 0, 1) := by decide +kernel
theorem dX8_counted_130 : decode cX8_counted 130 = .ok (.baload, 1) := by decide +kernel
theorem dX8_counted_131 : decode cX8_counted 131 = .ok (.ifCond .eq 81, 3) := by decide +kernel
theorem dX8_counted_134 : decode cX8_counted 134 = .ok (.iload_n 2, 1) := by decide +kernel
theorem dX8_counted_135 : decode cX8_counted 135 = .ok (.iload_n 1, 1) := by decide +kernel
theorem dX8_counted_136 : decode cX8_counted 136 = .ok (.iconst 2, 1) := by decide +kernel
theorem dX8_counted_137 : decode cX8_counted 137 = .ok (.if_icmp .ne 12, 3) := by decide +kernel
theorem dX8_counted_140 : decode cX8_counted 140 = .ok (.aload_n 0, 1) := by decide +kernel
theorem dX8_counted_141 : decode cX8_counted 141 = .ok (.bipush 31, 2) := by decide +kernel
theorem dX8_counted_143 : decode cX8_counted 143 = .ok (.invokevirtual 154, 3) := by decide +kernel
theorem dX8_counted_146 : decode cX8_counted 146 = .ok (.goto 16, 3) := by decide +kernel
theorem dX8_counted_149 : decode cX8_counted 149 = .ok (.iload_n 1, 1) := by decide +kernel
theorem dX8_counted_150 : decode cX8_counted 150 = .ok (.iconst 3, 1) := by decide +kernel
theorem dX8_counted_151 : decode cX8_counted 151 = .ok (.if_icmp .ne 10, 3) := by decide +kernel
theorem dX8_counted_154 : decode cX8_counted 154 = .ok (.aload_n 0, 1) := by decide +kernel
theorem dX8_counted_155 : decode cX8_counted 155 = .ok (.invokevirtual 248, 3) := by decide +kernel
theorem dX8_counted_158 : decode cX8_counted 158 = .ok (.goto 4, 3) := by decide +kernel
theorem dX8_counted_161 : decode cX8_counted 161 = .ok (.iconst 0, 1) := by decide +kernel
theorem dX8_counted_162 : decode cX8_counted 162 = .ok (.iadd, 1) := by decide +kernel
theorem dX8_counted_163 : decode cX8_counted 163 = .ok (.istore_n 2, 1) := by decide +kernel
theorem dX8_counted_164 : decode cX8_counted 164 = .ok (.iconst 0, 1) := by decide +kernel
theorem dX8_counted_165 : decode cX8_counted 165 = .ok (.istore_n 3, 1) := by decide +kernel
theorem dX8_counted_166 : decode cX8_counted 166 = .ok (.iload_n 3, 1) := by decide +kernel
theorem dX8_counted_167 : decode cX8_counted 167 = .ok (.aload_n 0, 1) := by decide +kernel
theorem dX8_counted_168 : decode cX8_counted 168 = .ok (.iconst 0, 1) := by decide +kernel
theorem dX8_counted_169 : decode cX8_counted 169 = .ok (.invokevirtual 157, 3) := by decide +kernel
theorem dX8_counted_172 : decode cX8_counted 172 = .ok (.if_icmp .ge 40, 3) := by decide +kernel
theorem dX8_counted_175 : decode cX8_counted 175 = .ok (.iload_n 3, 1) := by decide +kernel
theorem dX8_counted_176 : decode cX8_counted 176 = .ok (.aload_n 0, 1) := by decide +kernel
theorem dX8_counted_177 : decode cX8_counted 177 = .ok (.bipush 31, 2) := by decide +kernel
theorem dX8_counted_179 : decode cX8_counted 179 = .ok (.invokevirtual 154, 3) := by decide +kernel
theorem dX8_counted_182 : decode cX8_counted 182 = .ok (.if_icmp .ge 30, 3) := by decide +kernel
theorem dX8_counted_185 : decode cX8_counted 185 = .ok (.iload_n 2, 1) := by decide +kernel
theorem dX8_counted_186 : decode cX8_counted 186 = .ok (.iload_n 1, 1) := by decide +kernel
theorem dX8_counted_187 : decode cX8_counted 187 = .ok (.iconst 4, 1) := by decide +kernel
theorem dX8_counted_188 : decode cX8_counted 188 = .ok (.if_icmp .ne 15, 3) := by decide +kernel
theorem dX8_counted_191 : decode cX8_counted 191 = .ok (.aload_n 0, 1) := by decide +kernel
theorem dX8_counted_192 : decode cX8_counted 192 = .ok (.iload_n 3, 1) := by decide +kernel
theorem dX8_counted_193 : decode cX8_counted 193 = .ok (.invokevirtual 185, 3) := by decide +kernel
theorem dX8_counted_196 : decode cX8_counted 196 = .ok (.ifCond .ne 7, 3) := by decide +kernel
theorem dX8_counted_199 : decode cX8_counted 199 = .ok (.iconst 1, 1) := by decide +kernel
theorem dX8_counted_200 : decode cX8_counted 200 = .ok (.goto 4, 3) := by decide +kernel
theorem dX8_counted_203 : decode cX8_counted 203 = .ok (.iconst 0, 1) := by decide +kernel
theorem dX8_counted_204 : decode cX8_counted 204 = .ok (.iadd, 1) := by decide +kernel
theorem dX8_counted_205 : decode cX8_counted 205 = .ok (.istore_n 2, 1) := by decide +kernel
theorem dX8_counted_206 : decode cX8_counted 206 = .ok (.iinc 3 1, 3) := by decide +kernel
theorem dX8_counted_209 : decode cX8_counted 209 = .ok (.goto (-43), 3) := by decide +kernel
theorem dX8_counted_212 : decode cX8_counted 212 = .ok (.iload_n 2, 1) := by decide +kernel
theorem dX8_counted_213 : decode cX8_counted 213 = .ok (.ireturn, 1) := by decide +kernel
theorem dX8_count_0 : decode cX8_count 0 = .ok (.iload_n 1, 1) := by decide +kernel
theorem dX8_count_1 : decode cX8_count 1 = .ok (.iconst 0, 1) := by decide +kernel
theorem dX8_count_2 : decode cX8_count 2 = .ok (.bipush 7, 2) := by decide +kernel
theorem dX8_count_4 : decode cX8_count 4 = .ok (.invokestatic 71, 3) := by decide +kernel
theorem dX8_count_7 : decode cX8_count 7 = .ok (.ifCond .eq 11, 3) := by decide +kernel
theorem dX8_count_10 : decode cX8_count 10 = .ok (.aload_n 0, 1) := by decide +kernel
theorem dX8_count_11 : decode cX8_count 11 = .ok (.iload_n 1, 1) := by decide +kernel
theorem dX8_count_12 : decode cX8_count 12 = .ok (.invokevirtual 311, 3) := by decide +kernel
theorem dX8_count_15 : decode cX8_count 15 = .ok (.goto 4, 3) := by decide +kernel
theorem dX8_count_18 : decode cX8_count 18 = .ok (.iconst (-1), 1) := by decide +kernel
theorem dX8_count_19 : decode cX8_count 19 = .ok (.ireturn, 1) := by decide +kernel
theorem dX8_mix_0 : decode cX8_mix 0 = .ok (.aload_n 0, 1) := by decide +kernel
theorem dX8_mix_1 : decode cX8_mix 1 = .ok (.ldc2_w 314, 3) := by decide +kernel
theorem dX8_mix_4 : decode cX8_mix 4 = .ok (.aload_n 0, 1) := by decide +kernel
theorem dX8_mix_5 : decode cX8_mix 5 = .ok (.getfield 316, 3) := by decide +kernel
theorem dX8_mix_8 : decode cX8_mix 8 = .ok (.lmul, 1) := by decide +kernel
theorem dX8_mix_9 : decode cX8_mix 9 = .ok (.lload_n 1, 1) := by decide +kernel
theorem dX8_mix_10 : decode cX8_mix 10 = .ok (.ladd, 1) := by decide +kernel
theorem dX8_mix_11 : decode cX8_mix 11 = .ok (.putfield 316, 3) := by decide +kernel
theorem dX8_mix_14 : decode cX8_mix 14 = .ok (.return_, 1) := by decide +kernel
theorem dX8_mixBooks_0 : decode cX8_mixBooks 0 = .ok (.iconst 0, 1) := by decide +kernel
theorem dX8_mixBooks_1 : decode cX8_mixBooks 1 = .ok (.istore_n 1, 1) := by decide +kernel
theorem dX8_mixBooks_2 : decode cX8_mixBooks 2 = .ok (.iload_n 1, 1) := by decide +kernel
theorem dX8_mixBooks_3 : decode cX8_mixBooks 3 = .ok (.iconst 4, 1) := by decide +kernel
theorem dX8_mixBooks_4 : decode cX8_mixBooks 4 = .ok (.if_icmp .ge 62, 3) := by decide +kernel
theorem dX8_mixBooks_7 : decode cX8_mixBooks 7 = .ok (.aload_n 0, 1) := by decide +kernel
theorem dX8_mixBooks_8 : decode cX8_mixBooks 8 = .ok (.getfield 29, 3) := by decide +kernel
theorem dX8_mixBooks_11 : decode cX8_mixBooks 11 = .ok (.iload_n 1, 1) := by decide +kernel
theorem dX8_mixBooks_12 : decode cX8_mixBooks 12 = .ok (.baload, 1) := by decide +kernel
theorem dX8_mixBooks_13 : decode cX8_mixBooks 13 = .ok (.ifCond .ne 10, 3) := by decide +kernel
theorem dX8_mixBooks_16 : decode cX8_mixBooks 16 = .ok (.aload_n 0, 1) := by decide +kernel
theorem dX8_mixBooks_17 : decode cX8_mixBooks 17 = .ok (.ldc2_w 319, 3) := by decide +kernel
theorem dX8_mixBooks_20 : decode cX8_mixBooks 20 = .ok (.invokevirtual 321, 3) := by decide +kernel
theorem dX8_mixBooks_23 : decode cX8_mixBooks 23 = .ok (.iconst 0, 1) := by decide +kernel
theorem dX8_mixBooks_24 : decode cX8_mixBooks 24 = .ok (.istore_n 2, 1) := by decide +kernel
theorem dX8_mixBooks_25 : decode cX8_mixBooks 25 = .ok (.iload_n 2, 1) := by decide +kernel
theorem dX8_mixBooks_26 : decode cX8_mixBooks 26 = .ok (.iconst 4, 1) := by decide +kernel
theorem dX8_mixBooks_27 : decode cX8_mixBooks 27 = .ok (.if_icmp .ge 33, 3) := by decide +kernel
theorem dX8_mixBooks_30 : decode cX8_mixBooks 30 = .ok (.aload_n 0, 1) := by decide +kernel
theorem dX8_mixBooks_31 : decode cX8_mixBooks 31 = .ok (.getfield 29, 3) := by decide +kernel
theorem dX8_mixBooks_34 : decode cX8_mixBooks 34 = .ok (.iload_n 1, 1) := by decide +kernel
theorem dX8_mixBooks_35 : decode cX8_mixBooks 35 = .ok (.baload, 1) := by decide +kernel
theorem dX8_mixBooks_36 : decode cX8_mixBooks 36 = .ok (.ifCond .eq 24, 3) := by decide +kernel
theorem dX8_mixBooks_39 : decode cX8_mixBooks 39 = .ok (.aload_n 0, 1) := by decide +kernel
theorem dX8_mixBooks_40 : decode cX8_mixBooks 40 = .ok (.aload_n 0, 1) := by decide +kernel
theorem dX8_mixBooks_41 : decode cX8_mixBooks 41 = .ok (.getfield 33, 3) := by decide +kernel
theorem dX8_mixBooks_44 : decode cX8_mixBooks 44 = .ok (.iconst 4, 1) := by decide +kernel
theorem dX8_mixBooks_45 : decode cX8_mixBooks 45 = .ok (.iload_n 1, 1) := by decide +kernel
theorem dX8_mixBooks_46 : decode cX8_mixBooks 46 = .ok (.imul, 1) := by decide +kernel
theorem dX8_mixBooks_47 : decode cX8_mixBooks 47 = .ok (.iload_n 2, 1) := by decide +kernel
theorem dX8_mixBooks_48 : decode cX8_mixBooks 48 = .ok (.iadd, 1) := by decide +kernel
theorem dX8_mixBooks_49 : decode cX8_mixBooks 49 = .ok (.iaload, 1) := by decide +kernel
theorem dX8_mixBooks_50 : decode cX8_mixBooks 50 = .ok (.i2l, 1) := by decide +kernel
theorem dX8_mixBooks_51 : decode cX8_mixBooks 51 = .ok (.invokevirtual 321, 3) := by decide +kernel
theorem dX8_mixBooks_54 : decode cX8_mixBooks 54 = .ok (.iinc 2 1, 3) := by decide +kernel
theorem dX8_mixBooks_57 : decode cX8_mixBooks 57 = .ok (.goto (-32), 3) := by decide +kernel
theorem dX8_mixBooks_60 : decode cX8_mixBooks 60 = .ok (.iinc 1 1, 3) := by decide +kernel
theorem dX8_mixBooks_63 : decode cX8_mixBooks 63 = .ok (.goto (-61), 3) := by decide +kernel
theorem dX8_mixBooks_66 : decode cX8_mixBooks 66 = .ok (.iconst 0, 1) := by decide +kernel
theorem dX8_mixBooks_67 : decode cX8_mixBooks 67 = .ok (.istore_n 1, 1) := by decide +kernel
theorem dX8_mixBooks_68 : decode cX8_mixBooks 68 = .ok (.iload_n 1, 1) := by decide +kernel
theorem dX8_mixBooks_69 : decode cX8_mixBooks 69 = .ok (.iconst 4, 1) := by decide +kernel
theorem dX8_mixBooks_70 : decode cX8_mixBooks 70 = .ok (.if_icmp .ge 119, 3) := by decide +kernel
theorem dX8_mixBooks_73 : decode cX8_mixBooks 73 = .ok (.aload_n 0, 1) := by decide +kernel
theorem dX8_mixBooks_74 : decode cX8_mixBooks 74 = .ok (.getfield 36, 3) := by decide +kernel
theorem dX8_mixBooks_77 : decode cX8_mixBooks 77 = .ok (.iload_n 1, 1) := by decide +kernel
theorem dX8_mixBooks_78 : decode cX8_mixBooks 78 = .ok (.baload, 1) := by decide +kernel
theorem dX8_mixBooks_79 : decode cX8_mixBooks 79 = .ok (.ifCond .ne 10, 3) := by decide +kernel
theorem dX8_mixBooks_82 : decode cX8_mixBooks 82 = .ok (.aload_n 0, 1) := by decide +kernel
theorem dX8_mixBooks_83 : decode cX8_mixBooks 83 = .ok (.ldc2_w 319, 3) := by decide +kernel
theorem dX8_mixBooks_86 : decode cX8_mixBooks 86 = .ok (.invokevirtual 321, 3) := by decide +kernel
theorem dX8_mixBooks_89 : decode cX8_mixBooks 89 = .ok (.iconst 0, 1) := by decide +kernel
theorem dX8_mixBooks_90 : decode cX8_mixBooks 90 = .ok (.istore_n 2, 1) := by decide +kernel
theorem dX8_mixBooks_91 : decode cX8_mixBooks 91 = .ok (.iload_n 2, 1) := by decide +kernel
theorem dX8_mixBooks_92 : decode cX8_mixBooks 92 = .ok (.iconst 4, 1) := by decide +kernel
theorem dX8_mixBooks_93 : decode cX8_mixBooks 93 = .ok (.if_icmp .ge 29, 3) := by decide +kernel
theorem dX8_mixBooks_96 : decode cX8_mixBooks 96 = .ok (.aload_n 0, 1) := by decide +kernel
theorem dX8_mixBooks_97 : decode cX8_mixBooks 97 = .ok (.getfield 36, 3) := by decide +kernel
theorem dX8_mixBooks_100 : decode cX8_mixBooks 100 = .ok (.iload_n 1, 1) := by decide +kernel
theorem dX8_mixBooks_101 : decode cX8_mixBooks 101 = .ok (.baload, 1) := by decide +kernel
theorem dX8_mixBooks_102 : decode cX8_mixBooks 102 = .ok (.ifCond .eq 20, 3) := by decide +kernel
theorem dX8_mixBooks_105 : decode cX8_mixBooks 105 = .ok (.aload_n 0, 1) := by decide +kernel
theorem dX8_mixBooks_106 : decode cX8_mixBooks 106 = .ok (.aload_n 0, 1) := by decide +kernel
theorem dX8_mixBooks_107 : decode cX8_mixBooks 107 = .ok (.iload_n 1, 1) := by decide +kernel
theorem dX8_mixBooks_108 : decode cX8_mixBooks 108 = .ok (.iload_n 2, 1) := by decide +kernel
theorem dX8_mixBooks_109 : decode cX8_mixBooks 109 = .ok (.invokevirtual 145, 3) := by decide +kernel
theorem dX8_mixBooks_112 : decode cX8_mixBooks 112 = .ok (.i2l, 1) := by decide +kernel
theorem dX8_mixBooks_113 : decode cX8_mixBooks 113 = .ok (.invokevirtual 321, 3) := by decide +kernel
theorem dX8_mixBooks_116 : decode cX8_mixBooks 116 = .ok (.iinc 2 1, 3) := by decide +kernel
theorem dX8_mixBooks_119 : decode cX8_mixBooks 119 = .ok (.goto (-28), 3) := by decide +kernel
theorem dX8_mixBooks_122 : decode cX8_mixBooks 122 = .ok (.iconst 0, 1) := by decide +kernel
theorem dX8_mixBooks_123 : decode cX8_mixBooks 123 = .ok (.istore_n 2, 1) := by decide +kernel
theorem dX8_mixBooks_124 : decode cX8_mixBooks 124 = .ok (.iload_n 2, 1) := by decide +kernel
theorem dX8_mixBooks_125 : decode cX8_mixBooks 125 = .ok (.aload_n 0, 1) := by decide +kernel
theorem dX8_mixBooks_126 : decode cX8_mixBooks 126 = .ok (.getfield 39, 3) := by decide +kernel
theorem dX8_mixBooks_129 : decode cX8_mixBooks 129 = .ok (.bipush 26, 2) := by decide +kernel
theorem dX8_mixBooks_131 : decode cX8_mixBooks 131 = .ok (.iload_n 1, 1) := by decide +kernel
theorem dX8_mixBooks_132 : decode cX8_mixBooks 132 = .ok (.imul, 1) := by decide +kernel
theorem dX8_mixBooks_133 : decode cX8_mixBooks 133 = .ok (.iaload, 1) := by decide +kernel
theorem dX8_mixBooks_134 : decode cX8_mixBooks 134 = .ok (.if_icmp .ge 49, 3) := by decide +kernel
theorem dX8_mixBooks_137 : decode cX8_mixBooks 137 = .ok (.aload_n 0, 1) := by decide +kernel
theorem dX8_mixBooks_138 : decode cX8_mixBooks 138 = .ok (.getfield 36, 3) := by decide +kernel
theorem dX8_mixBooks_141 : decode cX8_mixBooks 141 = .ok (.iload_n 1, 1) := by decide +kernel
theorem dX8_mixBooks_142 : decode cX8_mixBooks 142 = .ok (.baload, 1) := by decide +kernel
theorem dX8_mixBooks_143 : decode cX8_mixBooks 143 = .ok (.ifCond .eq 40, 3) := by decide +kernel
theorem dX8_mixBooks_146 : decode cX8_mixBooks 146 = .ok (.aload_n 0, 1) := by decide +kernel
theorem dX8_mixBooks_147 : decode cX8_mixBooks 147 = .ok (.aload_n 0, 1) := by decide +kernel
theorem dX8_mixBooks_148 : decode cX8_mixBooks 148 = .ok (.getfield 39, 3) := by decide +kernel
theorem dX8_mixBooks_151 : decode cX8_mixBooks 151 = .ok (.bipush 26, 2) := by decide +kernel
theorem dX8_mixBooks_153 : decode cX8_mixBooks 153 = .ok (.iload_n 1, 1) := by decide +kernel
theorem dX8_mixBooks_154 : decode cX8_mixBooks 154 = .ok (.imul, 1) := by decide +kernel
theorem dX8_mixBooks_155 : decode cX8_mixBooks 155 = .ok (.iconst 2, 1) := by decide +kernel
theorem dX8_mixBooks_156 : decode cX8_mixBooks 156 = .ok (.iadd, 1) := by decide +kernel
theorem dX8_mixBooks_157 : decode cX8_mixBooks 157 = .ok (.iconst 3, 1) := by decide +kernel
theorem dX8_mixBooks_158 : decode cX8_mixBooks 158 = .ok (.iload_n 2, 1) := by decide +kernel
theorem dX8_mixBooks_159 : decode cX8_mixBooks 159 = .ok (.imul, 1) := by decide +kernel
theorem dX8_mixBooks_160 : decode cX8_mixBooks 160 = .ok (.iadd, 1) := by decide +kernel
theorem dX8_mixBooks_161 : decode cX8_mixBooks 161 = .ok (.iaload, 1) := by decide +kernel
theorem dX8_mixBooks_162 : decode cX8_mixBooks 162 = .ok (.i2l, 1) := by decide +kernel
theorem dX8_mixBooks_163 : decode cX8_mixBooks 163 = .ok (.invokevirtual 321, 3) := by decide +kernel
theorem dX8_mixBooks_166 : decode cX8_mixBooks 166 = .ok (.aload_n 0, 1) := by decide +kernel
theorem dX8_mixBooks_167 : decode cX8_mixBooks 167 = .ok (.aload_n 0, 1) := by decide +kernel
theorem dX8_mixBooks_168 : decode cX8_mixBooks 168 = .ok (.iload_n 1, 1) := by decide +kernel
theorem dX8_mixBooks_169 : decode cX8_mixBooks 169 = .ok (.iload_n 2, 1) := by decide +kernel
theorem dX8_mixBooks_170 : decode cX8_mixBooks 170 = .ok (.invokevirtual 148, 3) := by decide +kernel
theorem dX8_mixBooks_173 : decode cX8_mixBooks 173 = .ok (.i2l, 1) := by decide +kernel
theorem dX8_mixBooks_174 : decode cX8_mixBooks 174 = .ok (.invokevirtual 321, 3) := by decide +kernel
theorem dX8_mixBooks_177 : decode cX8_mixBooks 177 = .ok (.iinc 2 1, 3) := by decide +kernel
theorem dX8_mixBooks_180 : decode cX8_mixBooks 180 = .ok (.goto (-56), 3) := by decide +kernel
theorem dX8_mixBooks_183 : decode cX8_mixBooks 183 = .ok (.iinc 1 1, 3) := by decide +kernel
theorem dX8_mixBooks_186 : decode cX8_mixBooks 186 = .ok (.goto (-118), 3) := by decide +kernel
theorem dX8_mixBooks_189 : decode cX8_mixBooks 189 = .ok (.return_, 1) := by decide +kernel
theorem dX8_mixHouse_0 : decode cX8_mixHouse 0 = .ok (.aload_n 0, 1) := by decide +kernel
theorem dX8_mixHouse_1 : decode cX8_mixHouse 1 = .ok (.iconst 0, 1) := by decide +kernel
theorem dX8_mixHouse_2 : decode cX8_mixHouse 2 = .ok (.invokevirtual 167, 3) := by decide +kernel
theorem dX8_mixHouse_5 : decode cX8_mixHouse 5 = .ok (.aload_n 0, 1) := by decide +kernel
theorem dX8_mixHouse_6 : decode cX8_mixHouse 6 = .ok (.getfield 48, 3) := by decide +kernel
theorem dX8_mixHouse_9 : decode cX8_mixHouse 9 = .ok (.iconst 0, 1) := by decide +kernel
theorem dX8_mixHouse_10 : decode cX8_mixHouse 10 = .ok (.baload, 1) := by decide +kernel
theorem dX8_mixHouse_11 : decode cX8_mixHouse 11 = .ok (.ifCond .eq 48, 3) := by decide +kernel
theorem dX8_mixHouse_14 : decode cX8_mixHouse 14 = .ok (.iconst 0, 1) := by decide +kernel
theorem dX8_mixHouse_15 : decode cX8_mixHouse 15 = .ok (.istore_n 1, 1) := by decide +kernel
theorem dX8_mixHouse_16 : decode cX8_mixHouse 16 = .ok (.iload_n 1, 1) := by decide +kernel
theorem dX8_mixHouse_17 : decode cX8_mixHouse 17 = .ok (.aload_n 0, 1) := by decide +kernel
theorem dX8_mixHouse_18 : decode cX8_mixHouse 18 = .ok (.bipush 31, 2) := by decide +kernel
theorem dX8_mixHouse_20 : decode cX8_mixHouse 20 = .ok (.invokevirtual 154, 3) := by decide +kernel
theorem dX8_mixHouse_23 : decode cX8_mixHouse 23 = .ok (.if_icmp .ge 33, 3) := by decide +kernel
theorem dX8_mixHouse_26 : decode cX8_mixHouse 26 = .ok (.iconst 0, 1) := by decide +kernel
theorem dX8_mixHouse_27 : decode cX8_mixHouse 27 = .ok (.istore_n 2, 1) := by decide +kernel
theorem dX8_mixHouse_28 : decode cX8_mixHouse 28 = .ok (.iload_n 2, 1) := by decide +kernel
theorem dX8_mixHouse_29 : decode cX8_mixHouse 29 = .ok (.iconst 5, 1) := by decide +kernel
theorem dX8_mixHouse_30 : decode cX8_mixHouse 30 = .ok (.if_icmp .ge 20, 3) := by decide +kernel
theorem dX8_mixHouse_33 : decode cX8_mixHouse 33 = .ok (.aload_n 0, 1) := by decide +kernel
theorem dX8_mixHouse_34 : decode cX8_mixHouse 34 = .ok (.aload_n 0, 1) := by decide +kernel
theorem dX8_mixHouse_35 : decode cX8_mixHouse 35 = .ok (.iload_n 1, 1) := by decide +kernel
theorem dX8_mixHouse_36 : decode cX8_mixHouse 36 = .ok (.iload_n 2, 1) := by decide +kernel
theorem dX8_mixHouse_37 : decode cX8_mixHouse 37 = .ok (.invokevirtual 245, 3) := by decide +kernel
theorem dX8_mixHouse_40 : decode cX8_mixHouse 40 = .ok (.i2l, 1) := by decide +kernel
theorem dX8_mixHouse_41 : decode cX8_mixHouse 41 = .ok (.invokevirtual 321, 3) := by decide +kernel
theorem dX8_mixHouse_44 : decode cX8_mixHouse 44 = .ok (.iinc 2 1, 3) := by decide +kernel
theorem dX8_mixHouse_47 : decode cX8_mixHouse 47 = .ok (.goto (-19), 3) := by decide +kernel
theorem dX8_mixHouse_50 : decode cX8_mixHouse 50 = .ok (.iinc 1 1, 3) := by decide +kernel
theorem dX8_mixHouse_53 : decode cX8_mixHouse 53 = .ok (.goto (-37), 3) := by decide +kernel
theorem dX8_mixHouse_56 : decode cX8_mixHouse 56 = .ok (.goto 10, 3) := by decide +kernel
theorem dX8_mixHouse_59 : decode cX8_mixHouse 59 = .ok (.aload_n 0, 1) := by decide +kernel
theorem dX8_mixHouse_60 : decode cX8_mixHouse 60 = .ok (.ldc2_w 319, 3) := by decide +kernel
theorem dX8_mixHouse_63 : decode cX8_mixHouse 63 = .ok (.invokevirtual 321, 3) := by decide +kernel
theorem dX8_mixHouse_66 : decode cX8_mixHouse 66 = .ok (.return_, 1) := by decide +kernel
theorem dX8_digest_0 : decode cX8_digest 0 = .ok (.aload_n 0, 1) := by decide +kernel
theorem dX8_digest_1 : decode cX8_digest 1 = .ok (.ldc2_w 325, 3) := by decide +kernel
theorem dX8_digest_4 : decode cX8_digest 4 = .ok (.putfield 316, 3) := by decide +kernel
theorem dX8_digest_7 : decode cX8_digest 7 = .ok (.iconst 0, 1) := by decide +kernel
theorem dX8_digest_8 : decode cX8_digest 8 = .ok (.istore_n 1, 1) := by decide +kernel
theorem dX8_digest_9 : decode cX8_digest 9 = .ok (.iload_n 1, 1) := by decide +kernel
theorem dX8_digest_10 : decode cX8_digest 10 = .ok (.bipush 8, 2) := by decide +kernel
theorem dX8_digest_12 : decode cX8_digest 12 = .ok (.if_icmp .ge 19, 3) := by decide +kernel
theorem dX8_digest_15 : decode cX8_digest 15 = .ok (.aload_n 0, 1) := by decide +kernel
theorem dX8_digest_16 : decode cX8_digest 16 = .ok (.aload_n 0, 1) := by decide +kernel
theorem dX8_digest_17 : decode cX8_digest 17 = .ok (.iload_n 1, 1) := by decide +kernel
theorem dX8_digest_18 : decode cX8_digest 18 = .ok (.invokevirtual 311, 3) := by decide +kernel
theorem dX8_digest_21 : decode cX8_digest 21 = .ok (.i2l, 1) := by decide +kernel
theorem dX8_digest_22 : decode cX8_digest 22 = .ok (.invokevirtual 321, 3) := by decide +kernel
theorem dX8_digest_25 : decode cX8_digest 25 = .ok (.iinc 1 1, 3) := by decide +kernel
theorem dX8_digest_28 : decode cX8_digest 28 = .ok (.goto (-19), 3) := by decide +kernel
theorem dX8_digest_31 : decode cX8_digest 31 = .ok (.aload_n 0, 1) := by decide +kernel
theorem dX8_digest_32 : decode cX8_digest 32 = .ok (.invokevirtual 327, 3) := by decide +kernel
theorem dX8_digest_35 : decode cX8_digest 35 = .ok (.aload_n 0, 1) := by decide +kernel
theorem dX8_digest_36 : decode cX8_digest 36 = .ok (.invokevirtual 330, 3) := by decide +kernel
theorem dX8_digest_39 : decode cX8_digest 39 = .ok (.iconst 0, 1) := by decide +kernel
theorem dX8_digest_40 : decode cX8_digest 40 = .ok (.istore_n 1, 1) := by decide +kernel
theorem dX8_digest_41 : decode cX8_digest 41 = .ok (.iload_n 1, 1) := by decide +kernel
theorem dX8_digest_42 : decode cX8_digest 42 = .ok (.bipush 6, 2) := by decide +kernel
theorem dX8_digest_44 : decode cX8_digest 44 = .ok (.if_icmp .ge 49, 3) := by decide +kernel
theorem dX8_digest_47 : decode cX8_digest 47 = .ok (.aload_n 0, 1) := by decide +kernel
theorem dX8_digest_48 : decode cX8_digest 48 = .ok (.aload_n 0, 1) := by decide +kernel
theorem dX8_digest_49 : decode cX8_digest 49 = .ok (.getfield 13, 3) := by decide +kernel
theorem dX8_digest_52 : decode cX8_digest 52 = .ok (.iload_n 1, 1) := by decide +kernel
theorem dX8_digest_53 : decode cX8_digest 53 = .ok (.iaload, 1) := by decide +kernel
theorem dX8_digest_54 : decode cX8_digest 54 = .ok (.i2l, 1) := by decide +kernel
theorem dX8_digest_55 : decode cX8_digest 55 = .ok (.invokevirtual 321, 3) := by decide +kernel
theorem dX8_digest_58 : decode cX8_digest 58 = .ok (.iconst 0, 1) := by decide +kernel
theorem dX8_digest_59 : decode cX8_digest 59 = .ok (.istore_n 2, 1) := by decide +kernel
theorem dX8_digest_60 : decode cX8_digest 60 = .ok (.iload_n 2, 1) := by decide +kernel
theorem dX8_digest_61 : decode cX8_digest 61 = .ok (.aload_n 0, 1) := by decide +kernel
theorem dX8_digest_62 : decode cX8_digest 62 = .ok (.getfield 13, 3) := by decide +kernel
theorem dX8_digest_65 : decode cX8_digest 65 = .ok (.iload_n 1, 1) := by decide +kernel
theorem dX8_digest_66 : decode cX8_digest 66 = .ok (.iaload, 1) := by decide +kernel
theorem dX8_digest_67 : decode cX8_digest 67 = .ok (.if_icmp .ge 20, 3) := by decide +kernel
theorem dX8_digest_70 : decode cX8_digest 70 = .ok (.aload_n 0, 1) := by decide +kernel
theorem dX8_digest_71 : decode cX8_digest 71 = .ok (.aload_n 0, 1) := by decide +kernel
theorem dX8_digest_72 : decode cX8_digest 72 = .ok (.iload_n 1, 1) := by decide +kernel
theorem dX8_digest_73 : decode cX8_digest 73 = .ok (.iload_n 2, 1) := by decide +kernel
theorem dX8_digest_74 : decode cX8_digest 74 = .ok (.invokevirtual 89, 3) := by decide +kernel
theorem dX8_digest_77 : decode cX8_digest 77 = .ok (.i2l, 1) := by decide +kernel
theorem dX8_digest_78 : decode cX8_digest 78 = .ok (.invokevirtual 321, 3) := by decide +kernel
theorem dX8_digest_81 : decode cX8_digest 81 = .ok (.iinc 2 1, 3) := by decide +kernel
theorem dX8_digest_84 : decode cX8_digest 84 = .ok (.goto (-24), 3) := by decide +kernel
theorem dX8_digest_87 : decode cX8_digest 87 = .ok (.iinc 1 1, 3) := by decide +kernel
theorem dX8_digest_90 : decode cX8_digest 90 = .ok (.goto (-49), 3) := by decide +kernel
theorem dX8_digest_93 : decode cX8_digest 93 = .ok (.iconst 0, 1) := by decide +kernel
theorem dX8_digest_94 : decode cX8_digest 94 = .ok (.istore_n 1, 1) := by decide +kernel
theorem dX8_digest_95 : decode cX8_digest 95 = .ok (.iload_n 1, 1) := by decide +kernel
theorem dX8_digest_96 : decode cX8_digest 96 = .ok (.iconst 4, 1) := by decide +kernel
theorem dX8_digest_97 : decode cX8_digest 97 = .ok (.if_icmp .ge 49, 3) := by decide +kernel
theorem dX8_digest_100 : decode cX8_digest 100 = .ok (.aload_n 0, 1) := by decide +kernel
theorem dX8_digest_101 : decode cX8_digest 101 = .ok (.aload_n 0, 1) := by decide +kernel
theorem dX8_digest_102 : decode cX8_digest 102 = .ok (.getfield 22, 3) := by decide +kernel
theorem dX8_digest_105 : decode cX8_digest 105 = .ok (.iload_n 1, 1) := by decide +kernel
theorem dX8_digest_106 : decode cX8_digest 106 = .ok (.iaload, 1) := by decide +kernel
theorem dX8_digest_107 : decode cX8_digest 107 = .ok (.i2l, 1) := by decide +kernel
theorem dX8_digest_108 : decode cX8_digest 108 = .ok (.invokevirtual 321, 3) := by decide +kernel
theorem dX8_digest_111 : decode cX8_digest 111 = .ok (.iconst 0, 1) := by decide +kernel
theorem dX8_digest_112 : decode cX8_digest 112 = .ok (.istore_n 2, 1) := by decide +kernel
theorem dX8_digest_113 : decode cX8_digest 113 = .ok (.iload_n 2, 1) := by decide +kernel
theorem dX8_digest_114 : decode cX8_digest 114 = .ok (.aload_n 0, 1) := by decide +kernel
theorem dX8_digest_115 : decode cX8_digest 115 = .ok (.getfield 22, 3) := by decide +kernel
theorem dX8_digest_118 : decode cX8_digest 118 = .ok (.iload_n 1, 1) := by decide +kernel
theorem dX8_digest_119 : decode cX8_digest 119 = .ok (.iaload, 1) := by decide +kernel
theorem dX8_digest_120 : decode cX8_digest 120 = .ok (.if_icmp .ge 20, 3) := by decide +kernel
theorem dX8_digest_123 : decode cX8_digest 123 = .ok (.aload_n 0, 1) := by decide +kernel
theorem dX8_digest_124 : decode cX8_digest 124 = .ok (.aload_n 0, 1) := by decide +kernel
theorem dX8_digest_125 : decode cX8_digest 125 = .ok (.iload_n 1, 1) := by decide +kernel
theorem dX8_digest_126 : decode cX8_digest 126 = .ok (.iload_n 2, 1) := by decide +kernel
theorem dX8_digest_127 : decode cX8_digest 127 = .ok (.invokevirtual 102, 3) := by decide +kernel
theorem dX8_digest_130 : decode cX8_digest 130 = .ok (.i2l, 1) := by decide +kernel
theorem dX8_digest_131 : decode cX8_digest 131 = .ok (.invokevirtual 321, 3) := by decide +kernel
theorem dX8_digest_134 : decode cX8_digest 134 = .ok (.iinc 2 1, 3) := by decide +kernel
theorem dX8_digest_137 : decode cX8_digest 137 = .ok (.goto (-24), 3) := by decide +kernel
theorem dX8_digest_140 : decode cX8_digest 140 = .ok (.iinc 1 1, 3) := by decide +kernel
theorem dX8_digest_143 : decode cX8_digest 143 = .ok (.goto (-48), 3) := by decide +kernel
theorem dX8_digest_146 : decode cX8_digest 146 = .ok (.aload_n 0, 1) := by decide +kernel
theorem dX8_digest_147 : decode cX8_digest 147 = .ok (.getfield 316, 3) := by decide +kernel
theorem dX8_digest_150 : decode cX8_digest 150 = .ok (.lreturn, 1) := by decide +kernel
theorem dJ9_max_7cf53_0 : decode cJ9_max_7cf53 0 = .ok (.iload_n 0, 1) := by decide +kernel
theorem dJ9_max_7cf53_1 : decode cJ9_max_7cf53 1 = .ok (.iload_n 1, 1) := by decide +kernel
theorem dJ9_max_7cf53_2 : decode cJ9_max_7cf53 2 = .ok (.if_icmp .lt 7, 3) := by decide +kernel
theorem dJ9_max_7cf53_5 : decode cJ9_max_7cf53 5 = .ok (.iload_n 0, 1) := by decide +kernel
theorem dJ9_max_7cf53_6 : decode cJ9_max_7cf53 6 = .ok (.goto 4, 3) := by decide +kernel
theorem dJ9_max_7cf53_9 : decode cJ9_max_7cf53 9 = .ok (.iload_n 1, 1) := by decide +kernel
theorem dJ9_max_7cf53_10 : decode cJ9_max_7cf53 10 = .ok (.ireturn, 1) := by decide +kernel
theorem dJ9_min_7cf53_0 : decode cJ9_min_7cf53 0 = .ok (.iload_n 0, 1) := by decide +kernel
theorem dJ9_min_7cf53_1 : decode cJ9_min_7cf53 1 = .ok (.iload_n 1, 1) := by decide +kernel
theorem dJ9_min_7cf53_2 : decode cJ9_min_7cf53 2 = .ok (.if_icmp .gt 7, 3) := by decide +kernel
theorem dJ9_min_7cf53_5 : decode cJ9_min_7cf53 5 = .ok (.iload_n 0, 1) := by decide +kernel
theorem dJ9_min_7cf53_6 : decode cJ9_min_7cf53 6 = .ok (.goto 4, 3) := by decide +kernel
theorem dJ9_min_7cf53_9 : decode cJ9_min_7cf53 9 = .ok (.iload_n 1, 1) := by decide +kernel
theorem dJ9_min_7cf53_10 : decode cJ9_min_7cf53 10 = .ok (.ireturn, 1) := by decide +kernel
theorem dJ7_fill_53178_0 : decode cJ7_fill_53178 0 = .ok (.iconst 0, 1) := by decide +kernel
theorem dJ7_fill_53178_1 : decode cJ7_fill_53178 1 = .ok (.istore_n 2, 1) := by decide +kernel
theorem dJ7_fill_53178_2 : decode cJ7_fill_53178 2 = .ok (.aload_n 0, 1) := by decide +kernel
theorem dJ7_fill_53178_3 : decode cJ7_fill_53178 3 = .ok (.arraylength, 1) := by decide +kernel
theorem dJ7_fill_53178_4 : decode cJ7_fill_53178 4 = .ok (.istore_n 3, 1) := by decide +kernel
theorem dJ7_fill_53178_5 : decode cJ7_fill_53178 5 = .ok (.iload_n 2, 1) := by decide +kernel
theorem dJ7_fill_53178_6 : decode cJ7_fill_53178 6 = .ok (.iload_n 3, 1) := by decide +kernel
theorem dJ7_fill_53178_7 : decode cJ7_fill_53178 7 = .ok (.if_icmp .ge 13, 3) := by decide +kernel
theorem dJ7_fill_53178_10 : decode cJ7_fill_53178 10 = .ok (.aload_n 0, 1) := by decide +kernel
theorem dJ7_fill_53178_11 : decode cJ7_fill_53178 11 = .ok (.iload_n 2, 1) := by decide +kernel
theorem dJ7_fill_53178_12 : decode cJ7_fill_53178 12 = .ok (.iload_n 1, 1) := by decide +kernel
theorem dJ7_fill_53178_13 : decode cJ7_fill_53178 13 = .ok (.iastore, 1) := by decide +kernel
theorem dJ7_fill_53178_14 : decode cJ7_fill_53178 14 = .ok (.iinc 2 1, 3) := by decide +kernel
theorem dJ7_fill_53178_17 : decode cJ7_fill_53178 17 = .ok (.goto (-12), 3) := by decide +kernel
theorem dJ7_fill_53178_20 : decode cJ7_fill_53178 20 = .ok (.return_, 1) := by decide +kernel
theorem dJ7_fill_031fb_0 : decode cJ7_fill_031fb 0 = .ok (.iconst 0, 1) := by decide +kernel
theorem dJ7_fill_031fb_1 : decode cJ7_fill_031fb 1 = .ok (.istore_n 2, 1) := by decide +kernel
theorem dJ7_fill_031fb_2 : decode cJ7_fill_031fb 2 = .ok (.aload_n 0, 1) := by decide +kernel
theorem dJ7_fill_031fb_3 : decode cJ7_fill_031fb 3 = .ok (.arraylength, 1) := by decide +kernel
theorem dJ7_fill_031fb_4 : decode cJ7_fill_031fb 4 = .ok (.istore_n 3, 1) := by decide +kernel
theorem dJ7_fill_031fb_5 : decode cJ7_fill_031fb 5 = .ok (.iload_n 2, 1) := by decide +kernel
theorem dJ7_fill_031fb_6 : decode cJ7_fill_031fb 6 = .ok (.iload_n 3, 1) := by decide +kernel
theorem dJ7_fill_031fb_7 : decode cJ7_fill_031fb 7 = .ok (.if_icmp .ge 13, 3) := by decide +kernel
theorem dJ7_fill_031fb_10 : decode cJ7_fill_031fb 10 = .ok (.aload_n 0, 1) := by decide +kernel
theorem dJ7_fill_031fb_11 : decode cJ7_fill_031fb 11 = .ok (.iload_n 2, 1) := by decide +kernel
theorem dJ7_fill_031fb_12 : decode cJ7_fill_031fb 12 = .ok (.iload_n 1, 1) := by decide +kernel
theorem dJ7_fill_031fb_13 : decode cJ7_fill_031fb 13 = .ok (.bastore, 1) := by decide +kernel
theorem dJ7_fill_031fb_14 : decode cJ7_fill_031fb 14 = .ok (.iinc 2 1, 3) := by decide +kernel
theorem dJ7_fill_031fb_17 : decode cJ7_fill_031fb 17 = .ok (.goto (-12), 3) := by decide +kernel
theorem dJ7_fill_031fb_20 : decode cJ7_fill_031fb 20 = .ok (.return_, 1) := by decide +kernel
theorem dL_law_0 : decode cL_law 0 = .ok (.new 7, 3) := by decide +kernel
theorem dL_law_3 : decode cL_law 3 = .ok (.dup, 1) := by decide +kernel
theorem dL_law_4 : decode cL_law 4 = .ok (.invokespecial 9, 3) := by decide +kernel
theorem dL_law_7 : decode cL_law 7 = .ok (.astore_n 1, 1) := by decide +kernel
theorem dL_law_8 : decode cL_law 8 = .ok (.new 10, 3) := by decide +kernel
theorem dL_law_11 : decode cL_law 11 = .ok (.dup, 1) := by decide +kernel
theorem dL_law_12 : decode cL_law 12 = .ok (.invokespecial 12, 3) := by decide +kernel
theorem dL_law_15 : decode cL_law 15 = .ok (.astore_n 2, 1) := by decide +kernel
theorem dL_law_16 : decode cL_law 16 = .ok (.iconst 0, 1) := by decide +kernel
theorem dL_law_17 : decode cL_law 17 = .ok (.istore_n 3, 1) := by decide +kernel
theorem dL_law_18 : decode cL_law 18 = .ok (.iload_n 3, 1) := by decide +kernel
theorem dL_law_19 : decode cL_law 19 = .ok (.aload_n 0, 1) := by decide +kernel
theorem dL_law_20 : decode cL_law 20 = .ok (.arraylength, 1) := by decide +kernel
theorem dL_law_21 : decode cL_law 21 = .ok (.bipush 7, 2) := by decide +kernel
theorem dL_law_23 : decode cL_law 23 = .ok (.isub, 1) := by decide +kernel
theorem dL_law_24 : decode cL_law 24 = .ok (.if_icmp .gt 1625, 3) := by decide +kernel
theorem dL_law_27 : decode cL_law 27 = .ok (.aload_n 0, 1) := by decide +kernel
theorem dL_law_28 : decode cL_law 28 = .ok (.iload_n 3, 1) := by decide +kernel
theorem dL_law_29 : decode cL_law 29 = .ok (.iaload, 1) := by decide +kernel
theorem dL_law_30 : decode cL_law 30 = .ok (.bipush 63, 2) := by decide +kernel
theorem dL_law_32 : decode cL_law 32 = .ok (.iand, 1) := by decide +kernel
theorem dL_law_33 : decode cL_law 33 = .ok (.tableswitch 1610 0 45 #[199, 232, 275, 308, 331, 394, 417, 450, 493, 542, 575, 608, 641, 674, 707, 750, 773, 806, 829, 862, 885, 908, 931, 944, 957, 980, 1003, 1016, 1029, 1052, 1065, 1118, 1161, 1184, 1259, 1334, 1377, 1420, 1463, 1496, 1509, 1523, 1537, 1560, 1573, 1596], 199) := by decide +kernel
theorem dL_law_232 : decode cL_law 232 = .ok (.aload_n 1, 1) := by decide +kernel
theorem dL_law_233 : decode cL_law 233 = .ok (.aload_n 0, 1) := by decide +kernel
theorem dL_law_234 : decode cL_law 234 = .ok (.iload_n 3, 1) := by decide +kernel
theorem dL_law_235 : decode cL_law 235 = .ok (.iconst 1, 1) := by decide +kernel
theorem dL_law_236 : decode cL_law 236 = .ok (.iadd, 1) := by decide +kernel
theorem dL_law_237 : decode cL_law 237 = .ok (.iaload, 1) := by decide +kernel
theorem dL_law_238 : decode cL_law 238 = .ok (.aload_n 0, 1) := by decide +kernel
theorem dL_law_239 : decode cL_law 239 = .ok (.iload_n 3, 1) := by decide +kernel
theorem dL_law_240 : decode cL_law 240 = .ok (.iconst 2, 1) := by decide +kernel
theorem dL_law_241 : decode cL_law 241 = .ok (.iadd, 1) := by decide +kernel
theorem dL_law_242 : decode cL_law 242 = .ok (.iaload, 1) := by decide +kernel
theorem dL_law_243 : decode cL_law 243 = .ok (.invokevirtual 13, 3) := by decide +kernel
theorem dL_law_246 : decode cL_law 246 = .ok (.aload_n 2, 1) := by decide +kernel
theorem dL_law_247 : decode cL_law 247 = .ok (.aload_n 0, 1) := by decide +kernel
theorem dL_law_248 : decode cL_law 248 = .ok (.iload_n 3, 1) := by decide +kernel
theorem dL_law_249 : decode cL_law 249 = .ok (.iconst 1, 1) := by decide +kernel
theorem dL_law_250 : decode cL_law 250 = .ok (.iadd, 1) := by decide +kernel
theorem dL_law_251 : decode cL_law 251 = .ok (.iaload, 1) := by decide +kernel
theorem dL_law_252 : decode cL_law 252 = .ok (.aload_n 0, 1) := by decide +kernel
theorem dL_law_253 : decode cL_law 253 = .ok (.iload_n 3, 1) := by decide +kernel
theorem dL_law_254 : decode cL_law 254 = .ok (.iconst 2, 1) := by decide +kernel
theorem dL_law_255 : decode cL_law 255 = .ok (.iadd, 1) := by decide +kernel
theorem dL_law_256 : decode cL_law 256 = .ok (.iaload, 1) := by decide +kernel
theorem dL_law_257 : decode cL_law 257 = .ok (.invokevirtual 17, 3) := by decide +kernel
theorem dL_law_260 : decode cL_law 260 = .ok (.if_icmp .eq 1383, 3) := by decide +kernel
theorem dL_law_263 : decode cL_law 263 = .ok (.iconst 0, 1) := by decide +kernel
theorem dL_law_264 : decode cL_law 264 = .ok (.ireturn, 1) := by decide +kernel
theorem dL_law_265 : decode cL_law 265 = .ok (.aload_n 1, 1) := by decide +kernel
theorem dL_law_266 : decode cL_law 266 = .ok (.aload_n 0, 1) := by decide +kernel
theorem dL_law_267 : decode cL_law 267 = .ok (.iload_n 3, 1) := by decide +kernel
theorem dL_law_268 : decode cL_law 268 = .ok (.iconst 1, 1) := by decide +kernel
theorem dL_law_269 : decode cL_law 269 = .ok (.iadd, 1) := by decide +kernel
theorem dL_law_270 : decode cL_law 270 = .ok (.iaload, 1) := by decide +kernel
theorem dL_law_271 : decode cL_law 271 = .ok (.aload_n 0, 1) := by decide +kernel
theorem dL_law_272 : decode cL_law 272 = .ok (.iload_n 3, 1) := by decide +kernel
theorem dL_law_273 : decode cL_law 273 = .ok (.iconst 2, 1) := by decide +kernel
theorem dL_law_274 : decode cL_law 274 = .ok (.iadd, 1) := by decide +kernel
theorem dL_law_275 : decode cL_law 275 = .ok (.iaload, 1) := by decide +kernel
theorem dL_law_276 : decode cL_law 276 = .ok (.aload_n 0, 1) := by decide +kernel
theorem dL_law_277 : decode cL_law 277 = .ok (.iload_n 3, 1) := by decide +kernel
theorem dL_law_278 : decode cL_law 278 = .ok (.iconst 3, 1) := by decide +kernel
theorem dL_law_279 : decode cL_law 279 = .ok (.iadd, 1) := by decide +kernel
theorem dL_law_280 : decode cL_law 280 = .ok (.iaload, 1) := by decide +kernel
theorem dL_law_281 : decode cL_law 281 = .ok (.invokevirtual 18, 3) := by decide +kernel
theorem dL_law_284 : decode cL_law 284 = .ok (.aload_n 2, 1) := by decide +kernel
theorem dL_law_285 : decode cL_law 285 = .ok (.aload_n 0, 1) := by decide +kernel
theorem dL_law_286 : decode cL_law 286 = .ok (.iload_n 3, 1) := by decide +kernel
theorem dL_law_287 : decode cL_law 287 = .ok (.iconst 1, 1) := by decide +kernel
theorem dL_law_288 : decode cL_law 288 = .ok (.iadd, 1) := by decide +kernel
theorem dL_law_289 : decode cL_law 289 = .ok (.iaload, 1) := by decide +kernel
theorem dL_law_290 : decode cL_law 290 = .ok (.aload_n 0, 1) := by decide +kernel
theorem dL_law_291 : decode cL_law 291 = .ok (.iload_n 3, 1) := by decide +kernel
theorem dL_law_292 : decode cL_law 292 = .ok (.iconst 2, 1) := by decide +kernel
theorem dL_law_293 : decode cL_law 293 = .ok (.iadd, 1) := by decide +kernel
theorem dL_law_294 : decode cL_law 294 = .ok (.iaload, 1) := by decide +kernel
theorem dL_law_295 : decode cL_law 295 = .ok (.aload_n 0, 1) := by decide +kernel
theorem dL_law_296 : decode cL_law 296 = .ok (.iload_n 3, 1) := by decide +kernel
theorem dL_law_297 : decode cL_law 297 = .ok (.iconst 3, 1) := by decide +kernel
theorem dL_law_298 : decode cL_law 298 = .ok (.iadd, 1) := by decide +kernel
theorem dL_law_299 : decode cL_law 299 = .ok (.iaload, 1) := by decide +kernel
theorem dL_law_300 : decode cL_law 300 = .ok (.invokevirtual 22, 3) := by decide +kernel
theorem dL_law_303 : decode cL_law 303 = .ok (.if_icmp .eq 1340, 3) := by decide +kernel
theorem dL_law_306 : decode cL_law 306 = .ok (.iconst 0, 1) := by decide +kernel
theorem dL_law_307 : decode cL_law 307 = .ok (.ireturn, 1) := by decide +kernel
theorem dL_law_308 : decode cL_law 308 = .ok (.aload_n 1, 1) := by decide +kernel
theorem dL_law_309 : decode cL_law 309 = .ok (.aload_n 0, 1) := by decide +kernel
theorem dL_law_310 : decode cL_law 310 = .ok (.iload_n 3, 1) := by decide +kernel
theorem dL_law_311 : decode cL_law 311 = .ok (.iconst 1, 1) := by decide +kernel
theorem dL_law_312 : decode cL_law 312 = .ok (.iadd, 1) := by decide +kernel
theorem dL_law_313 : decode cL_law 313 = .ok (.iaload, 1) := by decide +kernel
theorem dL_law_314 : decode cL_law 314 = .ok (.aload_n 0, 1) := by decide +kernel
theorem dL_law_315 : decode cL_law 315 = .ok (.iload_n 3, 1) := by decide +kernel
theorem dL_law_316 : decode cL_law 316 = .ok (.iconst 2, 1) := by decide +kernel
theorem dL_law_317 : decode cL_law 317 = .ok (.iadd, 1) := by decide +kernel
theorem dL_law_318 : decode cL_law 318 = .ok (.iaload, 1) := by decide +kernel
theorem dL_law_319 : decode cL_law 319 = .ok (.invokevirtual 23, 3) := by decide +kernel
theorem dL_law_322 : decode cL_law 322 = .ok (.aload_n 2, 1) := by decide +kernel
theorem dL_law_323 : decode cL_law 323 = .ok (.aload_n 0, 1) := by decide +kernel
theorem dL_law_324 : decode cL_law 324 = .ok (.iload_n 3, 1) := by decide +kernel
theorem dL_law_325 : decode cL_law 325 = .ok (.iconst 1, 1) := by decide +kernel
theorem dL_law_326 : decode cL_law 326 = .ok (.iadd, 1) := by decide +kernel
theorem dL_law_327 : decode cL_law 327 = .ok (.iaload, 1) := by decide +kernel
theorem dL_law_328 : decode cL_law 328 = .ok (.aload_n 0, 1) := by decide +kernel
theorem dL_law_329 : decode cL_law 329 = .ok (.iload_n 3, 1) := by decide +kernel
theorem dL_law_330 : decode cL_law 330 = .ok (.iconst 2, 1) := by decide +kernel
theorem dL_law_331 : decode cL_law 331 = .ok (.iadd, 1) := by decide +kernel
theorem dL_law_332 : decode cL_law 332 = .ok (.iaload, 1) := by decide +kernel
theorem dL_law_333 : decode cL_law 333 = .ok (.invokevirtual 26, 3) := by decide +kernel
theorem dL_law_336 : decode cL_law 336 = .ok (.if_icmp .eq 1307, 3) := by decide +kernel
theorem dL_law_339 : decode cL_law 339 = .ok (.iconst 0, 1) := by decide +kernel
theorem dL_law_340 : decode cL_law 340 = .ok (.ireturn, 1) := by decide +kernel
theorem dL_law_341 : decode cL_law 341 = .ok (.aload_n 1, 1) := by decide +kernel
theorem dL_law_342 : decode cL_law 342 = .ok (.aload_n 0, 1) := by decide +kernel
theorem dL_law_343 : decode cL_law 343 = .ok (.iload_n 3, 1) := by decide +kernel
theorem dL_law_344 : decode cL_law 344 = .ok (.iconst 1, 1) := by decide +kernel
theorem dL_law_345 : decode cL_law 345 = .ok (.iadd, 1) := by decide +kernel
theorem dL_law_346 : decode cL_law 346 = .ok (.iaload, 1) := by decide +kernel
theorem dL_law_347 : decode cL_law 347 = .ok (.invokevirtual 27, 3) := by decide +kernel
theorem dL_law_350 : decode cL_law 350 = .ok (.aload_n 2, 1) := by decide +kernel
theorem dL_law_351 : decode cL_law 351 = .ok (.aload_n 0, 1) := by decide +kernel
theorem dL_law_352 : decode cL_law 352 = .ok (.iload_n 3, 1) := by decide +kernel
theorem dL_law_353 : decode cL_law 353 = .ok (.iconst 1, 1) := by decide +kernel
theorem dL_law_354 : decode cL_law 354 = .ok (.iadd, 1) := by decide +kernel
theorem dL_law_355 : decode cL_law 355 = .ok (.iaload, 1) := by decide +kernel
theorem dL_law_356 : decode cL_law 356 = .ok (.invokevirtual 31, 3) := by decide +kernel
theorem dL_law_359 : decode cL_law 359 = .ok (.if_icmp .eq 1284, 3) := by decide +kernel
theorem dL_law_362 : decode cL_law 362 = .ok (.iconst 0, 1) := by decide +kernel
theorem dL_law_363 : decode cL_law 363 = .ok (.ireturn, 1) := by decide +kernel
theorem dL_law_364 : decode cL_law 364 = .ok (.aload_n 1, 1) := by decide +kernel
theorem dL_law_365 : decode cL_law 365 = .ok (.aload_n 0, 1) := by decide +kernel
theorem dL_law_366 : decode cL_law 366 = .ok (.iload_n 3, 1) := by decide +kernel
theorem dL_law_367 : decode cL_law 367 = .ok (.iconst 1, 1) := by decide +kernel
theorem dL_law_368 : decode cL_law 368 = .ok (.iadd, 1) := by decide +kernel
theorem dL_law_369 : decode cL_law 369 = .ok (.iaload, 1) := by decide +kernel
theorem dL_law_370 : decode cL_law 370 = .ok (.aload_n 0, 1) := by decide +kernel
theorem dL_law_371 : decode cL_law 371 = .ok (.iload_n 3, 1) := by decide +kernel
theorem dL_law_372 : decode cL_law 372 = .ok (.iconst 2, 1) := by decide +kernel
theorem dL_law_373 : decode cL_law 373 = .ok (.iadd, 1) := by decide +kernel
theorem dL_law_374 : decode cL_law 374 = .ok (.iaload, 1) := by decide +kernel
theorem dL_law_375 : decode cL_law 375 = .ok (.aload_n 0, 1) := by decide +kernel
theorem dL_law_376 : decode cL_law 376 = .ok (.iload_n 3, 1) := by decide +kernel
theorem dL_law_377 : decode cL_law 377 = .ok (.iconst 3, 1) := by decide +kernel
theorem dL_law_378 : decode cL_law 378 = .ok (.iadd, 1) := by decide +kernel
theorem dL_law_379 : decode cL_law 379 = .ok (.iaload, 1) := by decide +kernel
theorem dL_law_380 : decode cL_law 380 = .ok (.aload_n 0, 1) := by decide +kernel
theorem dL_law_381 : decode cL_law 381 = .ok (.iload_n 3, 1) := by decide +kernel
theorem dL_law_382 : decode cL_law 382 = .ok (.iconst 4, 1) := by decide +kernel
theorem dL_law_383 : decode cL_law 383 = .ok (.iadd, 1) := by decide +kernel
theorem dL_law_384 : decode cL_law 384 = .ok (.iaload, 1) := by decide +kernel
theorem dL_law_385 : decode cL_law 385 = .ok (.aload_n 0, 1) := by decide +kernel
theorem dL_law_386 : decode cL_law 386 = .ok (.iload_n 3, 1) := by decide +kernel
theorem dL_law_387 : decode cL_law 387 = .ok (.iconst 5, 1) := by decide +kernel
theorem dL_law_388 : decode cL_law 388 = .ok (.iadd, 1) := by decide +kernel
theorem dL_law_389 : decode cL_law 389 = .ok (.iaload, 1) := by decide +kernel
theorem dL_law_390 : decode cL_law 390 = .ok (.invokevirtual 32, 3) := by decide +kernel
theorem dL_law_393 : decode cL_law 393 = .ok (.aload_n 2, 1) := by decide +kernel
theorem dL_law_394 : decode cL_law 394 = .ok (.aload_n 0, 1) := by decide +kernel
theorem dL_law_395 : decode cL_law 395 = .ok (.iload_n 3, 1) := by decide +kernel
theorem dL_law_396 : decode cL_law 396 = .ok (.iconst 1, 1) := by decide +kernel
theorem dL_law_397 : decode cL_law 397 = .ok (.iadd, 1) := by decide +kernel
theorem dL_law_398 : decode cL_law 398 = .ok (.iaload, 1) := by decide +kernel
theorem dL_law_399 : decode cL_law 399 = .ok (.aload_n 0, 1) := by decide +kernel
theorem dL_law_400 : decode cL_law 400 = .ok (.iload_n 3, 1) := by decide +kernel
theorem dL_law_401 : decode cL_law 401 = .ok (.iconst 2, 1) := by decide +kernel
theorem dL_law_402 : decode cL_law 402 = .ok (.iadd, 1) := by decide +kernel
theorem dL_law_403 : decode cL_law 403 = .ok (.iaload, 1) := by decide +kernel
theorem dL_law_404 : decode cL_law 404 = .ok (.aload_n 0, 1) := by decide +kernel
theorem dL_law_405 : decode cL_law 405 = .ok (.iload_n 3, 1) := by decide +kernel
theorem dL_law_406 : decode cL_law 406 = .ok (.iconst 3, 1) := by decide +kernel
theorem dL_law_407 : decode cL_law 407 = .ok (.iadd, 1) := by decide +kernel
theorem dL_law_408 : decode cL_law 408 = .ok (.iaload, 1) := by decide +kernel
theorem dL_law_409 : decode cL_law 409 = .ok (.aload_n 0, 1) := by decide +kernel
theorem dL_law_410 : decode cL_law 410 = .ok (.iload_n 3, 1) := by decide +kernel
theorem dL_law_411 : decode cL_law 411 = .ok (.iconst 4, 1) := by decide +kernel
theorem dL_law_412 : decode cL_law 412 = .ok (.iadd, 1) := by decide +kernel
theorem dL_law_413 : decode cL_law 413 = .ok (.iaload, 1) := by decide +kernel
theorem dL_law_414 : decode cL_law 414 = .ok (.aload_n 0, 1) := by decide +kernel
theorem dL_law_415 : decode cL_law 415 = .ok (.iload_n 3, 1) := by decide +kernel
theorem dL_law_416 : decode cL_law 416 = .ok (.iconst 5, 1) := by decide +kernel
theorem dL_law_417 : decode cL_law 417 = .ok (.iadd, 1) := by decide +kernel
theorem dL_law_418 : decode cL_law 418 = .ok (.iaload, 1) := by decide +kernel
theorem dL_law_419 : decode cL_law 419 = .ok (.invokevirtual 36, 3) := by decide +kernel
theorem dL_law_422 : decode cL_law 422 = .ok (.if_icmp .eq 1221, 3) := by decide +kernel
theorem dL_law_425 : decode cL_law 425 = .ok (.iconst 0, 1) := by decide +kernel
theorem dL_law_426 : decode cL_law 426 = .ok (.ireturn, 1) := by decide +kernel
theorem dL_law_427 : decode cL_law 427 = .ok (.aload_n 1, 1) := by decide +kernel
theorem dL_law_428 : decode cL_law 428 = .ok (.aload_n 0, 1) := by decide +kernel
theorem dL_law_429 : decode cL_law 429 = .ok (.iload_n 3, 1) := by decide +kernel
theorem dL_law_430 : decode cL_law 430 = .ok (.iconst 1, 1) := by decide +kernel
theorem dL_law_431 : decode cL_law 431 = .ok (.iadd, 1) := by decide +kernel
theorem dL_law_432 : decode cL_law 432 = .ok (.iaload, 1) := by decide +kernel
theorem dL_law_433 : decode cL_law 433 = .ok (.invokevirtual 37, 3) := by decide +kernel
theorem dL_law_436 : decode cL_law 436 = .ok (.aload_n 2, 1) := by decide +kernel
theorem dL_law_437 : decode cL_law 437 = .ok (.aload_n 0, 1) := by decide +kernel
theorem dL_law_438 : decode cL_law 438 = .ok (.iload_n 3, 1) := by decide +kernel
theorem dL_law_439 : decode cL_law 439 = .ok (.iconst 1, 1) := by decide +kernel
theorem dL_law_440 : decode cL_law 440 = .ok (.iadd, 1) := by decide +kernel
theorem dL_law_441 : decode cL_law 441 = .ok (.iaload, 1) := by decide +kernel
theorem dL_law_442 : decode cL_law 442 = .ok (.invokevirtual 40, 3) := by decide +kernel
theorem dL_law_445 : decode cL_law 445 = .ok (.if_icmp .eq 1198, 3) := by decide +kernel
theorem dL_law_448 : decode cL_law 448 = .ok (.iconst 0, 1) := by decide +kernel
theorem dL_law_449 : decode cL_law 449 = .ok (.ireturn, 1) := by decide +kernel
theorem dL_law_450 : decode cL_law 450 = .ok (.aload_n 1, 1) := by decide +kernel
theorem dL_law_451 : decode cL_law 451 = .ok (.aload_n 0, 1) := by decide +kernel
theorem dL_law_452 : decode cL_law 452 = .ok (.iload_n 3, 1) := by decide +kernel
theorem dL_law_453 : decode cL_law 453 = .ok (.iconst 1, 1) := by decide +kernel
theorem dL_law_454 : decode cL_law 454 = .ok (.iadd, 1) := by decide +kernel
theorem dL_law_455 : decode cL_law 455 = .ok (.iaload, 1) := by decide +kernel
theorem dL_law_456 : decode cL_law 456 = .ok (.aload_n 0, 1) := by decide +kernel
theorem dL_law_457 : decode cL_law 457 = .ok (.iload_n 3, 1) := by decide +kernel
theorem dL_law_458 : decode cL_law 458 = .ok (.iconst 2, 1) := by decide +kernel
theorem dL_law_459 : decode cL_law 459 = .ok (.iadd, 1) := by decide +kernel
theorem dL_law_460 : decode cL_law 460 = .ok (.iaload, 1) := by decide +kernel
theorem dL_law_461 : decode cL_law 461 = .ok (.invokevirtual 41, 3) := by decide +kernel
theorem dL_law_464 : decode cL_law 464 = .ok (.aload_n 2, 1) := by decide +kernel
theorem dL_law_465 : decode cL_law 465 = .ok (.aload_n 0, 1) := by decide +kernel
theorem dL_law_466 : decode cL_law 466 = .ok (.iload_n 3, 1) := by decide +kernel
theorem dL_law_467 : decode cL_law 467 = .ok (.iconst 1, 1) := by decide +kernel
theorem dL_law_468 : decode cL_law 468 = .ok (.iadd, 1) := by decide +kernel
theorem dL_law_469 : decode cL_law 469 = .ok (.iaload, 1) := by decide +kernel
theorem dL_law_470 : decode cL_law 470 = .ok (.aload_n 0, 1) := by decide +kernel
theorem dL_law_471 : decode cL_law 471 = .ok (.iload_n 3, 1) := by decide +kernel
theorem dL_law_472 : decode cL_law 472 = .ok (.iconst 2, 1) := by decide +kernel
theorem dL_law_473 : decode cL_law 473 = .ok (.iadd, 1) := by decide +kernel
theorem dL_law_474 : decode cL_law 474 = .ok (.iaload, 1) := by decide +kernel
theorem dL_law_475 : decode cL_law 475 = .ok (.invokevirtual 44, 3) := by decide +kernel
theorem dL_law_478 : decode cL_law 478 = .ok (.if_icmp .eq 1165, 3) := by decide +kernel
theorem dL_law_481 : decode cL_law 481 = .ok (.iconst 0, 1) := by decide +kernel
theorem dL_law_482 : decode cL_law 482 = .ok (.ireturn, 1) := by decide +kernel
theorem dL_law_483 : decode cL_law 483 = .ok (.aload_n 1, 1) := by decide +kernel
theorem dL_law_484 : decode cL_law 484 = .ok (.aload_n 0, 1) := by decide +kernel
theorem dL_law_485 : decode cL_law 485 = .ok (.iload_n 3, 1) := by decide +kernel
theorem dL_law_486 : decode cL_law 486 = .ok (.iconst 1, 1) := by decide +kernel
theorem dL_law_487 : decode cL_law 487 = .ok (.iadd, 1) := by decide +kernel
theorem dL_law_488 : decode cL_law 488 = .ok (.iaload, 1) := by decide +kernel
theorem dL_law_489 : decode cL_law 489 = .ok (.aload_n 0, 1) := by decide +kernel
theorem dL_law_490 : decode cL_law 490 = .ok (.iload_n 3, 1) := by decide +kernel
theorem dL_law_491 : decode cL_law 491 = .ok (.iconst 2, 1) := by decide +kernel
theorem dL_law_492 : decode cL_law 492 = .ok (.iadd, 1) := by decide +kernel
theorem dL_law_493 : decode cL_law 493 = .ok (.iaload, 1) := by decide +kernel
theorem dL_law_494 : decode cL_law 494 = .ok (.aload_n 0, 1) := by decide +kernel
theorem dL_law_495 : decode cL_law 495 = .ok (.iload_n 3, 1) := by decide +kernel
theorem dL_law_496 : decode cL_law 496 = .ok (.iconst 3, 1) := by decide +kernel
theorem dL_law_497 : decode cL_law 497 = .ok (.iadd, 1) := by decide +kernel
theorem dL_law_498 : decode cL_law 498 = .ok (.iaload, 1) := by decide +kernel
theorem dL_law_499 : decode cL_law 499 = .ok (.invokevirtual 45, 3) := by decide +kernel
theorem dL_law_502 : decode cL_law 502 = .ok (.aload_n 2, 1) := by decide +kernel
theorem dL_law_503 : decode cL_law 503 = .ok (.aload_n 0, 1) := by decide +kernel
theorem dL_law_504 : decode cL_law 504 = .ok (.iload_n 3, 1) := by decide +kernel
theorem dL_law_505 : decode cL_law 505 = .ok (.iconst 1, 1) := by decide +kernel
theorem dL_law_506 : decode cL_law 506 = .ok (.iadd, 1) := by decide +kernel
theorem dL_law_507 : decode cL_law 507 = .ok (.iaload, 1) := by decide +kernel
theorem dL_law_508 : decode cL_law 508 = .ok (.aload_n 0, 1) := by decide +kernel
theorem dL_law_509 : decode cL_law 509 = .ok (.iload_n 3, 1) := by decide +kernel
theorem dL_law_510 : decode cL_law 510 = .ok (.iconst 2, 1) := by decide +kernel
theorem dL_law_511 : decode cL_law 511 = .ok (.iadd, 1) := by decide +kernel
theorem dL_law_512 : decode cL_law 512 = .ok (.iaload, 1) := by decide +kernel
theorem dL_law_513 : decode cL_law 513 = .ok (.aload_n 0, 1) := by decide +kernel
theorem dL_law_514 : decode cL_law 514 = .ok (.iload_n 3, 1) := by decide +kernel
theorem dL_law_515 : decode cL_law 515 = .ok (.iconst 3, 1) := by decide +kernel
theorem dL_law_516 : decode cL_law 516 = .ok (.iadd, 1) := by decide +kernel
theorem dL_law_517 : decode cL_law 517 = .ok (.iaload, 1) := by decide +kernel
theorem dL_law_518 : decode cL_law 518 = .ok (.invokevirtual 48, 3) := by decide +kernel
theorem dL_law_521 : decode cL_law 521 = .ok (.if_icmp .eq 1122, 3) := by decide +kernel
theorem dL_law_524 : decode cL_law 524 = .ok (.iconst 0, 1) := by decide +kernel
theorem dL_law_525 : decode cL_law 525 = .ok (.ireturn, 1) := by decide +kernel
theorem dL_law_526 : decode cL_law 526 = .ok (.aload_n 1, 1) := by decide +kernel
theorem dL_law_527 : decode cL_law 527 = .ok (.aload_n 0, 1) := by decide +kernel
theorem dL_law_528 : decode cL_law 528 = .ok (.iload_n 3, 1) := by decide +kernel
theorem dL_law_529 : decode cL_law 529 = .ok (.iconst 1, 1) := by decide +kernel
theorem dL_law_530 : decode cL_law 530 = .ok (.iadd, 1) := by decide +kernel
theorem dL_law_531 : decode cL_law 531 = .ok (.iaload, 1) := by decide +kernel
theorem dL_law_532 : decode cL_law 532 = .ok (.aload_n 0, 1) := by decide +kernel
theorem dL_law_533 : decode cL_law 533 = .ok (.iload_n 3, 1) := by decide +kernel
theorem dL_law_534 : decode cL_law 534 = .ok (.iconst 2, 1) := by decide +kernel
theorem dL_law_535 : decode cL_law 535 = .ok (.iadd, 1) := by decide +kernel
theorem dL_law_536 : decode cL_law 536 = .ok (.iaload, 1) := by decide +kernel
theorem dL_law_537 : decode cL_law 537 = .ok (.ifCond .eq 7, 3) := by decide +kernel
theorem dL_law_540 : decode cL_law 540 = .ok (.iconst 1, 1) := by decide +kernel
theorem dL_law_541 : decode cL_law 541 = .ok (.goto 4, 3) := by decide +kernel
theorem dL_law_544 : decode cL_law 544 = .ok (.iconst 0, 1) := by decide +kernel
theorem dL_law_545 : decode cL_law 545 = .ok (.invokevirtual 49, 3) := by decide +kernel
theorem dL_law_548 : decode cL_law 548 = .ok (.aload_n 2, 1) := by decide +kernel
theorem dL_law_549 : decode cL_law 549 = .ok (.aload_n 0, 1) := by decide +kernel
theorem dL_law_550 : decode cL_law 550 = .ok (.iload_n 3, 1) := by decide +kernel
theorem dL_law_551 : decode cL_law 551 = .ok (.iconst 1, 1) := by decide +kernel
theorem dL_law_552 : decode cL_law 552 = .ok (.iadd, 1) := by decide +kernel
theorem dL_law_553 : decode cL_law 553 = .ok (.iaload, 1) := by decide +kernel
theorem dL_law_554 : decode cL_law 554 = .ok (.aload_n 0, 1) := by decide +kernel
theorem dL_law_555 : decode cL_law 555 = .ok (.iload_n 3, 1) := by decide +kernel
theorem dL_law_556 : decode cL_law 556 = .ok (.iconst 2, 1) := by decide +kernel
theorem dL_law_557 : decode cL_law 557 = .ok (.iadd, 1) := by decide +kernel
theorem dL_law_558 : decode cL_law 558 = .ok (.iaload, 1) := by decide +kernel
theorem dL_law_559 : decode cL_law 559 = .ok (.ifCond .eq 7, 3) := by decide +kernel
theorem dL_law_562 : decode cL_law 562 = .ok (.iconst 1, 1) := by decide +kernel
theorem dL_law_563 : decode cL_law 563 = .ok (.goto 4, 3) := by decide +kernel
theorem dL_law_566 : decode cL_law 566 = .ok (.iconst 0, 1) := by decide +kernel
theorem dL_law_567 : decode cL_law 567 = .ok (.invokevirtual 53, 3) := by decide +kernel
theorem dL_law_570 : decode cL_law 570 = .ok (.if_icmp .eq 1073, 3) := by decide +kernel
theorem dL_law_573 : decode cL_law 573 = .ok (.iconst 0, 1) := by decide +kernel
theorem dL_law_574 : decode cL_law 574 = .ok (.ireturn, 1) := by decide +kernel
theorem dL_law_575 : decode cL_law 575 = .ok (.aload_n 1, 1) := by decide +kernel
theorem dL_law_576 : decode cL_law 576 = .ok (.aload_n 0, 1) := by decide +kernel
theorem dL_law_577 : decode cL_law 577 = .ok (.iload_n 3, 1) := by decide +kernel
theorem dL_law_578 : decode cL_law 578 = .ok (.iconst 1, 1) := by decide +kernel
theorem dL_law_579 : decode cL_law 579 = .ok (.iadd, 1) := by decide +kernel
theorem dL_law_580 : decode cL_law 580 = .ok (.iaload, 1) := by decide +kernel
theorem dL_law_581 : decode cL_law 581 = .ok (.aload_n 0, 1) := by decide +kernel
theorem dL_law_582 : decode cL_law 582 = .ok (.iload_n 3, 1) := by decide +kernel
theorem dL_law_583 : decode cL_law 583 = .ok (.iconst 2, 1) := by decide +kernel
theorem dL_law_584 : decode cL_law 584 = .ok (.iadd, 1) := by decide +kernel
theorem dL_law_585 : decode cL_law 585 = .ok (.iaload, 1) := by decide +kernel
theorem dL_law_586 : decode cL_law 586 = .ok (.invokevirtual 54, 3) := by decide +kernel
theorem dL_law_589 : decode cL_law 589 = .ok (.aload_n 2, 1) := by decide +kernel
theorem dL_law_590 : decode cL_law 590 = .ok (.aload_n 0, 1) := by decide +kernel
theorem dL_law_591 : decode cL_law 591 = .ok (.iload_n 3, 1) := by decide +kernel
theorem dL_law_592 : decode cL_law 592 = .ok (.iconst 1, 1) := by decide +kernel
theorem dL_law_593 : decode cL_law 593 = .ok (.iadd, 1) := by decide +kernel
theorem dL_law_594 : decode cL_law 594 = .ok (.iaload, 1) := by decide +kernel
theorem dL_law_595 : decode cL_law 595 = .ok (.aload_n 0, 1) := by decide +kernel
theorem dL_law_596 : decode cL_law 596 = .ok (.iload_n 3, 1) := by decide +kernel
theorem dL_law_597 : decode cL_law 597 = .ok (.iconst 2, 1) := by decide +kernel
theorem dL_law_598 : decode cL_law 598 = .ok (.iadd, 1) := by decide +kernel
theorem dL_law_599 : decode cL_law 599 = .ok (.iaload, 1) := by decide +kernel
theorem dL_law_600 : decode cL_law 600 = .ok (.invokevirtual 57, 3) := by decide +kernel
theorem dL_law_603 : decode cL_law 603 = .ok (.if_icmp .eq 1040, 3) := by decide +kernel
theorem dL_law_606 : decode cL_law 606 = .ok (.iconst 0, 1) := by decide +kernel
theorem dL_law_607 : decode cL_law 607 = .ok (.ireturn, 1) := by decide +kernel
theorem dL_law_608 : decode cL_law 608 = .ok (.aload_n 1, 1) := by decide +kernel
theorem dL_law_609 : decode cL_law 609 = .ok (.aload_n 0, 1) := by decide +kernel
theorem dL_law_610 : decode cL_law 610 = .ok (.iload_n 3, 1) := by decide +kernel
theorem dL_law_611 : decode cL_law 611 = .ok (.iconst 1, 1) := by decide +kernel
theorem dL_law_612 : decode cL_law 612 = .ok (.iadd, 1) := by decide +kernel
theorem dL_law_613 : decode cL_law 613 = .ok (.iaload, 1) := by decide +kernel
theorem dL_law_614 : decode cL_law 614 = .ok (.aload_n 0, 1) := by decide +kernel
theorem dL_law_615 : decode cL_law 615 = .ok (.iload_n 3, 1) := by decide +kernel
theorem dL_law_616 : decode cL_law 616 = .ok (.iconst 2, 1) := by decide +kernel
theorem dL_law_617 : decode cL_law 617 = .ok (.iadd, 1) := by decide +kernel
theorem dL_law_618 : decode cL_law 618 = .ok (.iaload, 1) := by decide +kernel
theorem dL_law_619 : decode cL_law 619 = .ok (.invokevirtual 58, 3) := by decide +kernel
theorem dL_law_622 : decode cL_law 622 = .ok (.aload_n 2, 1) := by decide +kernel
theorem dL_law_623 : decode cL_law 623 = .ok (.aload_n 0, 1) := by decide +kernel
theorem dL_law_624 : decode cL_law 624 = .ok (.iload_n 3, 1) := by decide +kernel
theorem dL_law_625 : decode cL_law 625 = .ok (.iconst 1, 1) := by decide +kernel
theorem dL_law_626 : decode cL_law 626 = .ok (.iadd, 1) := by decide +kernel
theorem dL_law_627 : decode cL_law 627 = .ok (.iaload, 1) := by decide +kernel
theorem dL_law_628 : decode cL_law 628 = .ok (.aload_n 0, 1) := by decide +kernel
theorem dL_law_629 : decode cL_law 629 = .ok (.iload_n 3, 1) := by decide +kernel
theorem dL_law_630 : decode cL_law 630 = .ok (.iconst 2, 1) := by decide +kernel
theorem dL_law_631 : decode cL_law 631 = .ok (.iadd, 1) := by decide +kernel
theorem dL_law_632 : decode cL_law 632 = .ok (.iaload, 1) := by decide +kernel
theorem dL_law_633 : decode cL_law 633 = .ok (.invokevirtual 61, 3) := by decide +kernel
theorem dL_law_636 : decode cL_law 636 = .ok (.if_icmp .eq 1007, 3) := by decide +kernel
theorem dL_law_639 : decode cL_law 639 = .ok (.iconst 0, 1) := by decide +kernel
theorem dL_law_640 : decode cL_law 640 = .ok (.ireturn, 1) := by decide +kernel
theorem dL_law_641 : decode cL_law 641 = .ok (.aload_n 1, 1) := by decide +kernel
theorem dL_law_642 : decode cL_law 642 = .ok (.aload_n 0, 1) := by decide +kernel
theorem dL_law_643 : decode cL_law 643 = .ok (.iload_n 3, 1) := by decide +kernel
theorem dL_law_644 : decode cL_law 644 = .ok (.iconst 1, 1) := by decide +kernel
theorem dL_law_645 : decode cL_law 645 = .ok (.iadd, 1) := by decide +kernel
theorem dL_law_646 : decode cL_law 646 = .ok (.iaload, 1) := by decide +kernel
theorem dL_law_647 : decode cL_law 647 = .ok (.aload_n 0, 1) := by decide +kernel
theorem dL_law_648 : decode cL_law 648 = .ok (.iload_n 3, 1) := by decide +kernel
theorem dL_law_649 : decode cL_law 649 = .ok (.iconst 2, 1) := by decide +kernel
theorem dL_law_650 : decode cL_law 650 = .ok (.iadd, 1) := by decide +kernel
theorem dL_law_651 : decode cL_law 651 = .ok (.iaload, 1) := by decide +kernel
theorem dL_law_652 : decode cL_law 652 = .ok (.invokevirtual 62, 3) := by decide +kernel
theorem dL_law_655 : decode cL_law 655 = .ok (.aload_n 2, 1) := by decide +kernel
theorem dL_law_656 : decode cL_law 656 = .ok (.aload_n 0, 1) := by decide +kernel
theorem dL_law_657 : decode cL_law 657 = .ok (.iload_n 3, 1) := by decide +kernel
theorem dL_law_658 : decode cL_law 658 = .ok (.iconst 1, 1) := by decide +kernel
theorem dL_law_659 : decode cL_law 659 = .ok (.iadd, 1) := by decide +kernel
theorem dL_law_660 : decode cL_law 660 = .ok (.iaload, 1) := by decide +kernel
theorem dL_law_661 : decode cL_law 661 = .ok (.aload_n 0, 1) := by decide +kernel
theorem dL_law_662 : decode cL_law 662 = .ok (.iload_n 3, 1) := by decide +kernel
theorem dL_law_663 : decode cL_law 663 = .ok (.iconst 2, 1) := by decide +kernel
theorem dL_law_664 : decode cL_law 664 = .ok (.iadd, 1) := by decide +kernel
theorem dL_law_665 : decode cL_law 665 = .ok (.iaload, 1) := by decide +kernel
theorem dL_law_666 : decode cL_law 666 = .ok (.invokevirtual 65, 3) := by decide +kernel
theorem dL_law_669 : decode cL_law 669 = .ok (.if_icmp .eq 974, 3) := by decide +kernel
theorem dL_law_672 : decode cL_law 672 = .ok (.iconst 0, 1) := by decide +kernel
theorem dL_law_673 : decode cL_law 673 = .ok (.ireturn, 1) := by decide +kernel
theorem dL_law_674 : decode cL_law 674 = .ok (.aload_n 1, 1) := by decide +kernel
theorem dL_law_675 : decode cL_law 675 = .ok (.aload_n 0, 1) := by decide +kernel
theorem dL_law_676 : decode cL_law 676 = .ok (.iload_n 3, 1) := by decide +kernel
theorem dL_law_677 : decode cL_law 677 = .ok (.iconst 1, 1) := by decide +kernel
theorem dL_law_678 : decode cL_law 678 = .ok (.iadd, 1) := by decide +kernel
theorem dL_law_679 : decode cL_law 679 = .ok (.iaload, 1) := by decide +kernel
theorem dL_law_680 : decode cL_law 680 = .ok (.aload_n 0, 1) := by decide +kernel
theorem dL_law_681 : decode cL_law 681 = .ok (.iload_n 3, 1) := by decide +kernel
theorem dL_law_682 : decode cL_law 682 = .ok (.iconst 2, 1) := by decide +kernel
theorem dL_law_683 : decode cL_law 683 = .ok (.iadd, 1) := by decide +kernel
theorem dL_law_684 : decode cL_law 684 = .ok (.iaload, 1) := by decide +kernel
theorem dL_law_685 : decode cL_law 685 = .ok (.invokevirtual 66, 3) := by decide +kernel
theorem dL_law_688 : decode cL_law 688 = .ok (.aload_n 2, 1) := by decide +kernel
theorem dL_law_689 : decode cL_law 689 = .ok (.aload_n 0, 1) := by decide +kernel
theorem dL_law_690 : decode cL_law 690 = .ok (.iload_n 3, 1) := by decide +kernel
theorem dL_law_691 : decode cL_law 691 = .ok (.iconst 1, 1) := by decide +kernel
theorem dL_law_692 : decode cL_law 692 = .ok (.iadd, 1) := by decide +kernel
theorem dL_law_693 : decode cL_law 693 = .ok (.iaload, 1) := by decide +kernel
theorem dL_law_694 : decode cL_law 694 = .ok (.aload_n 0, 1) := by decide +kernel
theorem dL_law_695 : decode cL_law 695 = .ok (.iload_n 3, 1) := by decide +kernel
theorem dL_law_696 : decode cL_law 696 = .ok (.iconst 2, 1) := by decide +kernel
theorem dL_law_697 : decode cL_law 697 = .ok (.iadd, 1) := by decide +kernel
theorem dL_law_698 : decode cL_law 698 = .ok (.iaload, 1) := by decide +kernel
theorem dL_law_699 : decode cL_law 699 = .ok (.invokevirtual 69, 3) := by decide +kernel
theorem dL_law_702 : decode cL_law 702 = .ok (.if_icmp .eq 941, 3) := by decide +kernel
theorem dL_law_705 : decode cL_law 705 = .ok (.iconst 0, 1) := by decide +kernel
theorem dL_law_706 : decode cL_law 706 = .ok (.ireturn, 1) := by decide +kernel
theorem dL_law_707 : decode cL_law 707 = .ok (.aload_n 1, 1) := by decide +kernel
theorem dL_law_708 : decode cL_law 708 = .ok (.aload_n 0, 1) := by decide +kernel
theorem dL_law_709 : decode cL_law 709 = .ok (.iload_n 3, 1) := by decide +kernel
theorem dL_law_710 : decode cL_law 710 = .ok (.iconst 1, 1) := by decide +kernel
theorem dL_law_711 : decode cL_law 711 = .ok (.iadd, 1) := by decide +kernel
theorem dL_law_712 : decode cL_law 712 = .ok (.iaload, 1) := by decide +kernel
theorem dL_law_713 : decode cL_law 713 = .ok (.aload_n 0, 1) := by decide +kernel
theorem dL_law_714 : decode cL_law 714 = .ok (.iload_n 3, 1) := by decide +kernel
theorem dL_law_715 : decode cL_law 715 = .ok (.iconst 2, 1) := by decide +kernel
theorem dL_law_716 : decode cL_law 716 = .ok (.iadd, 1) := by decide +kernel
theorem dL_law_717 : decode cL_law 717 = .ok (.iaload, 1) := by decide +kernel
theorem dL_law_718 : decode cL_law 718 = .ok (.invokevirtual 70, 3) := by decide +kernel
theorem dL_law_721 : decode cL_law 721 = .ok (.aload_n 2, 1) := by decide +kernel
theorem dL_law_722 : decode cL_law 722 = .ok (.aload_n 0, 1) := by decide +kernel
theorem dL_law_723 : decode cL_law 723 = .ok (.iload_n 3, 1) := by decide +kernel
theorem dL_law_724 : decode cL_law 724 = .ok (.iconst 1, 1) := by decide +kernel
theorem dL_law_725 : decode cL_law 725 = .ok (.iadd, 1) := by decide +kernel
theorem dL_law_726 : decode cL_law 726 = .ok (.iaload, 1) := by decide +kernel
theorem dL_law_727 : decode cL_law 727 = .ok (.aload_n 0, 1) := by decide +kernel
theorem dL_law_728 : decode cL_law 728 = .ok (.iload_n 3, 1) := by decide +kernel
theorem dL_law_729 : decode cL_law 729 = .ok (.iconst 2, 1) := by decide +kernel
theorem dL_law_730 : decode cL_law 730 = .ok (.iadd, 1) := by decide +kernel
theorem dL_law_731 : decode cL_law 731 = .ok (.iaload, 1) := by decide +kernel
theorem dL_law_732 : decode cL_law 732 = .ok (.invokevirtual 73, 3) := by decide +kernel
theorem dL_law_735 : decode cL_law 735 = .ok (.if_icmp .eq 908, 3) := by decide +kernel
theorem dL_law_738 : decode cL_law 738 = .ok (.iconst 0, 1) := by decide +kernel
theorem dL_law_739 : decode cL_law 739 = .ok (.ireturn, 1) := by decide +kernel
theorem dL_law_740 : decode cL_law 740 = .ok (.aload_n 1, 1) := by decide +kernel
theorem dL_law_741 : decode cL_law 741 = .ok (.aload_n 0, 1) := by decide +kernel
theorem dL_law_742 : decode cL_law 742 = .ok (.iload_n 3, 1) := by decide +kernel
theorem dL_law_743 : decode cL_law 743 = .ok (.iconst 1, 1) := by decide +kernel
theorem dL_law_744 : decode cL_law 744 = .ok (.iadd, 1) := by decide +kernel
theorem dL_law_745 : decode cL_law 745 = .ok (.iaload, 1) := by decide +kernel
theorem dL_law_746 : decode cL_law 746 = .ok (.aload_n 0, 1) := by decide +kernel
theorem dL_law_747 : decode cL_law 747 = .ok (.iload_n 3, 1) := by decide +kernel
theorem dL_law_748 : decode cL_law 748 = .ok (.iconst 2, 1) := by decide +kernel
theorem dL_law_749 : decode cL_law 749 = .ok (.iadd, 1) := by decide +kernel
theorem dL_law_750 : decode cL_law 750 = .ok (.iaload, 1) := by decide +kernel
theorem dL_law_751 : decode cL_law 751 = .ok (.aload_n 0, 1) := by decide +kernel
theorem dL_law_752 : decode cL_law 752 = .ok (.iload_n 3, 1) := by decide +kernel
theorem dL_law_753 : decode cL_law 753 = .ok (.iconst 3, 1) := by decide +kernel
theorem dL_law_754 : decode cL_law 754 = .ok (.iadd, 1) := by decide +kernel
theorem dL_law_755 : decode cL_law 755 = .ok (.iaload, 1) := by decide +kernel
theorem dL_law_756 : decode cL_law 756 = .ok (.invokevirtual 74, 3) := by decide +kernel
theorem dL_law_759 : decode cL_law 759 = .ok (.aload_n 2, 1) := by decide +kernel
theorem dL_law_760 : decode cL_law 760 = .ok (.aload_n 0, 1) := by decide +kernel
theorem dL_law_761 : decode cL_law 761 = .ok (.iload_n 3, 1) := by decide +kernel
theorem dL_law_762 : decode cL_law 762 = .ok (.iconst 1, 1) := by decide +kernel
theorem dL_law_763 : decode cL_law 763 = .ok (.iadd, 1) := by decide +kernel
theorem dL_law_764 : decode cL_law 764 = .ok (.iaload, 1) := by decide +kernel
theorem dL_law_765 : decode cL_law 765 = .ok (.aload_n 0, 1) := by decide +kernel
theorem dL_law_766 : decode cL_law 766 = .ok (.iload_n 3, 1) := by decide +kernel
theorem dL_law_767 : decode cL_law 767 = .ok (.iconst 2, 1) := by decide +kernel
theorem dL_law_768 : decode cL_law 768 = .ok (.iadd, 1) := by decide +kernel
theorem dL_law_769 : decode cL_law 769 = .ok (.iaload, 1) := by decide +kernel
theorem dL_law_770 : decode cL_law 770 = .ok (.aload_n 0, 1) := by decide +kernel
theorem dL_law_771 : decode cL_law 771 = .ok (.iload_n 3, 1) := by decide +kernel
theorem dL_law_772 : decode cL_law 772 = .ok (.iconst 3, 1) := by decide +kernel
theorem dL_law_773 : decode cL_law 773 = .ok (.iadd, 1) := by decide +kernel
theorem dL_law_774 : decode cL_law 774 = .ok (.iaload, 1) := by decide +kernel
theorem dL_law_775 : decode cL_law 775 = .ok (.invokevirtual 77, 3) := by decide +kernel
theorem dL_law_778 : decode cL_law 778 = .ok (.if_icmp .eq 865, 3) := by decide +kernel
theorem dL_law_781 : decode cL_law 781 = .ok (.iconst 0, 1) := by decide +kernel
theorem dL_law_782 : decode cL_law 782 = .ok (.ireturn, 1) := by decide +kernel
theorem dL_law_783 : decode cL_law 783 = .ok (.aload_n 1, 1) := by decide +kernel
theorem dL_law_784 : decode cL_law 784 = .ok (.aload_n 0, 1) := by decide +kernel
theorem dL_law_785 : decode cL_law 785 = .ok (.iload_n 3, 1) := by decide +kernel
theorem dL_law_786 : decode cL_law 786 = .ok (.iconst 1, 1) := by decide +kernel
theorem dL_law_787 : decode cL_law 787 = .ok (.iadd, 1) := by decide +kernel
theorem dL_law_788 : decode cL_law 788 = .ok (.iaload, 1) := by decide +kernel
theorem dL_law_789 : decode cL_law 789 = .ok (.invokevirtual 78, 3) := by decide +kernel
theorem dL_law_792 : decode cL_law 792 = .ok (.aload_n 2, 1) := by decide +kernel
theorem dL_law_793 : decode cL_law 793 = .ok (.aload_n 0, 1) := by decide +kernel
theorem dL_law_794 : decode cL_law 794 = .ok (.iload_n 3, 1) := by decide +kernel
theorem dL_law_795 : decode cL_law 795 = .ok (.iconst 1, 1) := by decide +kernel
theorem dL_law_796 : decode cL_law 796 = .ok (.iadd, 1) := by decide +kernel
theorem dL_law_797 : decode cL_law 797 = .ok (.iaload, 1) := by decide +kernel
theorem dL_law_798 : decode cL_law 798 = .ok (.invokevirtual 81, 3) := by decide +kernel
theorem dL_law_801 : decode cL_law 801 = .ok (.if_icmp .eq 842, 3) := by decide +kernel
theorem dL_law_804 : decode cL_law 804 = .ok (.iconst 0, 1) := by decide +kernel
theorem dL_law_805 : decode cL_law 805 = .ok (.ireturn, 1) := by decide +kernel
theorem dL_law_806 : decode cL_law 806 = .ok (.aload_n 1, 1) := by decide +kernel
theorem dL_law_807 : decode cL_law 807 = .ok (.aload_n 0, 1) := by decide +kernel
theorem dL_law_808 : decode cL_law 808 = .ok (.iload_n 3, 1) := by decide +kernel
theorem dL_law_809 : decode cL_law 809 = .ok (.iconst 1, 1) := by decide +kernel
theorem dL_law_810 : decode cL_law 810 = .ok (.iadd, 1) := by decide +kernel
theorem dL_law_811 : decode cL_law 811 = .ok (.iaload, 1) := by decide +kernel
theorem dL_law_812 : decode cL_law 812 = .ok (.aload_n 0, 1) := by decide +kernel
theorem dL_law_813 : decode cL_law 813 = .ok (.iload_n 3, 1) := by decide +kernel
theorem dL_law_814 : decode cL_law 814 = .ok (.iconst 2, 1) := by decide +kernel
theorem dL_law_815 : decode cL_law 815 = .ok (.iadd, 1) := by decide +kernel
theorem dL_law_816 : decode cL_law 816 = .ok (.iaload, 1) := by decide +kernel
theorem dL_law_817 : decode cL_law 817 = .ok (.invokevirtual 82, 3) := by decide +kernel
theorem dL_law_820 : decode cL_law 820 = .ok (.aload_n 2, 1) := by decide +kernel
theorem dL_law_821 : decode cL_law 821 = .ok (.aload_n 0, 1) := by decide +kernel
theorem dL_law_822 : decode cL_law 822 = .ok (.iload_n 3, 1) := by decide +kernel
theorem dL_law_823 : decode cL_law 823 = .ok (.iconst 1, 1) := by decide +kernel
theorem dL_law_824 : decode cL_law 824 = .ok (.iadd, 1) := by decide +kernel
theorem dL_law_825 : decode cL_law 825 = .ok (.iaload, 1) := by decide +kernel
theorem dL_law_826 : decode cL_law 826 = .ok (.aload_n 0, 1) := by decide +kernel
theorem dL_law_827 : decode cL_law 827 = .ok (.iload_n 3, 1) := by decide +kernel
theorem dL_law_828 : decode cL_law 828 = .ok (.iconst 2, 1) := by decide +kernel
theorem dL_law_829 : decode cL_law 829 = .ok (.iadd, 1) := by decide +kernel
theorem dL_law_830 : decode cL_law 830 = .ok (.iaload, 1) := by decide +kernel
theorem dL_law_831 : decode cL_law 831 = .ok (.invokevirtual 85, 3) := by decide +kernel
theorem dL_law_834 : decode cL_law 834 = .ok (.if_icmp .eq 809, 3) := by decide +kernel
theorem dL_law_837 : decode cL_law 837 = .ok (.iconst 0, 1) := by decide +kernel
theorem dL_law_838 : decode cL_law 838 = .ok (.ireturn, 1) := by decide +kernel
theorem dL_law_839 : decode cL_law 839 = .ok (.aload_n 1, 1) := by decide +kernel
theorem dL_law_840 : decode cL_law 840 = .ok (.aload_n 0, 1) := by decide +kernel
theorem dL_law_841 : decode cL_law 841 = .ok (.iload_n 3, 1) := by decide +kernel
theorem dL_law_842 : decode cL_law 842 = .ok (.iconst 1, 1) := by decide +kernel
theorem dL_law_843 : decode cL_law 843 = .ok (.iadd, 1) := by decide +kernel
theorem dL_law_844 : decode cL_law 844 = .ok (.iaload, 1) := by decide +kernel
theorem dL_law_845 : decode cL_law 845 = .ok (.invokevirtual 86, 3) := by decide +kernel
theorem dL_law_848 : decode cL_law 848 = .ok (.aload_n 2, 1) := by decide +kernel
theorem dL_law_849 : decode cL_law 849 = .ok (.aload_n 0, 1) := by decide +kernel
theorem dL_law_850 : decode cL_law 850 = .ok (.iload_n 3, 1) := by decide +kernel
theorem dL_law_851 : decode cL_law 851 = .ok (.iconst 1, 1) := by decide +kernel
theorem dL_law_852 : decode cL_law 852 = .ok (.iadd, 1) := by decide +kernel
theorem dL_law_853 : decode cL_law 853 = .ok (.iaload, 1) := by decide +kernel
theorem dL_law_854 : decode cL_law 854 = .ok (.invokevirtual 89, 3) := by decide +kernel
theorem dL_law_857 : decode cL_law 857 = .ok (.if_icmp .eq 786, 3) := by decide +kernel
theorem dL_law_860 : decode cL_law 860 = .ok (.iconst 0, 1) := by decide +kernel
theorem dL_law_861 : decode cL_law 861 = .ok (.ireturn, 1) := by decide +kernel
theorem dL_law_862 : decode cL_law 862 = .ok (.aload_n 1, 1) := by decide +kernel
theorem dL_law_863 : decode cL_law 863 = .ok (.aload_n 0, 1) := by decide +kernel
theorem dL_law_864 : decode cL_law 864 = .ok (.iload_n 3, 1) := by decide +kernel
theorem dL_law_865 : decode cL_law 865 = .ok (.iconst 1, 1) := by decide +kernel
theorem dL_law_866 : decode cL_law 866 = .ok (.iadd, 1) := by decide +kernel
theorem dL_law_867 : decode cL_law 867 = .ok (.iaload, 1) := by decide +kernel
theorem dL_law_868 : decode cL_law 868 = .ok (.aload_n 0, 1) := by decide +kernel
theorem dL_law_869 : decode cL_law 869 = .ok (.iload_n 3, 1) := by decide +kernel
theorem dL_law_870 : decode cL_law 870 = .ok (.iconst 2, 1) := by decide +kernel
theorem dL_law_871 : decode cL_law 871 = .ok (.iadd, 1) := by decide +kernel
theorem dL_law_872 : decode cL_law 872 = .ok (.iaload, 1) := by decide +kernel
theorem dL_law_873 : decode cL_law 873 = .ok (.invokevirtual 90, 3) := by decide +kernel
theorem dL_law_876 : decode cL_law 876 = .ok (.aload_n 2, 1) := by decide +kernel
theorem dL_law_877 : decode cL_law 877 = .ok (.aload_n 0, 1) := by decide +kernel
theorem dL_law_878 : decode cL_law 878 = .ok (.iload_n 3, 1) := by decide +kernel
theorem dL_law_879 : decode cL_law 879 = .ok (.iconst 1, 1) := by decide +kernel
theorem dL_law_880 : decode cL_law 880 = .ok (.iadd, 1) := by decide +kernel
theorem dL_law_881 : decode cL_law 881 = .ok (.iaload, 1) := by decide +kernel
theorem dL_law_882 : decode cL_law 882 = .ok (.aload_n 0, 1) := by decide +kernel
theorem dL_law_883 : decode cL_law 883 = .ok (.iload_n 3, 1) := by decide +kernel
theorem dL_law_884 : decode cL_law 884 = .ok (.iconst 2, 1) := by decide +kernel
theorem dL_law_885 : decode cL_law 885 = .ok (.iadd, 1) := by decide +kernel
theorem dL_law_886 : decode cL_law 886 = .ok (.iaload, 1) := by decide +kernel
theorem dL_law_887 : decode cL_law 887 = .ok (.invokevirtual 93, 3) := by decide +kernel
theorem dL_law_890 : decode cL_law 890 = .ok (.if_icmp .eq 753, 3) := by decide +kernel
theorem dL_law_893 : decode cL_law 893 = .ok (.iconst 0, 1) := by decide +kernel
theorem dL_law_894 : decode cL_law 894 = .ok (.ireturn, 1) := by decide +kernel
theorem dL_law_895 : decode cL_law 895 = .ok (.aload_n 1, 1) := by decide +kernel
theorem dL_law_896 : decode cL_law 896 = .ok (.aload_n 0, 1) := by decide +kernel
theorem dL_law_897 : decode cL_law 897 = .ok (.iload_n 3, 1) := by decide +kernel
theorem dL_law_898 : decode cL_law 898 = .ok (.iconst 1, 1) := by decide +kernel
theorem dL_law_899 : decode cL_law 899 = .ok (.iadd, 1) := by decide +kernel
theorem dL_law_900 : decode cL_law 900 = .ok (.iaload, 1) := by decide +kernel
theorem dL_law_901 : decode cL_law 901 = .ok (.invokevirtual 94, 3) := by decide +kernel
theorem dL_law_904 : decode cL_law 904 = .ok (.aload_n 2, 1) := by decide +kernel
theorem dL_law_905 : decode cL_law 905 = .ok (.aload_n 0, 1) := by decide +kernel
theorem dL_law_906 : decode cL_law 906 = .ok (.iload_n 3, 1) := by decide +kernel
theorem dL_law_907 : decode cL_law 907 = .ok (.iconst 1, 1) := by decide +kernel
theorem dL_law_908 : decode cL_law 908 = .ok (.iadd, 1) := by decide +kernel
theorem dL_law_909 : decode cL_law 909 = .ok (.iaload, 1) := by decide +kernel
theorem dL_law_910 : decode cL_law 910 = .ok (.invokevirtual 97, 3) := by decide +kernel
theorem dL_law_913 : decode cL_law 913 = .ok (.if_icmp .eq 730, 3) := by decide +kernel
theorem dL_law_916 : decode cL_law 916 = .ok (.iconst 0, 1) := by decide +kernel
theorem dL_law_917 : decode cL_law 917 = .ok (.ireturn, 1) := by decide +kernel
theorem dL_law_918 : decode cL_law 918 = .ok (.aload_n 1, 1) := by decide +kernel
theorem dL_law_919 : decode cL_law 919 = .ok (.aload_n 0, 1) := by decide +kernel
theorem dL_law_920 : decode cL_law 920 = .ok (.iload_n 3, 1) := by decide +kernel
theorem dL_law_921 : decode cL_law 921 = .ok (.iconst 1, 1) := by decide +kernel
theorem dL_law_922 : decode cL_law 922 = .ok (.iadd, 1) := by decide +kernel
theorem dL_law_923 : decode cL_law 923 = .ok (.iaload, 1) := by decide +kernel
theorem dL_law_924 : decode cL_law 924 = .ok (.invokevirtual 98, 3) := by decide +kernel
theorem dL_law_927 : decode cL_law 927 = .ok (.aload_n 2, 1) := by decide +kernel
theorem dL_law_928 : decode cL_law 928 = .ok (.aload_n 0, 1) := by decide +kernel
theorem dL_law_929 : decode cL_law 929 = .ok (.iload_n 3, 1) := by decide +kernel
theorem dL_law_930 : decode cL_law 930 = .ok (.iconst 1, 1) := by decide +kernel
theorem dL_law_931 : decode cL_law 931 = .ok (.iadd, 1) := by decide +kernel
theorem dL_law_932 : decode cL_law 932 = .ok (.iaload, 1) := by decide +kernel
theorem dL_law_933 : decode cL_law 933 = .ok (.invokevirtual 101, 3) := by decide +kernel
theorem dL_law_936 : decode cL_law 936 = .ok (.if_icmp .eq 707, 3) := by decide +kernel
theorem dL_law_939 : decode cL_law 939 = .ok (.iconst 0, 1) := by decide +kernel
theorem dL_law_940 : decode cL_law 940 = .ok (.ireturn, 1) := by decide +kernel
theorem dL_law_941 : decode cL_law 941 = .ok (.aload_n 1, 1) := by decide +kernel
theorem dL_law_942 : decode cL_law 942 = .ok (.aload_n 0, 1) := by decide +kernel
theorem dL_law_943 : decode cL_law 943 = .ok (.iload_n 3, 1) := by decide +kernel
theorem dL_law_944 : decode cL_law 944 = .ok (.iconst 1, 1) := by decide +kernel
theorem dL_law_945 : decode cL_law 945 = .ok (.iadd, 1) := by decide +kernel
theorem dL_law_946 : decode cL_law 946 = .ok (.iaload, 1) := by decide +kernel
theorem dL_law_947 : decode cL_law 947 = .ok (.invokevirtual 102, 3) := by decide +kernel
theorem dL_law_950 : decode cL_law 950 = .ok (.aload_n 2, 1) := by decide +kernel
theorem dL_law_951 : decode cL_law 951 = .ok (.aload_n 0, 1) := by decide +kernel
theorem dL_law_952 : decode cL_law 952 = .ok (.iload_n 3, 1) := by decide +kernel
theorem dL_law_953 : decode cL_law 953 = .ok (.iconst 1, 1) := by decide +kernel
theorem dL_law_954 : decode cL_law 954 = .ok (.iadd, 1) := by decide +kernel
theorem dL_law_955 : decode cL_law 955 = .ok (.iaload, 1) := by decide +kernel
theorem dL_law_956 : decode cL_law 956 = .ok (.invokevirtual 105, 3) := by decide +kernel
theorem dL_law_959 : decode cL_law 959 = .ok (.if_icmp .eq 684, 3) := by decide +kernel
theorem dL_law_962 : decode cL_law 962 = .ok (.iconst 0, 1) := by decide +kernel
theorem dL_law_963 : decode cL_law 963 = .ok (.ireturn, 1) := by decide +kernel
theorem dL_law_964 : decode cL_law 964 = .ok (.aload_n 1, 1) := by decide +kernel
theorem dL_law_965 : decode cL_law 965 = .ok (.invokevirtual 106, 3) := by decide +kernel
theorem dL_law_968 : decode cL_law 968 = .ok (.aload_n 2, 1) := by decide +kernel
theorem dL_law_969 : decode cL_law 969 = .ok (.invokevirtual 110, 3) := by decide +kernel
theorem dL_law_972 : decode cL_law 972 = .ok (.if_icmp .eq 671, 3) := by decide +kernel
theorem dL_law_975 : decode cL_law 975 = .ok (.iconst 0, 1) := by decide +kernel
theorem dL_law_976 : decode cL_law 976 = .ok (.ireturn, 1) := by decide +kernel
theorem dL_law_977 : decode cL_law 977 = .ok (.aload_n 1, 1) := by decide +kernel
theorem dL_law_978 : decode cL_law 978 = .ok (.invokevirtual 111, 3) := by decide +kernel
theorem dL_law_981 : decode cL_law 981 = .ok (.aload_n 2, 1) := by decide +kernel
theorem dL_law_982 : decode cL_law 982 = .ok (.invokevirtual 114, 3) := by decide +kernel
theorem dL_law_985 : decode cL_law 985 = .ok (.if_icmp .eq 658, 3) := by decide +kernel
theorem dL_law_988 : decode cL_law 988 = .ok (.iconst 0, 1) := by decide +kernel
theorem dL_law_989 : decode cL_law 989 = .ok (.ireturn, 1) := by decide +kernel
theorem dL_law_990 : decode cL_law 990 = .ok (.aload_n 1, 1) := by decide +kernel
theorem dL_law_991 : decode cL_law 991 = .ok (.aload_n 0, 1) := by decide +kernel
theorem dL_law_992 : decode cL_law 992 = .ok (.iload_n 3, 1) := by decide +kernel
theorem dL_law_993 : decode cL_law 993 = .ok (.iconst 1, 1) := by decide +kernel
theorem dL_law_994 : decode cL_law 994 = .ok (.iadd, 1) := by decide +kernel
theorem dL_law_995 : decode cL_law 995 = .ok (.iaload, 1) := by decide +kernel
theorem dL_law_996 : decode cL_law 996 = .ok (.invokevirtual 115, 3) := by decide +kernel
theorem dL_law_999 : decode cL_law 999 = .ok (.aload_n 2, 1) := by decide +kernel
theorem dL_law_1000 : decode cL_law 1000 = .ok (.aload_n 0, 1) := by decide +kernel
theorem dL_law_1001 : decode cL_law 1001 = .ok (.iload_n 3, 1) := by decide +kernel
theorem dL_law_1002 : decode cL_law 1002 = .ok (.iconst 1, 1) := by decide +kernel
theorem dL_law_1003 : decode cL_law 1003 = .ok (.iadd, 1) := by decide +kernel
theorem dL_law_1004 : decode cL_law 1004 = .ok (.iaload, 1) := by decide +kernel
theorem dL_law_1005 : decode cL_law 1005 = .ok (.invokevirtual 118, 3) := by decide +kernel
theorem dL_law_1008 : decode cL_law 1008 = .ok (.if_icmp .eq 635, 3) := by decide +kernel
theorem dL_law_1011 : decode cL_law 1011 = .ok (.iconst 0, 1) := by decide +kernel
theorem dL_law_1012 : decode cL_law 1012 = .ok (.ireturn, 1) := by decide +kernel
theorem dL_law_1013 : decode cL_law 1013 = .ok (.aload_n 1, 1) := by decide +kernel
theorem dL_law_1014 : decode cL_law 1014 = .ok (.aload_n 0, 1) := by decide +kernel
theorem dL_law_1015 : decode cL_law 1015 = .ok (.iload_n 3, 1) := by decide +kernel
theorem dL_law_1016 : decode cL_law 1016 = .ok (.iconst 1, 1) := by decide +kernel
theorem dL_law_1017 : decode cL_law 1017 = .ok (.iadd, 1) := by decide +kernel
theorem dL_law_1018 : decode cL_law 1018 = .ok (.iaload, 1) := by decide +kernel
theorem dL_law_1019 : decode cL_law 1019 = .ok (.invokevirtual 119, 3) := by decide +kernel
theorem dL_law_1022 : decode cL_law 1022 = .ok (.aload_n 2, 1) := by decide +kernel
theorem dL_law_1023 : decode cL_law 1023 = .ok (.aload_n 0, 1) := by decide +kernel
theorem dL_law_1024 : decode cL_law 1024 = .ok (.iload_n 3, 1) := by decide +kernel
theorem dL_law_1025 : decode cL_law 1025 = .ok (.iconst 1, 1) := by decide +kernel
theorem dL_law_1026 : decode cL_law 1026 = .ok (.iadd, 1) := by decide +kernel
theorem dL_law_1027 : decode cL_law 1027 = .ok (.iaload, 1) := by decide +kernel
theorem dL_law_1028 : decode cL_law 1028 = .ok (.invokevirtual 122, 3) := by decide +kernel
theorem dL_law_1031 : decode cL_law 1031 = .ok (.if_icmp .eq 612, 3) := by decide +kernel
theorem dL_law_1034 : decode cL_law 1034 = .ok (.iconst 0, 1) := by decide +kernel
theorem dL_law_1035 : decode cL_law 1035 = .ok (.ireturn, 1) := by decide +kernel
theorem dL_law_1036 : decode cL_law 1036 = .ok (.aload_n 1, 1) := by decide +kernel
theorem dL_law_1037 : decode cL_law 1037 = .ok (.invokevirtual 123, 3) := by decide +kernel
theorem dL_law_1040 : decode cL_law 1040 = .ok (.aload_n 2, 1) := by decide +kernel
theorem dL_law_1041 : decode cL_law 1041 = .ok (.invokevirtual 126, 3) := by decide +kernel
theorem dL_law_1044 : decode cL_law 1044 = .ok (.if_icmp .eq 599, 3) := by decide +kernel
theorem dL_law_1047 : decode cL_law 1047 = .ok (.iconst 0, 1) := by decide +kernel
theorem dL_law_1048 : decode cL_law 1048 = .ok (.ireturn, 1) := by decide +kernel
theorem dL_law_1049 : decode cL_law 1049 = .ok (.aload_n 1, 1) := by decide +kernel
theorem dL_law_1050 : decode cL_law 1050 = .ok (.invokevirtual 127, 3) := by decide +kernel
theorem dL_law_1053 : decode cL_law 1053 = .ok (.aload_n 2, 1) := by decide +kernel
theorem dL_law_1054 : decode cL_law 1054 = .ok (.invokevirtual 130, 3) := by decide +kernel
theorem dL_law_1057 : decode cL_law 1057 = .ok (.if_icmp .eq 586, 3) := by decide +kernel
theorem dL_law_1060 : decode cL_law 1060 = .ok (.iconst 0, 1) := by decide +kernel
theorem dL_law_1061 : decode cL_law 1061 = .ok (.ireturn, 1) := by decide +kernel
theorem dL_law_1062 : decode cL_law 1062 = .ok (.aload_n 1, 1) := by decide +kernel
theorem dL_law_1063 : decode cL_law 1063 = .ok (.aload_n 0, 1) := by decide +kernel
theorem dL_law_1064 : decode cL_law 1064 = .ok (.iload_n 3, 1) := by decide +kernel
theorem dL_law_1065 : decode cL_law 1065 = .ok (.iconst 1, 1) := by decide +kernel
theorem dL_law_1066 : decode cL_law 1066 = .ok (.iadd, 1) := by decide +kernel
theorem dL_law_1067 : decode cL_law 1067 = .ok (.iaload, 1) := by decide +kernel
theorem dL_law_1068 : decode cL_law 1068 = .ok (.invokevirtual 131, 3) := by decide +kernel
theorem dL_law_1071 : decode cL_law 1071 = .ok (.aload_n 2, 1) := by decide +kernel
theorem dL_law_1072 : decode cL_law 1072 = .ok (.aload_n 0, 1) := by decide +kernel
theorem dL_law_1073 : decode cL_law 1073 = .ok (.iload_n 3, 1) := by decide +kernel
theorem dL_law_1074 : decode cL_law 1074 = .ok (.iconst 1, 1) := by decide +kernel
theorem dL_law_1075 : decode cL_law 1075 = .ok (.iadd, 1) := by decide +kernel
theorem dL_law_1076 : decode cL_law 1076 = .ok (.iaload, 1) := by decide +kernel
theorem dL_law_1077 : decode cL_law 1077 = .ok (.invokevirtual 134, 3) := by decide +kernel
theorem dL_law_1080 : decode cL_law 1080 = .ok (.if_icmp .eq 563, 3) := by decide +kernel
theorem dL_law_1083 : decode cL_law 1083 = .ok (.iconst 0, 1) := by decide +kernel
theorem dL_law_1084 : decode cL_law 1084 = .ok (.ireturn, 1) := by decide +kernel
theorem dL_law_1085 : decode cL_law 1085 = .ok (.aload_n 1, 1) := by decide +kernel
theorem dL_law_1086 : decode cL_law 1086 = .ok (.invokevirtual 135, 3) := by decide +kernel
theorem dL_law_1089 : decode cL_law 1089 = .ok (.aload_n 2, 1) := by decide +kernel
theorem dL_law_1090 : decode cL_law 1090 = .ok (.invokevirtual 138, 3) := by decide +kernel
theorem dL_law_1093 : decode cL_law 1093 = .ok (.if_icmp .eq 550, 3) := by decide +kernel
theorem dL_law_1096 : decode cL_law 1096 = .ok (.iconst 0, 1) := by decide +kernel
theorem dL_law_1097 : decode cL_law 1097 = .ok (.ireturn, 1) := by decide +kernel
theorem dL_law_1098 : decode cL_law 1098 = .ok (.aload_n 1, 1) := by decide +kernel
theorem dL_law_1099 : decode cL_law 1099 = .ok (.aload_n 0, 1) := by decide +kernel
theorem dL_law_1100 : decode cL_law 1100 = .ok (.iload_n 3, 1) := by decide +kernel
theorem dL_law_1101 : decode cL_law 1101 = .ok (.iconst 1, 1) := by decide +kernel
theorem dL_law_1102 : decode cL_law 1102 = .ok (.iadd, 1) := by decide +kernel
theorem dL_law_1103 : decode cL_law 1103 = .ok (.iaload, 1) := by decide +kernel
theorem dL_law_1104 : decode cL_law 1104 = .ok (.aload_n 0, 1) := by decide +kernel
theorem dL_law_1105 : decode cL_law 1105 = .ok (.iload_n 3, 1) := by decide +kernel
theorem dL_law_1106 : decode cL_law 1106 = .ok (.iconst 2, 1) := by decide +kernel
theorem dL_law_1107 : decode cL_law 1107 = .ok (.iadd, 1) := by decide +kernel
theorem dL_law_1108 : decode cL_law 1108 = .ok (.iaload, 1) := by decide +kernel
theorem dL_law_1109 : decode cL_law 1109 = .ok (.aload_n 0, 1) := by decide +kernel
theorem dL_law_1110 : decode cL_law 1110 = .ok (.iload_n 3, 1) := by decide +kernel
theorem dL_law_1111 : decode cL_law 1111 = .ok (.iconst 3, 1) := by decide +kernel
theorem dL_law_1112 : decode cL_law 1112 = .ok (.iadd, 1) := by decide +kernel
theorem dL_law_1113 : decode cL_law 1113 = .ok (.iaload, 1) := by decide +kernel
theorem dL_law_1114 : decode cL_law 1114 = .ok (.aload_n 0, 1) := by decide +kernel
theorem dL_law_1115 : decode cL_law 1115 = .ok (.iload_n 3, 1) := by decide +kernel
theorem dL_law_1116 : decode cL_law 1116 = .ok (.iconst 4, 1) := by decide +kernel
theorem dL_law_1117 : decode cL_law 1117 = .ok (.iadd, 1) := by decide +kernel
theorem dL_law_1118 : decode cL_law 1118 = .ok (.iaload, 1) := by decide +kernel
theorem dL_law_1119 : decode cL_law 1119 = .ok (.invokevirtual 139, 3) := by decide +kernel
theorem dL_law_1122 : decode cL_law 1122 = .ok (.aload_n 2, 1) := by decide +kernel
theorem dL_law_1123 : decode cL_law 1123 = .ok (.aload_n 0, 1) := by decide +kernel
theorem dL_law_1124 : decode cL_law 1124 = .ok (.iload_n 3, 1) := by decide +kernel
theorem dL_law_1125 : decode cL_law 1125 = .ok (.iconst 1, 1) := by decide +kernel
theorem dL_law_1126 : decode cL_law 1126 = .ok (.iadd, 1) := by decide +kernel
theorem dL_law_1127 : decode cL_law 1127 = .ok (.iaload, 1) := by decide +kernel
theorem dL_law_1128 : decode cL_law 1128 = .ok (.aload_n 0, 1) := by decide +kernel
theorem dL_law_1129 : decode cL_law 1129 = .ok (.iload_n 3, 1) := by decide +kernel
theorem dL_law_1130 : decode cL_law 1130 = .ok (.iconst 2, 1) := by decide +kernel
theorem dL_law_1131 : decode cL_law 1131 = .ok (.iadd, 1) := by decide +kernel
theorem dL_law_1132 : decode cL_law 1132 = .ok (.iaload, 1) := by decide +kernel
theorem dL_law_1133 : decode cL_law 1133 = .ok (.aload_n 0, 1) := by decide +kernel
theorem dL_law_1134 : decode cL_law 1134 = .ok (.iload_n 3, 1) := by decide +kernel
theorem dL_law_1135 : decode cL_law 1135 = .ok (.iconst 3, 1) := by decide +kernel
theorem dL_law_1136 : decode cL_law 1136 = .ok (.iadd, 1) := by decide +kernel
theorem dL_law_1137 : decode cL_law 1137 = .ok (.iaload, 1) := by decide +kernel
theorem dL_law_1138 : decode cL_law 1138 = .ok (.aload_n 0, 1) := by decide +kernel
theorem dL_law_1139 : decode cL_law 1139 = .ok (.iload_n 3, 1) := by decide +kernel
theorem dL_law_1140 : decode cL_law 1140 = .ok (.iconst 4, 1) := by decide +kernel
theorem dL_law_1141 : decode cL_law 1141 = .ok (.iadd, 1) := by decide +kernel
theorem dL_law_1142 : decode cL_law 1142 = .ok (.iaload, 1) := by decide +kernel
theorem dL_law_1143 : decode cL_law 1143 = .ok (.invokevirtual 143, 3) := by decide +kernel
theorem dL_law_1146 : decode cL_law 1146 = .ok (.if_icmp .eq 497, 3) := by decide +kernel
theorem dL_law_1149 : decode cL_law 1149 = .ok (.iconst 0, 1) := by decide +kernel
theorem dL_law_1150 : decode cL_law 1150 = .ok (.ireturn, 1) := by decide +kernel
theorem dL_law_1151 : decode cL_law 1151 = .ok (.aload_n 1, 1) := by decide +kernel
theorem dL_law_1152 : decode cL_law 1152 = .ok (.aload_n 0, 1) := by decide +kernel
theorem dL_law_1153 : decode cL_law 1153 = .ok (.iload_n 3, 1) := by decide +kernel
theorem dL_law_1154 : decode cL_law 1154 = .ok (.iconst 1, 1) := by decide +kernel
theorem dL_law_1155 : decode cL_law 1155 = .ok (.iadd, 1) := by decide +kernel
theorem dL_law_1156 : decode cL_law 1156 = .ok (.iaload, 1) := by decide +kernel
theorem dL_law_1157 : decode cL_law 1157 = .ok (.aload_n 0, 1) := by decide +kernel
theorem dL_law_1158 : decode cL_law 1158 = .ok (.iload_n 3, 1) := by decide +kernel
theorem dL_law_1159 : decode cL_law 1159 = .ok (.iconst 2, 1) := by decide +kernel
theorem dL_law_1160 : decode cL_law 1160 = .ok (.iadd, 1) := by decide +kernel
theorem dL_law_1161 : decode cL_law 1161 = .ok (.iaload, 1) := by decide +kernel
theorem dL_law_1162 : decode cL_law 1162 = .ok (.aload_n 0, 1) := by decide +kernel
theorem dL_law_1163 : decode cL_law 1163 = .ok (.iload_n 3, 1) := by decide +kernel
theorem dL_law_1164 : decode cL_law 1164 = .ok (.iconst 3, 1) := by decide +kernel
theorem dL_law_1165 : decode cL_law 1165 = .ok (.iadd, 1) := by decide +kernel
theorem dL_law_1166 : decode cL_law 1166 = .ok (.iaload, 1) := by decide +kernel
theorem dL_law_1167 : decode cL_law 1167 = .ok (.invokevirtual 144, 3) := by decide +kernel
theorem dL_law_1170 : decode cL_law 1170 = .ok (.aload_n 2, 1) := by decide +kernel
theorem dL_law_1171 : decode cL_law 1171 = .ok (.aload_n 0, 1) := by decide +kernel
theorem dL_law_1172 : decode cL_law 1172 = .ok (.iload_n 3, 1) := by decide +kernel
theorem dL_law_1173 : decode cL_law 1173 = .ok (.iconst 1, 1) := by decide +kernel
theorem dL_law_1174 : decode cL_law 1174 = .ok (.iadd, 1) := by decide +kernel
theorem dL_law_1175 : decode cL_law 1175 = .ok (.iaload, 1) := by decide +kernel
theorem dL_law_1176 : decode cL_law 1176 = .ok (.aload_n 0, 1) := by decide +kernel
theorem dL_law_1177 : decode cL_law 1177 = .ok (.iload_n 3, 1) := by decide +kernel
theorem dL_law_1178 : decode cL_law 1178 = .ok (.iconst 2, 1) := by decide +kernel
theorem dL_law_1179 : decode cL_law 1179 = .ok (.iadd, 1) := by decide +kernel
theorem dL_law_1180 : decode cL_law 1180 = .ok (.iaload, 1) := by decide +kernel
theorem dL_law_1181 : decode cL_law 1181 = .ok (.aload_n 0, 1) := by decide +kernel
theorem dL_law_1182 : decode cL_law 1182 = .ok (.iload_n 3, 1) := by decide +kernel
theorem dL_law_1183 : decode cL_law 1183 = .ok (.iconst 3, 1) := by decide +kernel
theorem dL_law_1184 : decode cL_law 1184 = .ok (.iadd, 1) := by decide +kernel
theorem dL_law_1185 : decode cL_law 1185 = .ok (.iaload, 1) := by decide +kernel
theorem dL_law_1186 : decode cL_law 1186 = .ok (.invokevirtual 147, 3) := by decide +kernel
theorem dL_law_1189 : decode cL_law 1189 = .ok (.if_icmp .eq 454, 3) := by decide +kernel
theorem dL_law_1192 : decode cL_law 1192 = .ok (.iconst 0, 1) := by decide +kernel
theorem dL_law_1193 : decode cL_law 1193 = .ok (.ireturn, 1) := by decide +kernel
theorem dL_law_1194 : decode cL_law 1194 = .ok (.aload_n 1, 1) := by decide +kernel
theorem dL_law_1195 : decode cL_law 1195 = .ok (.aload_n 0, 1) := by decide +kernel
theorem dL_law_1196 : decode cL_law 1196 = .ok (.iload_n 3, 1) := by decide +kernel
theorem dL_law_1197 : decode cL_law 1197 = .ok (.iconst 1, 1) := by decide +kernel
theorem dL_law_1198 : decode cL_law 1198 = .ok (.iadd, 1) := by decide +kernel
theorem dL_law_1199 : decode cL_law 1199 = .ok (.iaload, 1) := by decide +kernel
theorem dL_law_1200 : decode cL_law 1200 = .ok (.invokevirtual 148, 3) := by decide +kernel
theorem dL_law_1203 : decode cL_law 1203 = .ok (.aload_n 2, 1) := by decide +kernel
theorem dL_law_1204 : decode cL_law 1204 = .ok (.aload_n 0, 1) := by decide +kernel
theorem dL_law_1205 : decode cL_law 1205 = .ok (.iload_n 3, 1) := by decide +kernel
theorem dL_law_1206 : decode cL_law 1206 = .ok (.iconst 1, 1) := by decide +kernel
theorem dL_law_1207 : decode cL_law 1207 = .ok (.iadd, 1) := by decide +kernel
theorem dL_law_1208 : decode cL_law 1208 = .ok (.iaload, 1) := by decide +kernel
theorem dL_law_1209 : decode cL_law 1209 = .ok (.invokevirtual 151, 3) := by decide +kernel
theorem dL_law_1212 : decode cL_law 1212 = .ok (.if_icmp .eq 431, 3) := by decide +kernel
theorem dL_law_1215 : decode cL_law 1215 = .ok (.iconst 0, 1) := by decide +kernel
theorem dL_law_1216 : decode cL_law 1216 = .ok (.ireturn, 1) := by decide +kernel
theorem dL_law_1217 : decode cL_law 1217 = .ok (.aload_n 1, 1) := by decide +kernel
theorem dL_law_1218 : decode cL_law 1218 = .ok (.aload_n 0, 1) := by decide +kernel
theorem dL_law_1219 : decode cL_law 1219 = .ok (.iload_n 3, 1) := by decide +kernel
theorem dL_law_1220 : decode cL_law 1220 = .ok (.iconst 1, 1) := by decide +kernel
theorem dL_law_1221 : decode cL_law 1221 = .ok (.iadd, 1) := by decide +kernel
theorem dL_law_1222 : decode cL_law 1222 = .ok (.iaload, 1) := by decide +kernel
theorem dL_law_1223 : decode cL_law 1223 = .ok (.aload_n 0, 1) := by decide +kernel
theorem dL_law_1224 : decode cL_law 1224 = .ok (.iload_n 3, 1) := by decide +kernel
theorem dL_law_1225 : decode cL_law 1225 = .ok (.iconst 2, 1) := by decide +kernel
theorem dL_law_1226 : decode cL_law 1226 = .ok (.iadd, 1) := by decide +kernel
theorem dL_law_1227 : decode cL_law 1227 = .ok (.iaload, 1) := by decide +kernel
theorem dL_law_1228 : decode cL_law 1228 = .ok (.aload_n 0, 1) := by decide +kernel
theorem dL_law_1229 : decode cL_law 1229 = .ok (.iload_n 3, 1) := by decide +kernel
theorem dL_law_1230 : decode cL_law 1230 = .ok (.iconst 3, 1) := by decide +kernel
theorem dL_law_1231 : decode cL_law 1231 = .ok (.iadd, 1) := by decide +kernel
theorem dL_law_1232 : decode cL_law 1232 = .ok (.iaload, 1) := by decide +kernel
theorem dL_law_1233 : decode cL_law 1233 = .ok (.aload_n 0, 1) := by decide +kernel
theorem dL_law_1234 : decode cL_law 1234 = .ok (.iload_n 3, 1) := by decide +kernel
theorem dL_law_1235 : decode cL_law 1235 = .ok (.iconst 4, 1) := by decide +kernel
theorem dL_law_1236 : decode cL_law 1236 = .ok (.iadd, 1) := by decide +kernel
theorem dL_law_1237 : decode cL_law 1237 = .ok (.iaload, 1) := by decide +kernel
theorem dL_law_1238 : decode cL_law 1238 = .ok (.aload_n 0, 1) := by decide +kernel
theorem dL_law_1239 : decode cL_law 1239 = .ok (.iload_n 3, 1) := by decide +kernel
theorem dL_law_1240 : decode cL_law 1240 = .ok (.iconst 5, 1) := by decide +kernel
theorem dL_law_1241 : decode cL_law 1241 = .ok (.iadd, 1) := by decide +kernel
theorem dL_law_1242 : decode cL_law 1242 = .ok (.iaload, 1) := by decide +kernel
theorem dL_law_1243 : decode cL_law 1243 = .ok (.aload_n 0, 1) := by decide +kernel
theorem dL_law_1244 : decode cL_law 1244 = .ok (.iload_n 3, 1) := by decide +kernel
theorem dL_law_1245 : decode cL_law 1245 = .ok (.bipush 6, 2) := by decide +kernel
theorem dL_law_1247 : decode cL_law 1247 = .ok (.iadd, 1) := by decide +kernel
theorem dL_law_1248 : decode cL_law 1248 = .ok (.iaload, 1) := by decide +kernel
theorem dL_law_1249 : decode cL_law 1249 = .ok (.invokevirtual 152, 3) := by decide +kernel
theorem dL_law_1252 : decode cL_law 1252 = .ok (.aload_n 2, 1) := by decide +kernel
theorem dL_law_1253 : decode cL_law 1253 = .ok (.aload_n 0, 1) := by decide +kernel
theorem dL_law_1254 : decode cL_law 1254 = .ok (.iload_n 3, 1) := by decide +kernel
theorem dL_law_1255 : decode cL_law 1255 = .ok (.iconst 1, 1) := by decide +kernel
theorem dL_law_1256 : decode cL_law 1256 = .ok (.iadd, 1) := by decide +kernel
theorem dL_law_1257 : decode cL_law 1257 = .ok (.iaload, 1) := by decide +kernel
theorem dL_law_1258 : decode cL_law 1258 = .ok (.aload_n 0, 1) := by decide +kernel
theorem dL_law_1259 : decode cL_law 1259 = .ok (.iload_n 3, 1) := by decide +kernel
theorem dL_law_1260 : decode cL_law 1260 = .ok (.iconst 2, 1) := by decide +kernel
theorem dL_law_1261 : decode cL_law 1261 = .ok (.iadd, 1) := by decide +kernel
theorem dL_law_1262 : decode cL_law 1262 = .ok (.iaload, 1) := by decide +kernel
theorem dL_law_1263 : decode cL_law 1263 = .ok (.aload_n 0, 1) := by decide +kernel
theorem dL_law_1264 : decode cL_law 1264 = .ok (.iload_n 3, 1) := by decide +kernel
theorem dL_law_1265 : decode cL_law 1265 = .ok (.iconst 3, 1) := by decide +kernel
theorem dL_law_1266 : decode cL_law 1266 = .ok (.iadd, 1) := by decide +kernel
theorem dL_law_1267 : decode cL_law 1267 = .ok (.iaload, 1) := by decide +kernel
theorem dL_law_1268 : decode cL_law 1268 = .ok (.aload_n 0, 1) := by decide +kernel
theorem dL_law_1269 : decode cL_law 1269 = .ok (.iload_n 3, 1) := by decide +kernel
theorem dL_law_1270 : decode cL_law 1270 = .ok (.iconst 4, 1) := by decide +kernel
theorem dL_law_1271 : decode cL_law 1271 = .ok (.iadd, 1) := by decide +kernel
theorem dL_law_1272 : decode cL_law 1272 = .ok (.iaload, 1) := by decide +kernel
theorem dL_law_1273 : decode cL_law 1273 = .ok (.aload_n 0, 1) := by decide +kernel
theorem dL_law_1274 : decode cL_law 1274 = .ok (.iload_n 3, 1) := by decide +kernel
theorem dL_law_1275 : decode cL_law 1275 = .ok (.iconst 5, 1) := by decide +kernel
theorem dL_law_1276 : decode cL_law 1276 = .ok (.iadd, 1) := by decide +kernel
theorem dL_law_1277 : decode cL_law 1277 = .ok (.iaload, 1) := by decide +kernel
theorem dL_law_1278 : decode cL_law 1278 = .ok (.aload_n 0, 1) := by decide +kernel
theorem dL_law_1279 : decode cL_law 1279 = .ok (.iload_n 3, 1) := by decide +kernel
theorem dL_law_1280 : decode cL_law 1280 = .ok (.bipush 6, 2) := by decide +kernel
theorem dL_law_1282 : decode cL_law 1282 = .ok (.iadd, 1) := by decide +kernel
theorem dL_law_1283 : decode cL_law 1283 = .ok (.iaload, 1) := by decide +kernel
theorem dL_law_1284 : decode cL_law 1284 = .ok (.invokevirtual 156, 3) := by decide +kernel
theorem dL_law_1287 : decode cL_law 1287 = .ok (.if_icmp .eq 356, 3) := by decide +kernel
theorem dL_law_1290 : decode cL_law 1290 = .ok (.iconst 0, 1) := by decide +kernel
theorem dL_law_1291 : decode cL_law 1291 = .ok (.ireturn, 1) := by decide +kernel
theorem dL_law_1292 : decode cL_law 1292 = .ok (.aload_n 1, 1) := by decide +kernel
theorem dL_law_1293 : decode cL_law 1293 = .ok (.aload_n 0, 1) := by decide +kernel
theorem dL_law_1294 : decode cL_law 1294 = .ok (.iload_n 3, 1) := by decide +kernel
theorem dL_law_1295 : decode cL_law 1295 = .ok (.iconst 1, 1) := by decide +kernel
theorem dL_law_1296 : decode cL_law 1296 = .ok (.iadd, 1) := by decide +kernel
theorem dL_law_1297 : decode cL_law 1297 = .ok (.iaload, 1) := by decide +kernel
theorem dL_law_1298 : decode cL_law 1298 = .ok (.aload_n 0, 1) := by decide +kernel
theorem dL_law_1299 : decode cL_law 1299 = .ok (.iload_n 3, 1) := by decide +kernel
theorem dL_law_1300 : decode cL_law 1300 = .ok (.iconst 2, 1) := by decide +kernel
theorem dL_law_1301 : decode cL_law 1301 = .ok (.iadd, 1) := by decide +kernel
theorem dL_law_1302 : decode cL_law 1302 = .ok (.iaload, 1) := by decide +kernel
theorem dL_law_1303 : decode cL_law 1303 = .ok (.aload_n 0, 1) := by decide +kernel
theorem dL_law_1304 : decode cL_law 1304 = .ok (.iload_n 3, 1) := by decide +kernel
theorem dL_law_1305 : decode cL_law 1305 = .ok (.iconst 3, 1) := by decide +kernel
theorem dL_law_1306 : decode cL_law 1306 = .ok (.iadd, 1) := by decide +kernel
theorem dL_law_1307 : decode cL_law 1307 = .ok (.iaload, 1) := by decide +kernel
theorem dL_law_1308 : decode cL_law 1308 = .ok (.aload_n 0, 1) := by decide +kernel
theorem dL_law_1309 : decode cL_law 1309 = .ok (.iload_n 3, 1) := by decide +kernel
theorem dL_law_1310 : decode cL_law 1310 = .ok (.iconst 4, 1) := by decide +kernel
theorem dL_law_1311 : decode cL_law 1311 = .ok (.iadd, 1) := by decide +kernel
theorem dL_law_1312 : decode cL_law 1312 = .ok (.iaload, 1) := by decide +kernel
theorem dL_law_1313 : decode cL_law 1313 = .ok (.aload_n 0, 1) := by decide +kernel
theorem dL_law_1314 : decode cL_law 1314 = .ok (.iload_n 3, 1) := by decide +kernel
theorem dL_law_1315 : decode cL_law 1315 = .ok (.iconst 5, 1) := by decide +kernel
theorem dL_law_1316 : decode cL_law 1316 = .ok (.iadd, 1) := by decide +kernel
theorem dL_law_1317 : decode cL_law 1317 = .ok (.iaload, 1) := by decide +kernel
theorem dL_law_1318 : decode cL_law 1318 = .ok (.aload_n 0, 1) := by decide +kernel
theorem dL_law_1319 : decode cL_law 1319 = .ok (.iload_n 3, 1) := by decide +kernel
theorem dL_law_1320 : decode cL_law 1320 = .ok (.bipush 6, 2) := by decide +kernel
theorem dL_law_1322 : decode cL_law 1322 = .ok (.iadd, 1) := by decide +kernel
theorem dL_law_1323 : decode cL_law 1323 = .ok (.iaload, 1) := by decide +kernel
theorem dL_law_1324 : decode cL_law 1324 = .ok (.invokevirtual 157, 3) := by decide +kernel
theorem dL_law_1327 : decode cL_law 1327 = .ok (.aload_n 2, 1) := by decide +kernel
theorem dL_law_1328 : decode cL_law 1328 = .ok (.aload_n 0, 1) := by decide +kernel
theorem dL_law_1329 : decode cL_law 1329 = .ok (.iload_n 3, 1) := by decide +kernel
theorem dL_law_1330 : decode cL_law 1330 = .ok (.iconst 1, 1) := by decide +kernel
theorem dL_law_1331 : decode cL_law 1331 = .ok (.iadd, 1) := by decide +kernel
theorem dL_law_1332 : decode cL_law 1332 = .ok (.iaload, 1) := by decide +kernel
theorem dL_law_1333 : decode cL_law 1333 = .ok (.aload_n 0, 1) := by decide +kernel
theorem dL_law_1334 : decode cL_law 1334 = .ok (.iload_n 3, 1) := by decide +kernel
theorem dL_law_1335 : decode cL_law 1335 = .ok (.iconst 2, 1) := by decide +kernel
theorem dL_law_1336 : decode cL_law 1336 = .ok (.iadd, 1) := by decide +kernel
theorem dL_law_1337 : decode cL_law 1337 = .ok (.iaload, 1) := by decide +kernel
theorem dL_law_1338 : decode cL_law 1338 = .ok (.aload_n 0, 1) := by decide +kernel
theorem dL_law_1339 : decode cL_law 1339 = .ok (.iload_n 3, 1) := by decide +kernel
theorem dL_law_1340 : decode cL_law 1340 = .ok (.iconst 3, 1) := by decide +kernel
theorem dL_law_1341 : decode cL_law 1341 = .ok (.iadd, 1) := by decide +kernel
theorem dL_law_1342 : decode cL_law 1342 = .ok (.iaload, 1) := by decide +kernel
theorem dL_law_1343 : decode cL_law 1343 = .ok (.aload_n 0, 1) := by decide +kernel
theorem dL_law_1344 : decode cL_law 1344 = .ok (.iload_n 3, 1) := by decide +kernel
theorem dL_law_1345 : decode cL_law 1345 = .ok (.iconst 4, 1) := by decide +kernel
theorem dL_law_1346 : decode cL_law 1346 = .ok (.iadd, 1) := by decide +kernel
theorem dL_law_1347 : decode cL_law 1347 = .ok (.iaload, 1) := by decide +kernel
theorem dL_law_1348 : decode cL_law 1348 = .ok (.aload_n 0, 1) := by decide +kernel
theorem dL_law_1349 : decode cL_law 1349 = .ok (.iload_n 3, 1) := by decide +kernel
theorem dL_law_1350 : decode cL_law 1350 = .ok (.iconst 5, 1) := by decide +kernel
theorem dL_law_1351 : decode cL_law 1351 = .ok (.iadd, 1) := by decide +kernel
theorem dL_law_1352 : decode cL_law 1352 = .ok (.iaload, 1) := by decide +kernel
theorem dL_law_1353 : decode cL_law 1353 = .ok (.aload_n 0, 1) := by decide +kernel
theorem dL_law_1354 : decode cL_law 1354 = .ok (.iload_n 3, 1) := by decide +kernel
theorem dL_law_1355 : decode cL_law 1355 = .ok (.bipush 6, 2) := by decide +kernel
theorem dL_law_1357 : decode cL_law 1357 = .ok (.iadd, 1) := by decide +kernel
theorem dL_law_1358 : decode cL_law 1358 = .ok (.iaload, 1) := by decide +kernel
theorem dL_law_1359 : decode cL_law 1359 = .ok (.invokevirtual 160, 3) := by decide +kernel
theorem dL_law_1362 : decode cL_law 1362 = .ok (.if_icmp .eq 281, 3) := by decide +kernel
theorem dL_law_1365 : decode cL_law 1365 = .ok (.iconst 0, 1) := by decide +kernel
theorem dL_law_1366 : decode cL_law 1366 = .ok (.ireturn, 1) := by decide +kernel
theorem dL_law_1367 : decode cL_law 1367 = .ok (.aload_n 1, 1) := by decide +kernel
theorem dL_law_1368 : decode cL_law 1368 = .ok (.aload_n 0, 1) := by decide +kernel
theorem dL_law_1369 : decode cL_law 1369 = .ok (.iload_n 3, 1) := by decide +kernel
theorem dL_law_1370 : decode cL_law 1370 = .ok (.iconst 1, 1) := by decide +kernel
theorem dL_law_1371 : decode cL_law 1371 = .ok (.iadd, 1) := by decide +kernel
theorem dL_law_1372 : decode cL_law 1372 = .ok (.iaload, 1) := by decide +kernel
theorem dL_law_1373 : decode cL_law 1373 = .ok (.aload_n 0, 1) := by decide +kernel
theorem dL_law_1374 : decode cL_law 1374 = .ok (.iload_n 3, 1) := by decide +kernel
theorem dL_law_1375 : decode cL_law 1375 = .ok (.iconst 2, 1) := by decide +kernel
theorem dL_law_1376 : decode cL_law 1376 = .ok (.iadd, 1) := by decide +kernel
theorem dL_law_1377 : decode cL_law 1377 = .ok (.iaload, 1) := by decide +kernel
theorem dL_law_1378 : decode cL_law 1378 = .ok (.aload_n 0, 1) := by decide +kernel
theorem dL_law_1379 : decode cL_law 1379 = .ok (.iload_n 3, 1) := by decide +kernel
theorem dL_law_1380 : decode cL_law 1380 = .ok (.iconst 3, 1) := by decide +kernel
theorem dL_law_1381 : decode cL_law 1381 = .ok (.iadd, 1) := by decide +kernel
theorem dL_law_1382 : decode cL_law 1382 = .ok (.iaload, 1) := by decide +kernel
theorem dL_law_1383 : decode cL_law 1383 = .ok (.invokevirtual 161, 3) := by decide +kernel
theorem dL_law_1386 : decode cL_law 1386 = .ok (.aload_n 2, 1) := by decide +kernel
theorem dL_law_1387 : decode cL_law 1387 = .ok (.aload_n 0, 1) := by decide +kernel
theorem dL_law_1388 : decode cL_law 1388 = .ok (.iload_n 3, 1) := by decide +kernel
theorem dL_law_1389 : decode cL_law 1389 = .ok (.iconst 1, 1) := by decide +kernel
theorem dL_law_1390 : decode cL_law 1390 = .ok (.iadd, 1) := by decide +kernel
theorem dL_law_1391 : decode cL_law 1391 = .ok (.iaload, 1) := by decide +kernel
theorem dL_law_1392 : decode cL_law 1392 = .ok (.aload_n 0, 1) := by decide +kernel
theorem dL_law_1393 : decode cL_law 1393 = .ok (.iload_n 3, 1) := by decide +kernel
theorem dL_law_1394 : decode cL_law 1394 = .ok (.iconst 2, 1) := by decide +kernel
theorem dL_law_1395 : decode cL_law 1395 = .ok (.iadd, 1) := by decide +kernel
theorem dL_law_1396 : decode cL_law 1396 = .ok (.iaload, 1) := by decide +kernel
theorem dL_law_1397 : decode cL_law 1397 = .ok (.aload_n 0, 1) := by decide +kernel
theorem dL_law_1398 : decode cL_law 1398 = .ok (.iload_n 3, 1) := by decide +kernel
theorem dL_law_1399 : decode cL_law 1399 = .ok (.iconst 3, 1) := by decide +kernel
theorem dL_law_1400 : decode cL_law 1400 = .ok (.iadd, 1) := by decide +kernel
theorem dL_law_1401 : decode cL_law 1401 = .ok (.iaload, 1) := by decide +kernel
theorem dL_law_1402 : decode cL_law 1402 = .ok (.invokevirtual 164, 3) := by decide +kernel
theorem dL_law_1405 : decode cL_law 1405 = .ok (.if_icmp .eq 238, 3) := by decide +kernel
theorem dL_law_1408 : decode cL_law 1408 = .ok (.iconst 0, 1) := by decide +kernel
theorem dL_law_1409 : decode cL_law 1409 = .ok (.ireturn, 1) := by decide +kernel
theorem dL_law_1410 : decode cL_law 1410 = .ok (.aload_n 1, 1) := by decide +kernel
theorem dL_law_1411 : decode cL_law 1411 = .ok (.aload_n 0, 1) := by decide +kernel
theorem dL_law_1412 : decode cL_law 1412 = .ok (.iload_n 3, 1) := by decide +kernel
theorem dL_law_1413 : decode cL_law 1413 = .ok (.iconst 1, 1) := by decide +kernel
theorem dL_law_1414 : decode cL_law 1414 = .ok (.iadd, 1) := by decide +kernel
theorem dL_law_1415 : decode cL_law 1415 = .ok (.iaload, 1) := by decide +kernel
theorem dL_law_1416 : decode cL_law 1416 = .ok (.aload_n 0, 1) := by decide +kernel
theorem dL_law_1417 : decode cL_law 1417 = .ok (.iload_n 3, 1) := by decide +kernel
theorem dL_law_1418 : decode cL_law 1418 = .ok (.iconst 2, 1) := by decide +kernel
theorem dL_law_1419 : decode cL_law 1419 = .ok (.iadd, 1) := by decide +kernel
theorem dL_law_1420 : decode cL_law 1420 = .ok (.iaload, 1) := by decide +kernel
theorem dL_law_1421 : decode cL_law 1421 = .ok (.aload_n 0, 1) := by decide +kernel
theorem dL_law_1422 : decode cL_law 1422 = .ok (.iload_n 3, 1) := by decide +kernel
theorem dL_law_1423 : decode cL_law 1423 = .ok (.iconst 3, 1) := by decide +kernel
theorem dL_law_1424 : decode cL_law 1424 = .ok (.iadd, 1) := by decide +kernel
theorem dL_law_1425 : decode cL_law 1425 = .ok (.iaload, 1) := by decide +kernel
theorem dL_law_1426 : decode cL_law 1426 = .ok (.invokevirtual 165, 3) := by decide +kernel
theorem dL_law_1429 : decode cL_law 1429 = .ok (.aload_n 2, 1) := by decide +kernel
theorem dL_law_1430 : decode cL_law 1430 = .ok (.aload_n 0, 1) := by decide +kernel
theorem dL_law_1431 : decode cL_law 1431 = .ok (.iload_n 3, 1) := by decide +kernel
theorem dL_law_1432 : decode cL_law 1432 = .ok (.iconst 1, 1) := by decide +kernel
theorem dL_law_1433 : decode cL_law 1433 = .ok (.iadd, 1) := by decide +kernel
theorem dL_law_1434 : decode cL_law 1434 = .ok (.iaload, 1) := by decide +kernel
theorem dL_law_1435 : decode cL_law 1435 = .ok (.aload_n 0, 1) := by decide +kernel
theorem dL_law_1436 : decode cL_law 1436 = .ok (.iload_n 3, 1) := by decide +kernel
theorem dL_law_1437 : decode cL_law 1437 = .ok (.iconst 2, 1) := by decide +kernel
theorem dL_law_1438 : decode cL_law 1438 = .ok (.iadd, 1) := by decide +kernel
theorem dL_law_1439 : decode cL_law 1439 = .ok (.iaload, 1) := by decide +kernel
theorem dL_law_1440 : decode cL_law 1440 = .ok (.aload_n 0, 1) := by decide +kernel
theorem dL_law_1441 : decode cL_law 1441 = .ok (.iload_n 3, 1) := by decide +kernel
theorem dL_law_1442 : decode cL_law 1442 = .ok (.iconst 3, 1) := by decide +kernel
theorem dL_law_1443 : decode cL_law 1443 = .ok (.iadd, 1) := by decide +kernel
theorem dL_law_1444 : decode cL_law 1444 = .ok (.iaload, 1) := by decide +kernel
theorem dL_law_1445 : decode cL_law 1445 = .ok (.invokevirtual 168, 3) := by decide +kernel
theorem dL_law_1448 : decode cL_law 1448 = .ok (.if_icmp .eq 195, 3) := by decide +kernel
theorem dL_law_1451 : decode cL_law 1451 = .ok (.iconst 0, 1) := by decide +kernel
theorem dL_law_1452 : decode cL_law 1452 = .ok (.ireturn, 1) := by decide +kernel
theorem dL_law_1453 : decode cL_law 1453 = .ok (.aload_n 1, 1) := by decide +kernel
theorem dL_law_1454 : decode cL_law 1454 = .ok (.aload_n 0, 1) := by decide +kernel
theorem dL_law_1455 : decode cL_law 1455 = .ok (.iload_n 3, 1) := by decide +kernel
theorem dL_law_1456 : decode cL_law 1456 = .ok (.iconst 1, 1) := by decide +kernel
theorem dL_law_1457 : decode cL_law 1457 = .ok (.iadd, 1) := by decide +kernel
theorem dL_law_1458 : decode cL_law 1458 = .ok (.iaload, 1) := by decide +kernel
theorem dL_law_1459 : decode cL_law 1459 = .ok (.aload_n 0, 1) := by decide +kernel
theorem dL_law_1460 : decode cL_law 1460 = .ok (.iload_n 3, 1) := by decide +kernel
theorem dL_law_1461 : decode cL_law 1461 = .ok (.iconst 2, 1) := by decide +kernel
theorem dL_law_1462 : decode cL_law 1462 = .ok (.iadd, 1) := by decide +kernel
theorem dL_law_1463 : decode cL_law 1463 = .ok (.iaload, 1) := by decide +kernel
theorem dL_law_1464 : decode cL_law 1464 = .ok (.aload_n 0, 1) := by decide +kernel
theorem dL_law_1465 : decode cL_law 1465 = .ok (.iload_n 3, 1) := by decide +kernel
theorem dL_law_1466 : decode cL_law 1466 = .ok (.iconst 3, 1) := by decide +kernel
theorem dL_law_1467 : decode cL_law 1467 = .ok (.iadd, 1) := by decide +kernel
theorem dL_law_1468 : decode cL_law 1468 = .ok (.iaload, 1) := by decide +kernel
theorem dL_law_1469 : decode cL_law 1469 = .ok (.invokevirtual 169, 3) := by decide +kernel
theorem dL_law_1472 : decode cL_law 1472 = .ok (.aload_n 2, 1) := by decide +kernel
theorem dL_law_1473 : decode cL_law 1473 = .ok (.aload_n 0, 1) := by decide +kernel
theorem dL_law_1474 : decode cL_law 1474 = .ok (.iload_n 3, 1) := by decide +kernel
theorem dL_law_1475 : decode cL_law 1475 = .ok (.iconst 1, 1) := by decide +kernel
theorem dL_law_1476 : decode cL_law 1476 = .ok (.iadd, 1) := by decide +kernel
theorem dL_law_1477 : decode cL_law 1477 = .ok (.iaload, 1) := by decide +kernel
theorem dL_law_1478 : decode cL_law 1478 = .ok (.aload_n 0, 1) := by decide +kernel
theorem dL_law_1479 : decode cL_law 1479 = .ok (.iload_n 3, 1) := by decide +kernel
theorem dL_law_1480 : decode cL_law 1480 = .ok (.iconst 2, 1) := by decide +kernel
theorem dL_law_1481 : decode cL_law 1481 = .ok (.iadd, 1) := by decide +kernel
theorem dL_law_1482 : decode cL_law 1482 = .ok (.iaload, 1) := by decide +kernel
theorem dL_law_1483 : decode cL_law 1483 = .ok (.aload_n 0, 1) := by decide +kernel
theorem dL_law_1484 : decode cL_law 1484 = .ok (.iload_n 3, 1) := by decide +kernel
theorem dL_law_1485 : decode cL_law 1485 = .ok (.iconst 3, 1) := by decide +kernel
theorem dL_law_1486 : decode cL_law 1486 = .ok (.iadd, 1) := by decide +kernel
theorem dL_law_1487 : decode cL_law 1487 = .ok (.iaload, 1) := by decide +kernel
theorem dL_law_1488 : decode cL_law 1488 = .ok (.invokevirtual 172, 3) := by decide +kernel
theorem dL_law_1491 : decode cL_law 1491 = .ok (.if_icmp .eq 152, 3) := by decide +kernel
theorem dL_law_1494 : decode cL_law 1494 = .ok (.iconst 0, 1) := by decide +kernel
theorem dL_law_1495 : decode cL_law 1495 = .ok (.ireturn, 1) := by decide +kernel
theorem dL_law_1496 : decode cL_law 1496 = .ok (.aload_n 1, 1) := by decide +kernel
theorem dL_law_1497 : decode cL_law 1497 = .ok (.aload_n 0, 1) := by decide +kernel
theorem dL_law_1498 : decode cL_law 1498 = .ok (.iload_n 3, 1) := by decide +kernel
theorem dL_law_1499 : decode cL_law 1499 = .ok (.iconst 1, 1) := by decide +kernel
theorem dL_law_1500 : decode cL_law 1500 = .ok (.iadd, 1) := by decide +kernel
theorem dL_law_1501 : decode cL_law 1501 = .ok (.iaload, 1) := by decide +kernel
theorem dL_law_1502 : decode cL_law 1502 = .ok (.aload_n 0, 1) := by decide +kernel
theorem dL_law_1503 : decode cL_law 1503 = .ok (.iload_n 3, 1) := by decide +kernel
theorem dL_law_1504 : decode cL_law 1504 = .ok (.iconst 2, 1) := by decide +kernel
theorem dL_law_1505 : decode cL_law 1505 = .ok (.iadd, 1) := by decide +kernel
theorem dL_law_1506 : decode cL_law 1506 = .ok (.iaload, 1) := by decide +kernel
theorem dL_law_1507 : decode cL_law 1507 = .ok (.invokevirtual 173, 3) := by decide +kernel
theorem dL_law_1510 : decode cL_law 1510 = .ok (.aload_n 2, 1) := by decide +kernel
theorem dL_law_1511 : decode cL_law 1511 = .ok (.aload_n 0, 1) := by decide +kernel
theorem dL_law_1512 : decode cL_law 1512 = .ok (.iload_n 3, 1) := by decide +kernel
theorem dL_law_1513 : decode cL_law 1513 = .ok (.iconst 1, 1) := by decide +kernel
theorem dL_law_1514 : decode cL_law 1514 = .ok (.iadd, 1) := by decide +kernel
theorem dL_law_1515 : decode cL_law 1515 = .ok (.iaload, 1) := by decide +kernel
theorem dL_law_1516 : decode cL_law 1516 = .ok (.aload_n 0, 1) := by decide +kernel
theorem dL_law_1517 : decode cL_law 1517 = .ok (.iload_n 3, 1) := by decide +kernel
theorem dL_law_1518 : decode cL_law 1518 = .ok (.iconst 2, 1) := by decide +kernel
theorem dL_law_1519 : decode cL_law 1519 = .ok (.iadd, 1) := by decide +kernel
theorem dL_law_1520 : decode cL_law 1520 = .ok (.iaload, 1) := by decide +kernel
theorem dL_law_1521 : decode cL_law 1521 = .ok (.invokevirtual 176, 3) := by decide +kernel
theorem dL_law_1524 : decode cL_law 1524 = .ok (.if_icmp .eq 119, 3) := by decide +kernel
theorem dL_law_1527 : decode cL_law 1527 = .ok (.iconst 0, 1) := by decide +kernel
theorem dL_law_1528 : decode cL_law 1528 = .ok (.ireturn, 1) := by decide +kernel
theorem dL_law_1529 : decode cL_law 1529 = .ok (.aload_n 1, 1) := by decide +kernel
theorem dL_law_1530 : decode cL_law 1530 = .ok (.invokevirtual 177, 3) := by decide +kernel
theorem dL_law_1533 : decode cL_law 1533 = .ok (.aload_n 2, 1) := by decide +kernel
theorem dL_law_1534 : decode cL_law 1534 = .ok (.invokevirtual 180, 3) := by decide +kernel
theorem dL_law_1537 : decode cL_law 1537 = .ok (.if_icmp .eq 106, 3) := by decide +kernel
theorem dL_law_1540 : decode cL_law 1540 = .ok (.iconst 0, 1) := by decide +kernel
theorem dL_law_1541 : decode cL_law 1541 = .ok (.ireturn, 1) := by decide +kernel
theorem dL_law_1542 : decode cL_law 1542 = .ok (.aload_n 1, 1) := by decide +kernel
theorem dL_law_1543 : decode cL_law 1543 = .ok (.invokevirtual 181, 3) := by decide +kernel
theorem dL_law_1546 : decode cL_law 1546 = .ok (.aload_n 2, 1) := by decide +kernel
theorem dL_law_1547 : decode cL_law 1547 = .ok (.invokevirtual 185, 3) := by decide +kernel
theorem dL_law_1550 : decode cL_law 1550 = .ok (.lcmp, 1) := by decide +kernel
theorem dL_law_1551 : decode cL_law 1551 = .ok (.ifCond .eq 92, 3) := by decide +kernel
theorem dL_law_1554 : decode cL_law 1554 = .ok (.iconst 0, 1) := by decide +kernel
theorem dL_law_1555 : decode cL_law 1555 = .ok (.ireturn, 1) := by decide +kernel
theorem dL_law_1556 : decode cL_law 1556 = .ok (.aload_n 1, 1) := by decide +kernel
theorem dL_law_1557 : decode cL_law 1557 = .ok (.invokevirtual 186, 3) := by decide +kernel
theorem dL_law_1560 : decode cL_law 1560 = .ok (.aload_n 2, 1) := by decide +kernel
theorem dL_law_1561 : decode cL_law 1561 = .ok (.invokevirtual 189, 3) := by decide +kernel
theorem dL_law_1564 : decode cL_law 1564 = .ok (.lcmp, 1) := by decide +kernel
theorem dL_law_1565 : decode cL_law 1565 = .ok (.ifCond .eq 78, 3) := by decide +kernel
theorem dL_law_1568 : decode cL_law 1568 = .ok (.iconst 0, 1) := by decide +kernel
theorem dL_law_1569 : decode cL_law 1569 = .ok (.ireturn, 1) := by decide +kernel
theorem dL_law_1570 : decode cL_law 1570 = .ok (.aload_n 1, 1) := by decide +kernel
theorem dL_law_1571 : decode cL_law 1571 = .ok (.aload_n 0, 1) := by decide +kernel
theorem dL_law_1572 : decode cL_law 1572 = .ok (.iload_n 3, 1) := by decide +kernel
theorem dL_law_1573 : decode cL_law 1573 = .ok (.iconst 1, 1) := by decide +kernel
theorem dL_law_1574 : decode cL_law 1574 = .ok (.iadd, 1) := by decide +kernel
theorem dL_law_1575 : decode cL_law 1575 = .ok (.iaload, 1) := by decide +kernel
theorem dL_law_1576 : decode cL_law 1576 = .ok (.invokevirtual 190, 3) := by decide +kernel
theorem dL_law_1579 : decode cL_law 1579 = .ok (.aload_n 2, 1) := by decide +kernel
theorem dL_law_1580 : decode cL_law 1580 = .ok (.aload_n 0, 1) := by decide +kernel
theorem dL_law_1581 : decode cL_law 1581 = .ok (.iload_n 3, 1) := by decide +kernel
theorem dL_law_1582 : decode cL_law 1582 = .ok (.iconst 1, 1) := by decide +kernel
theorem dL_law_1583 : decode cL_law 1583 = .ok (.iadd, 1) := by decide +kernel
theorem dL_law_1584 : decode cL_law 1584 = .ok (.iaload, 1) := by decide +kernel
theorem dL_law_1585 : decode cL_law 1585 = .ok (.invokevirtual 193, 3) := by decide +kernel
theorem dL_law_1588 : decode cL_law 1588 = .ok (.if_icmp .eq 55, 3) := by decide +kernel
theorem dL_law_1591 : decode cL_law 1591 = .ok (.iconst 0, 1) := by decide +kernel
theorem dL_law_1592 : decode cL_law 1592 = .ok (.ireturn, 1) := by decide +kernel
theorem dL_law_1593 : decode cL_law 1593 = .ok (.aload_n 1, 1) := by decide +kernel
theorem dL_law_1594 : decode cL_law 1594 = .ok (.invokevirtual 194, 3) := by decide +kernel
theorem dL_law_1597 : decode cL_law 1597 = .ok (.aload_n 2, 1) := by decide +kernel
theorem dL_law_1598 : decode cL_law 1598 = .ok (.invokevirtual 197, 3) := by decide +kernel
theorem dL_law_1601 : decode cL_law 1601 = .ok (.if_icmp .eq 42, 3) := by decide +kernel
theorem dL_law_1604 : decode cL_law 1604 = .ok (.iconst 0, 1) := by decide +kernel
theorem dL_law_1605 : decode cL_law 1605 = .ok (.ireturn, 1) := by decide +kernel
theorem dL_law_1606 : decode cL_law 1606 = .ok (.aload_n 1, 1) := by decide +kernel
theorem dL_law_1607 : decode cL_law 1607 = .ok (.aload_n 0, 1) := by decide +kernel
theorem dL_law_1608 : decode cL_law 1608 = .ok (.iload_n 3, 1) := by decide +kernel
theorem dL_law_1609 : decode cL_law 1609 = .ok (.iconst 1, 1) := by decide +kernel
theorem dL_law_1610 : decode cL_law 1610 = .ok (.iadd, 1) := by decide +kernel
theorem dL_law_1611 : decode cL_law 1611 = .ok (.iaload, 1) := by decide +kernel
theorem dL_law_1612 : decode cL_law 1612 = .ok (.invokevirtual 198, 3) := by decide +kernel
theorem dL_law_1615 : decode cL_law 1615 = .ok (.aload_n 2, 1) := by decide +kernel
theorem dL_law_1616 : decode cL_law 1616 = .ok (.aload_n 0, 1) := by decide +kernel
theorem dL_law_1617 : decode cL_law 1617 = .ok (.iload_n 3, 1) := by decide +kernel
theorem dL_law_1618 : decode cL_law 1618 = .ok (.iconst 1, 1) := by decide +kernel
theorem dL_law_1619 : decode cL_law 1619 = .ok (.iadd, 1) := by decide +kernel
theorem dL_law_1620 : decode cL_law 1620 = .ok (.iaload, 1) := by decide +kernel
theorem dL_law_1621 : decode cL_law 1621 = .ok (.invokevirtual 201, 3) := by decide +kernel
theorem dL_law_1624 : decode cL_law 1624 = .ok (.if_icmp .eq 19, 3) := by decide +kernel
theorem dL_law_1627 : decode cL_law 1627 = .ok (.iconst 0, 1) := by decide +kernel
theorem dL_law_1628 : decode cL_law 1628 = .ok (.ireturn, 1) := by decide +kernel
theorem dL_law_1629 : decode cL_law 1629 = .ok (.aload_n 1, 1) := by decide +kernel
theorem dL_law_1630 : decode cL_law 1630 = .ok (.invokevirtual 202, 3) := by decide +kernel
theorem dL_law_1633 : decode cL_law 1633 = .ok (.aload_n 2, 1) := by decide +kernel
theorem dL_law_1634 : decode cL_law 1634 = .ok (.invokevirtual 205, 3) := by decide +kernel
theorem dL_law_1637 : decode cL_law 1637 = .ok (.lcmp, 1) := by decide +kernel
theorem dL_law_1638 : decode cL_law 1638 = .ok (.ifCond .eq 5, 3) := by decide +kernel
theorem dL_law_1641 : decode cL_law 1641 = .ok (.iconst 0, 1) := by decide +kernel
theorem dL_law_1642 : decode cL_law 1642 = .ok (.ireturn, 1) := by decide +kernel
theorem dL_law_1643 : decode cL_law 1643 = .ok (.iinc 3 7, 3) := by decide +kernel
theorem dL_law_1646 : decode cL_law 1646 = .ok (.goto (-1628), 3) := by decide +kernel
theorem dL_law_1649 : decode cL_law 1649 = .ok (.iconst 1, 1) := by decide +kernel
theorem dL_law_1650 : decode cL_law 1650 = .ok (.ireturn, 1) := by decide +kernel
