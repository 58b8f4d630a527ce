theorem dX12_isSo_284 : decode cX12_isSo 284 = .ok (.iload 6, 2) := by decide +kernel
theorem dX12_isSo_286 : decode cX12_isSo 286 = .ok (.iconst 1, 1) := by decide +kernel
theorem dX12_isSo_287 : decode cX12_isSo 287 = .ok (.isub, 1) := by decide +kernel
theorem dX12_isSo_288 : decode cX12_isSo 288 = .ok (.baload, 1) := by decide +kernel
theorem dX12_isSo_289 : decode cX12_isSo 289 = .ok (.ifCond .ne 7, 3) := by decide +kernel
theorem dX12_isSo_292 : decode cX12_isSo 292 = .ok (.iconst 1, 1) := by decide +kernel
theorem dX12_isSo_293 : decode cX12_isSo 293 = .ok (.goto 4, 3) := by decide +kernel
theorem dX12_isSo_296 : decode cX12_isSo 296 = .ok (.iconst 0, 1) := by decide +kernel
theorem dX12_isSo_297 : decode cX12_isSo 297 = .ok (.bastore, 1) := by decide +kernel
theorem dX12_isSo_298 : decode cX12_isSo 298 = .ok (.goto 79, 3) := by decide +kernel
theorem dX12_isSo_301 : decode cX12_isSo 301 = .ok (.iinc 6 (-1), 3) := by decide +kernel
theorem dX12_isSo_304 : decode cX12_isSo 304 = .ok (.aload_n 0, 1) := by decide +kernel
theorem dX12_isSo_305 : decode cX12_isSo 305 = .ok (.getfield 42, 3) := by decide +kernel
theorem dX12_isSo_308 : decode cX12_isSo 308 = .ok (.iload 6, 2) := by decide +kernel
theorem dX12_isSo_310 : decode cX12_isSo 310 = .ok (.iconst 1, 1) := by decide +kernel
theorem dX12_isSo_311 : decode cX12_isSo 311 = .ok (.isub, 1) := by decide +kernel
theorem dX12_isSo_312 : decode cX12_isSo 312 = .ok (.iload 8, 2) := by decide +kernel
theorem dX12_isSo_314 : decode cX12_isSo 314 = .ok (.bipush 21, 2) := by decide +kernel
theorem dX12_isSo_316 : decode cX12_isSo 316 = .ok (.if_icmp .ne 33, 3) := by decide +kernel
theorem dX12_isSo_319 : decode cX12_isSo 319 = .ok (.aload_n 0, 1) := by decide +kernel
theorem dX12_isSo_320 : decode cX12_isSo 320 = .ok (.getfield 42, 3) := by decide +kernel
theorem dX12_isSo_323 : decode cX12_isSo 323 = .ok (.iload 6, 2) := by decide +kernel
theorem dX12_isSo_325 : decode cX12_isSo 325 = .ok (.iconst 1, 1) := by decide +kernel
theorem dX12_isSo_326 : decode cX12_isSo 326 = .ok (.isub, 1) := by decide +kernel
theorem dX12_isSo_327 : decode cX12_isSo 327 = .ok (.baload, 1) := by decide +kernel
theorem dX12_isSo_328 : decode cX12_isSo 328 = .ok (.ifCond .eq 17, 3) := by decide +kernel
theorem dX12_isSo_331 : decode cX12_isSo 331 = .ok (.aload_n 0, 1) := by decide +kernel
theorem dX12_isSo_332 : decode cX12_isSo 332 = .ok (.getfield 42, 3) := by decide +kernel
theorem dX12_isSo_335 : decode cX12_isSo 335 = .ok (.iload 6, 2) := by decide +kernel
theorem dX12_isSo_337 : decode cX12_isSo 337 = .ok (.baload, 1) := by decide +kernel
theorem dX12_isSo_338 : decode cX12_isSo 338 = .ok (.ifCond .eq 7, 3) := by decide +kernel
theorem dX12_isSo_341 : decode cX12_isSo 341 = .ok (.iconst 1, 1) := by decide +kernel
theorem dX12_isSo_342 : decode cX12_isSo 342 = .ok (.goto 34, 3) := by decide +kernel
theorem dX12_isSo_345 : decode cX12_isSo 345 = .ok (.iconst 0, 1) := by decide +kernel
theorem dX12_isSo_346 : decode cX12_isSo 346 = .ok (.goto 30, 3) := by decide +kernel
theorem dX12_isSo_349 : decode cX12_isSo 349 = .ok (.aload_n 0, 1) := by decide +kernel
theorem dX12_isSo_350 : decode cX12_isSo 350 = .ok (.getfield 42, 3) := by decide +kernel
theorem dX12_isSo_353 : decode cX12_isSo 353 = .ok (.iload 6, 2) := by decide +kernel
theorem dX12_isSo_355 : decode cX12_isSo 355 = .ok (.iconst 1, 1) := by decide +kernel
theorem dX12_isSo_356 : decode cX12_isSo 356 = .ok (.isub, 1) := by decide +kernel
theorem dX12_isSo_357 : decode cX12_isSo 357 = .ok (.baload, 1) := by decide +kernel
theorem dX12_isSo_358 : decode cX12_isSo 358 = .ok (.ifCond .ne 13, 3) := by decide +kernel
theorem dX12_isSo_361 : decode cX12_isSo 361 = .ok (.aload_n 0, 1) := by decide +kernel
theorem dX12_isSo_362 : decode cX12_isSo 362 = .ok (.getfield 42, 3) := by decide +kernel
theorem dX12_isSo_365 : decode cX12_isSo 365 = .ok (.iload 6, 2) := by decide +kernel
theorem dX12_isSo_367 : decode cX12_isSo 367 = .ok (.baload, 1) := by decide +kernel
theorem dX12_isSo_368 : decode cX12_isSo 368 = .ok (.ifCond .eq 7, 3) := by decide +kernel
theorem dX12_isSo_371 : decode cX12_isSo 371 = .ok (.iconst 1, 1) := by decide +kernel
theorem dX12_isSo_372 : decode cX12_isSo 372 = .ok (.goto 4, 3) := by decide +kernel
theorem dX12_isSo_375 : decode cX12_isSo 375 = .ok (.iconst 0, 1) := by decide +kernel
theorem dX12_isSo_376 : decode cX12_isSo 376 = .ok (.bastore, 1) := by decide +kernel
theorem dX12_isSo_377 : decode cX12_isSo 377 = .ok (.iinc 7 1, 3) := by decide +kernel
theorem dX12_isSo_380 : decode cX12_isSo 380 = .ok (.goto (-340), 3) := by decide +kernel
theorem dX12_isSo_383 : decode cX12_isSo 383 = .ok (.aload_n 0, 1) := by decide +kernel
theorem dX12_isSo_384 : decode cX12_isSo 384 = .ok (.getfield 42, 3) := by decide +kernel
theorem dX12_isSo_387 : decode cX12_isSo 387 = .ok (.iconst 0, 1) := by decide +kernel
theorem dX12_isSo_388 : decode cX12_isSo 388 = .ok (.baload, 1) := by decide +kernel
theorem dX12_isSo_389 : decode cX12_isSo 389 = .ok (.ireturn, 1) := by decide +kernel
theorem dX12_clauseOf_0 : decode cX12_clauseOf 0 = .ok (.iconst 0, 1) := by decide +kernel
theorem dX12_clauseOf_1 : decode cX12_clauseOf 1 = .ok (.istore_n 3, 1) := by decide +kernel
theorem dX12_clauseOf_2 : decode cX12_clauseOf 2 = .ok (.iload_n 1, 1) := by decide +kernel
theorem dX12_clauseOf_3 : decode cX12_clauseOf 3 = .ok (.ifCond .lt 46, 3) := by decide +kernel
theorem dX12_clauseOf_6 : decode cX12_clauseOf 6 = .ok (.iload_n 3, 1) := by decide +kernel
theorem dX12_clauseOf_7 : decode cX12_clauseOf 7 = .ok (.aload_n 0, 1) := by decide +kernel
theorem dX12_clauseOf_8 : decode cX12_clauseOf 8 = .ok (.getfield 16, 3) := by decide +kernel
theorem dX12_clauseOf_11 : decode cX12_clauseOf 11 = .ok (.sipush 801, 3) := by decide +kernel
theorem dX12_clauseOf_14 : decode cX12_clauseOf 14 = .ok (.iload_n 1, 1) := by decide +kernel
theorem dX12_clauseOf_15 : decode cX12_clauseOf 15 = .ok (.imul, 1) := by decide +kernel
theorem dX12_clauseOf_16 : decode cX12_clauseOf 16 = .ok (.iaload, 1) := by decide +kernel
theorem dX12_clauseOf_17 : decode cX12_clauseOf 17 = .ok (.if_icmp .ge 32, 3) := by decide +kernel
theorem dX12_clauseOf_20 : decode cX12_clauseOf 20 = .ok (.aload_n 0, 1) := by decide +kernel
theorem dX12_clauseOf_21 : decode cX12_clauseOf 21 = .ok (.getfield 16, 3) := by decide +kernel
theorem dX12_clauseOf_24 : decode cX12_clauseOf 24 = .ok (.sipush 801, 3) := by decide +kernel
theorem dX12_clauseOf_27 : decode cX12_clauseOf 27 = .ok (.iload_n 1, 1) := by decide +kernel
theorem dX12_clauseOf_28 : decode cX12_clauseOf 28 = .ok (.imul, 1) := by decide +kernel
theorem dX12_clauseOf_29 : decode cX12_clauseOf 29 = .ok (.iconst 1, 1) := by decide +kernel
theorem dX12_clauseOf_30 : decode cX12_clauseOf 30 = .ok (.iadd, 1) := by decide +kernel
theorem dX12_clauseOf_31 : decode cX12_clauseOf 31 = .ok (.bipush 8, 2) := by decide +kernel
theorem dX12_clauseOf_33 : decode cX12_clauseOf 33 = .ok (.iload_n 3, 1) := by decide +kernel
theorem dX12_clauseOf_34 : decode cX12_clauseOf 34 = .ok (.imul, 1) := by decide +kernel
theorem dX12_clauseOf_35 : decode cX12_clauseOf 35 = .ok (.iadd, 1) := by decide +kernel
theorem dX12_clauseOf_36 : decode cX12_clauseOf 36 = .ok (.iaload, 1) := by decide +kernel
theorem dX12_clauseOf_37 : decode cX12_clauseOf 37 = .ok (.iload_n 2, 1) := by decide +kernel
theorem dX12_clauseOf_38 : decode cX12_clauseOf 38 = .ok (.if_icmp .ne 5, 3) := by decide +kernel
theorem dX12_clauseOf_41 : decode cX12_clauseOf 41 = .ok (.iload_n 3, 1) := by decide +kernel
theorem dX12_clauseOf_42 : decode cX12_clauseOf 42 = .ok (.ireturn, 1) := by decide +kernel
theorem dX12_clauseOf_43 : decode cX12_clauseOf 43 = .ok (.iinc 3 1, 3) := by decide +kernel
theorem dX12_clauseOf_46 : decode cX12_clauseOf 46 = .ok (.goto (-44), 3) := by decide +kernel
theorem dX12_clauseOf_49 : decode cX12_clauseOf 49 = .ok (.iconst (-1), 1) := by decide +kernel
theorem dX12_clauseOf_50 : decode cX12_clauseOf 50 = .ok (.ireturn, 1) := by decide +kernel
theorem dX12_isOver_0 : decode cX12_isOver 0 = .ok (.aload_n 0, 1) := by decide +kernel
theorem dX12_isOver_1 : decode cX12_isOver 1 = .ok (.aload_n 0, 1) := by decide +kernel
theorem dX12_isOver_2 : decode cX12_isOver 2 = .ok (.getfield 7, 3) := by decide +kernel
theorem dX12_isOver_5 : decode cX12_isOver 5 = .ok (.iconst 3, 1) := by decide +kernel
theorem dX12_isOver_6 : decode cX12_isOver 6 = .ok (.iaload, 1) := by decide +kernel
theorem dX12_isOver_7 : decode cX12_isOver 7 = .ok (.iconst 0, 1) := by decide +kernel
theorem dX12_isOver_8 : decode cX12_isOver 8 = .ok (.invokevirtual 293, 3) := by decide +kernel
theorem dX12_isOver_11 : decode cX12_isOver 11 = .ok (.istore 4, 2) := by decide +kernel
theorem dX12_isOver_13 : decode cX12_isOver 13 = .ok (.iload 4, 2) := by decide +kernel
theorem dX12_isOver_15 : decode cX12_isOver 15 = .ok (.iconst (-1), 1) := by decide +kernel
theorem dX12_isOver_16 : decode cX12_isOver 16 = .ok (.if_icmp .ne 26, 3) := by decide +kernel
theorem dX12_isOver_19 : decode cX12_isOver 19 = .ok (.aload_n 0, 1) := by decide +kernel
theorem dX12_isOver_20 : decode cX12_isOver 20 = .ok (.iload_n 1, 1) := by decide +kernel
theorem dX12_isOver_21 : decode cX12_isOver 21 = .ok (.invokevirtual 296, 3) := by decide +kernel
theorem dX12_isOver_24 : decode cX12_isOver 24 = .ok (.iload_n 2, 1) := by decide +kernel
theorem dX12_isOver_25 : decode cX12_isOver 25 = .ok (.aload_n 0, 1) := by decide +kernel
theorem dX12_isOver_26 : decode cX12_isOver 26 = .ok (.getfield 7, 3) := by decide +kernel
theorem dX12_isOver_29 : decode cX12_isOver 29 = .ok (.bipush 9, 2) := by decide +kernel
theorem dX12_isOver_31 : decode cX12_isOver 31 = .ok (.iaload, 1) := by decide +kernel
theorem dX12_isOver_32 : decode cX12_isOver 32 = .ok (.isub, 1) := by decide +kernel
theorem dX12_isOver_33 : decode cX12_isOver 33 = .ok (.if_icmp .le 7, 3) := by decide +kernel
theorem dX12_isOver_36 : decode cX12_isOver 36 = .ok (.iconst 1, 1) := by decide +kernel
theorem dX12_isOver_37 : decode cX12_isOver 37 = .ok (.goto 4, 3) := by decide +kernel
theorem dX12_isOver_40 : decode cX12_isOver 40 = .ok (.iconst 0, 1) := by decide +kernel
theorem dX12_isOver_41 : decode cX12_isOver 41 = .ok (.ireturn, 1) := by decide +kernel
theorem dX12_isOver_42 : decode cX12_isOver 42 = .ok (.aload_n 0, 1) := by decide +kernel
theorem dX12_isOver_43 : decode cX12_isOver 43 = .ok (.getfield 35, 3) := by decide +kernel
theorem dX12_isOver_46 : decode cX12_isOver 46 = .ok (.iconst 0, 1) := by decide +kernel
theorem dX12_isOver_47 : decode cX12_isOver 47 = .ok (.aload_n 0, 1) := by decide +kernel
theorem dX12_isOver_48 : decode cX12_isOver 48 = .ok (.iload_n 1, 1) := by decide +kernel
theorem dX12_isOver_49 : decode cX12_isOver 49 = .ok (.invokevirtual 296, 3) := by decide +kernel
theorem dX12_isOver_52 : decode cX12_isOver 52 = .ok (.iastore, 1) := by decide +kernel
theorem dX12_isOver_53 : decode cX12_isOver 53 = .ok (.aload_n 0, 1) := by decide +kernel
theorem dX12_isOver_54 : decode cX12_isOver 54 = .ok (.getfield 35, 3) := by decide +kernel
theorem dX12_isOver_57 : decode cX12_isOver 57 = .ok (.iconst 1, 1) := by decide +kernel
theorem dX12_isOver_58 : decode cX12_isOver 58 = .ok (.aload_n 0, 1) := by decide +kernel
theorem dX12_isOver_59 : decode cX12_isOver 59 = .ok (.iload_n 1, 1) := by decide +kernel
theorem dX12_isOver_60 : decode cX12_isOver 60 = .ok (.invokevirtual 299, 3) := by decide +kernel
theorem dX12_isOver_63 : decode cX12_isOver 63 = .ok (.iastore, 1) := by decide +kernel
theorem dX12_isOver_64 : decode cX12_isOver 64 = .ok (.aload_n 0, 1) := by decide +kernel
theorem dX12_isOver_65 : decode cX12_isOver 65 = .ok (.getfield 35, 3) := by decide +kernel
theorem dX12_isOver_68 : decode cX12_isOver 68 = .ok (.iconst 2, 1) := by decide +kernel
theorem dX12_isOver_69 : decode cX12_isOver 69 = .ok (.aload_n 0, 1) := by decide +kernel
theorem dX12_isOver_70 : decode cX12_isOver 70 = .ok (.iload_n 1, 1) := by decide +kernel
theorem dX12_isOver_71 : decode cX12_isOver 71 = .ok (.invokevirtual 302, 3) := by decide +kernel
theorem dX12_isOver_74 : decode cX12_isOver 74 = .ok (.iastore, 1) := by decide +kernel
theorem dX12_isOver_75 : decode cX12_isOver 75 = .ok (.aload_n 0, 1) := by decide +kernel
theorem dX12_isOver_76 : decode cX12_isOver 76 = .ok (.getfield 35, 3) := by decide +kernel
theorem dX12_isOver_79 : decode cX12_isOver 79 = .ok (.iconst 3, 1) := by decide +kernel
theorem dX12_isOver_80 : decode cX12_isOver 80 = .ok (.iload_n 2, 1) := by decide +kernel
theorem dX12_isOver_81 : decode cX12_isOver 81 = .ok (.iastore, 1) := by decide +kernel
theorem dX12_isOver_82 : decode cX12_isOver 82 = .ok (.aload_n 0, 1) := by decide +kernel
theorem dX12_isOver_83 : decode cX12_isOver 83 = .ok (.getfield 35, 3) := by decide +kernel
theorem dX12_isOver_86 : decode cX12_isOver 86 = .ok (.iconst 4, 1) := by decide +kernel
theorem dX12_isOver_87 : decode cX12_isOver 87 = .ok (.aload_n 0, 1) := by decide +kernel
theorem dX12_isOver_88 : decode cX12_isOver 88 = .ok (.getfield 7, 3) := by decide +kernel
theorem dX12_isOver_91 : decode cX12_isOver 91 = .ok (.bipush 9, 2) := by decide +kernel
theorem dX12_isOver_93 : decode cX12_isOver 93 = .ok (.iaload, 1) := by decide +kernel
theorem dX12_isOver_94 : decode cX12_isOver 94 = .ok (.iastore, 1) := by decide +kernel
theorem dX12_isOver_95 : decode cX12_isOver 95 = .ok (.aload_n 0, 1) := by decide +kernel
theorem dX12_isOver_96 : decode cX12_isOver 96 = .ok (.getfield 35, 3) := by decide +kernel
theorem dX12_isOver_99 : decode cX12_isOver 99 = .ok (.iconst 5, 1) := by decide +kernel
theorem dX12_isOver_100 : decode cX12_isOver 100 = .ok (.aload_n 0, 1) := by decide +kernel
theorem dX12_isOver_101 : decode cX12_isOver 101 = .ok (.getfield 7, 3) := by decide +kernel
theorem dX12_isOver_104 : decode cX12_isOver 104 = .ok (.bipush 10, 2) := by decide +kernel
theorem dX12_isOver_106 : decode cX12_isOver 106 = .ok (.iaload, 1) := by decide +kernel
theorem dX12_isOver_107 : decode cX12_isOver 107 = .ok (.iastore, 1) := by decide +kernel
theorem dX12_isOver_108 : decode cX12_isOver 108 = .ok (.aload_n 0, 1) := by decide +kernel
theorem dX12_isOver_109 : decode cX12_isOver 109 = .ok (.getfield 35, 3) := by decide +kernel
theorem dX12_isOver_112 : decode cX12_isOver 112 = .ok (.bipush 6, 2) := by decide +kernel
theorem dX12_isOver_114 : decode cX12_isOver 114 = .ok (.iload_n 3, 1) := by decide +kernel
theorem dX12_isOver_115 : decode cX12_isOver 115 = .ok (.iastore, 1) := by decide +kernel
theorem dX12_isOver_116 : decode cX12_isOver 116 = .ok (.aload_n 0, 1) := by decide +kernel
theorem dX12_isOver_117 : decode cX12_isOver 117 = .ok (.getfield 35, 3) := by decide +kernel
theorem dX12_isOver_120 : decode cX12_isOver 120 = .ok (.bipush 7, 2) := by decide +kernel
theorem dX12_isOver_122 : decode cX12_isOver 122 = .ok (.iload_n 1, 1) := by decide +kernel
theorem dX12_isOver_123 : decode cX12_isOver 123 = .ok (.iastore, 1) := by decide +kernel
theorem dX12_isOver_124 : decode cX12_isOver 124 = .ok (.aload_n 0, 1) := by decide +kernel
theorem dX12_isOver_125 : decode cX12_isOver 125 = .ok (.aload_n 0, 1) := by decide +kernel
theorem dX12_isOver_126 : decode cX12_isOver 126 = .ok (.getfield 7, 3) := by decide +kernel
theorem dX12_isOver_129 : decode cX12_isOver 129 = .ok (.iconst 3, 1) := by decide +kernel
theorem dX12_isOver_130 : decode cX12_isOver 130 = .ok (.iaload, 1) := by decide +kernel
theorem dX12_isOver_131 : decode cX12_isOver 131 = .ok (.iload 4, 2) := by decide +kernel
theorem dX12_isOver_133 : decode cX12_isOver 133 = .ok (.invokevirtual 305, 3) := by decide +kernel
theorem dX12_isOver_136 : decode cX12_isOver 136 = .ok (.ireturn, 1) := by decide +kernel
theorem dX12_isBeginning_0 : decode cX12_isBeginning 0 = .ok (.aload_n 0, 1) := by decide +kernel
theorem dX12_isBeginning_1 : decode cX12_isBeginning 1 = .ok (.aload_n 0, 1) := by decide +kernel
theorem dX12_isBeginning_2 : decode cX12_isBeginning 2 = .ok (.getfield 7, 3) := by decide +kernel
theorem dX12_isBeginning_5 : decode cX12_isBeginning 5 = .ok (.iconst 3, 1) := by decide +kernel
theorem dX12_isBeginning_6 : decode cX12_isBeginning 6 = .ok (.iaload, 1) := by decide +kernel
theorem dX12_isBeginning_7 : decode cX12_isBeginning 7 = .ok (.iconst 2, 1) := by decide +kernel
theorem dX12_isBeginning_8 : decode cX12_isBeginning 8 = .ok (.invokevirtual 293, 3) := by decide +kernel
theorem dX12_isBeginning_11 : decode cX12_isBeginning 11 = .ok (.istore_n 2, 1) := by decide +kernel
theorem dX12_isBeginning_12 : decode cX12_isBeginning 12 = .ok (.iload_n 2, 1) := by decide +kernel
theorem dX12_isBeginning_13 : decode cX12_isBeginning 13 = .ok (.iconst (-1), 1) := by decide +kernel
theorem dX12_isBeginning_14 : decode cX12_isBeginning 14 = .ok (.if_icmp .ne 5, 3) := by decide +kernel
theorem dX12_isBeginning_17 : decode cX12_isBeginning 17 = .ok (.iconst 1, 1) := by decide +kernel
theorem dX12_isBeginning_18 : decode cX12_isBeginning 18 = .ok (.ireturn, 1) := by decide +kernel
theorem dX12_isBeginning_19 : decode cX12_isBeginning 19 = .ok (.aload_n 0, 1) := by decide +kernel
theorem dX12_isBeginning_20 : decode cX12_isBeginning 20 = .ok (.getfield 35, 3) := by decide +kernel
theorem dX12_isBeginning_23 : decode cX12_isBeginning 23 = .ok (.bipush 8, 2) := by decide +kernel
theorem dX12_isBeginning_25 : decode cX12_isBeginning 25 = .ok (.aload_n 0, 1) := by decide +kernel
theorem dX12_isBeginning_26 : decode cX12_isBeginning 26 = .ok (.iload_n 1, 1) := by decide +kernel
theorem dX12_isBeginning_27 : decode cX12_isBeginning 27 = .ok (.iconst 0, 1) := by decide +kernel
theorem dX12_isBeginning_28 : decode cX12_isBeginning 28 = .ok (.invokevirtual 84, 3) := by decide +kernel
theorem dX12_isBeginning_31 : decode cX12_isBeginning 31 = .ok (.iastore, 1) := by decide +kernel
theorem dX12_isBeginning_32 : decode cX12_isBeginning 32 = .ok (.aload_n 0, 1) := by decide +kernel
theorem dX12_isBeginning_33 : decode cX12_isBeginning 33 = .ok (.getfield 35, 3) := by decide +kernel
theorem dX12_isBeginning_36 : decode cX12_isBeginning 36 = .ok (.bipush 9, 2) := by decide +kernel
theorem dX12_isBeginning_38 : decode cX12_isBeginning 38 = .ok (.aload_n 0, 1) := by decide +kernel
theorem dX12_isBeginning_39 : decode cX12_isBeginning 39 = .ok (.iload_n 1, 1) := by decide +kernel
theorem dX12_isBeginning_40 : decode cX12_isBeginning 40 = .ok (.iconst 1, 1) := by decide +kernel
theorem dX12_isBeginning_41 : decode cX12_isBeginning 41 = .ok (.invokevirtual 84, 3) := by decide +kernel
theorem dX12_isBeginning_44 : decode cX12_isBeginning 44 = .ok (.iastore, 1) := by decide +kernel
theorem dX12_isBeginning_45 : decode cX12_isBeginning 45 = .ok (.aload_n 0, 1) := by decide +kernel
theorem dX12_isBeginning_46 : decode cX12_isBeginning 46 = .ok (.aload_n 0, 1) := by decide +kernel
theorem dX12_isBeginning_47 : decode cX12_isBeginning 47 = .ok (.getfield 7, 3) := by decide +kernel
theorem dX12_isBeginning_50 : decode cX12_isBeginning 50 = .ok (.iconst 3, 1) := by decide +kernel
theorem dX12_isBeginning_51 : decode cX12_isBeginning 51 = .ok (.iaload, 1) := by decide +kernel
theorem dX12_isBeginning_52 : decode cX12_isBeginning 52 = .ok (.iload_n 2, 1) := by decide +kernel
theorem dX12_isBeginning_53 : decode cX12_isBeginning 53 = .ok (.invokevirtual 305, 3) := by decide +kernel
theorem dX12_isBeginning_56 : decode cX12_isBeginning 56 = .ok (.ireturn, 1) := by decide +kernel
theorem dX12_isFollowing_0 : decode cX12_isFollowing 0 = .ok (.aload_n 0, 1) := by decide +kernel
theorem dX12_isFollowing_1 : decode cX12_isFollowing 1 = .ok (.iload_n 1, 1) := by decide +kernel
theorem dX12_isFollowing_2 : decode cX12_isFollowing 2 = .ok (.iconst 1, 1) := by decide +kernel
theorem dX12_isFollowing_3 : decode cX12_isFollowing 3 = .ok (.invokevirtual 293, 3) := by decide +kernel
theorem dX12_isFollowing_6 : decode cX12_isFollowing 6 = .ok (.istore 5, 2) := by decide +kernel
theorem dX12_isFollowing_8 : decode cX12_isFollowing 8 = .ok (.iload 5, 2) := by decide +kernel
theorem dX12_isFollowing_10 : decode cX12_isFollowing 10 = .ok (.iconst (-1), 1) := by decide +kernel
theorem dX12_isFollowing_11 : decode cX12_isFollowing 11 = .ok (.if_icmp .ne 5, 3) := by decide +kernel
theorem dX12_isFollowing_14 : decode cX12_isFollowing 14 = .ok (.iconst 1, 1) := by decide +kernel
theorem dX12_isFollowing_15 : decode cX12_isFollowing 15 = .ok (.ireturn, 1) := by decide +kernel
theorem dX12_isFollowing_16 : decode cX12_isFollowing 16 = .ok (.aload_n 0, 1) := by decide +kernel
theorem dX12_isFollowing_17 : decode cX12_isFollowing 17 = .ok (.getfield 35, 3) := by decide +kernel
theorem dX12_isFollowing_20 : decode cX12_isFollowing 20 = .ok (.bipush 8, 2) := by decide +kernel
theorem dX12_isFollowing_22 : decode cX12_isFollowing 22 = .ok (.aload_n 0, 1) := by decide +kernel
theorem dX12_isFollowing_23 : decode cX12_isFollowing 23 = .ok (.iload_n 2, 1) := by decide +kernel
theorem dX12_isFollowing_24 : decode cX12_isFollowing 24 = .ok (.iconst 0, 1) := by decide +kernel
theorem dX12_isFollowing_25 : decode cX12_isFollowing 25 = .ok (.invokevirtual 84, 3) := by decide +kernel
theorem dX12_isFollowing_28 : decode cX12_isFollowing 28 = .ok (.iastore, 1) := by decide +kernel
theorem dX12_isFollowing_29 : decode cX12_isFollowing 29 = .ok (.aload_n 0, 1) := by decide +kernel
theorem dX12_isFollowing_30 : decode cX12_isFollowing 30 = .ok (.getfield 35, 3) := by decide +kernel
theorem dX12_isFollowing_33 : decode cX12_isFollowing 33 = .ok (.bipush 9, 2) := by decide +kernel
theorem dX12_isFollowing_35 : decode cX12_isFollowing 35 = .ok (.aload_n 0, 1) := by decide +kernel
theorem dX12_isFollowing_36 : decode cX12_isFollowing 36 = .ok (.iload_n 2, 1) := by decide +kernel
theorem dX12_isFollowing_37 : decode cX12_isFollowing 37 = .ok (.iconst 1, 1) := by decide +kernel
theorem dX12_isFollowing_38 : decode cX12_isFollowing 38 = .ok (.invokevirtual 84, 3) := by decide +kernel
theorem dX12_isFollowing_41 : decode cX12_isFollowing 41 = .ok (.iastore, 1) := by decide +kernel
theorem dX12_isFollowing_42 : decode cX12_isFollowing 42 = .ok (.aload_n 0, 1) := by decide +kernel
theorem dX12_isFollowing_43 : decode cX12_isFollowing 43 = .ok (.getfield 35, 3) := by decide +kernel
theorem dX12_isFollowing_46 : decode cX12_isFollowing 46 = .ok (.bipush 10, 2) := by decide +kernel
theorem dX12_isFollowing_48 : decode cX12_isFollowing 48 = .ok (.aload_n 0, 1) := by decide +kernel
theorem dX12_isFollowing_49 : decode cX12_isFollowing 49 = .ok (.iload_n 3, 1) := by decide +kernel
theorem dX12_isFollowing_50 : decode cX12_isFollowing 50 = .ok (.iconst 0, 1) := by decide +kernel
theorem dX12_isFollowing_51 : decode cX12_isFollowing 51 = .ok (.invokevirtual 84, 3) := by decide +kernel
theorem dX12_isFollowing_54 : decode cX12_isFollowing 54 = .ok (.iastore, 1) := by decide +kernel
theorem dX12_isFollowing_55 : decode cX12_isFollowing 55 = .ok (.aload_n 0, 1) := by decide +kernel
theorem dX12_isFollowing_56 : decode cX12_isFollowing 56 = .ok (.getfield 35, 3) := by decide +kernel
theorem dX12_isFollowing_59 : decode cX12_isFollowing 59 = .ok (.bipush 11, 2) := by decide +kernel
theorem dX12_isFollowing_61 : decode cX12_isFollowing 61 = .ok (.aload_n 0, 1) := by decide +kernel
theorem dX12_isFollowing_62 : decode cX12_isFollowing 62 = .ok (.iload_n 3, 1) := by decide +kernel
theorem dX12_isFollowing_63 : decode cX12_isFollowing 63 = .ok (.iconst 1, 1) := by decide +kernel
theorem dX12_isFollowing_64 : decode cX12_isFollowing 64 = .ok (.invokevirtual 84, 3) := by decide +kernel
theorem dX12_isFollowing_67 : decode cX12_isFollowing 67 = .ok (.iastore, 1) := by decide +kernel
theorem dX12_isFollowing_68 : decode cX12_isFollowing 68 = .ok (.aload_n 0, 1) := by decide +kernel
theorem dX12_isFollowing_69 : decode cX12_isFollowing 69 = .ok (.getfield 35, 3) := by decide +kernel
theorem dX12_isFollowing_72 : decode cX12_isFollowing 72 = .ok (.bipush 12, 2) := by decide +kernel
theorem dX12_isFollowing_74 : decode cX12_isFollowing 74 = .ok (.iload 4, 2) := by decide +kernel
theorem dX12_isFollowing_76 : decode cX12_isFollowing 76 = .ok (.iastore, 1) := by decide +kernel
theorem dX12_isFollowing_77 : decode cX12_isFollowing 77 = .ok (.aload_n 0, 1) := by decide +kernel
theorem dX12_isFollowing_78 : decode cX12_isFollowing 78 = .ok (.iload_n 1, 1) := by decide +kernel
theorem dX12_isFollowing_79 : decode cX12_isFollowing 79 = .ok (.iload 5, 2) := by decide +kernel
theorem dX12_isFollowing_81 : decode cX12_isFollowing 81 = .ok (.invokevirtual 305, 3) := by decide +kernel
theorem dX12_isFollowing_84 : decode cX12_isFollowing 84 = .ok (.ireturn, 1) := by decide +kernel
theorem dX12_keep_0 : decode cX12_keep 0 = .ok (.aload_n 0, 1) := by decide +kernel
theorem dX12_keep_1 : decode cX12_keep 1 = .ok (.getfield 7, 3) := by decide +kernel
theorem dX12_keep_4 : decode cX12_keep 4 = .ok (.iconst 4, 1) := by decide +kernel
theorem dX12_keep_5 : decode cX12_keep 5 = .ok (.iaload, 1) := by decide +kernel
theorem dX12_keep_6 : decode cX12_keep 6 = .ok (.bipush 30, 2) := by decide +kernel
theorem dX12_keep_8 : decode cX12_keep 8 = .ok (.if_icmp .ne 48, 3) := by decide +kernel
theorem dX12_keep_11 : decode cX12_keep 11 = .ok (.iconst 0, 1) := by decide +kernel
theorem dX12_keep_12 : decode cX12_keep 12 = .ok (.istore_n 1, 1) := by decide +kernel
theorem dX12_keep_13 : decode cX12_keep 13 = .ok (.iload_n 1, 1) := by decide +kernel
theorem dX12_keep_14 : decode cX12_keep 14 = .ok (.sipush 870, 3) := by decide +kernel
theorem dX12_keep_17 : decode cX12_keep 17 = .ok (.if_icmp .ge 29, 3) := by decide +kernel
theorem dX12_keep_20 : decode cX12_keep 20 = .ok (.aload_n 0, 1) := by decide +kernel
theorem dX12_keep_21 : decode cX12_keep 21 = .ok (.getfield 7, 3) := by decide +kernel
theorem dX12_keep_24 : decode cX12_keep 24 = .ok (.sipush 188, 3) := by decide +kernel
theorem dX12_keep_27 : decode cX12_keep 27 = .ok (.iload_n 1, 1) := by decide +kernel
theorem dX12_keep_28 : decode cX12_keep 28 = .ok (.iadd, 1) := by decide +kernel
theorem dX12_keep_29 : decode cX12_keep 29 = .ok (.aload_n 0, 1) := by decide +kernel
theorem dX12_keep_30 : decode cX12_keep 30 = .ok (.getfield 7, 3) := by decide +kernel
theorem dX12_keep_33 : decode cX12_keep 33 = .ok (.sipush 218, 3) := by decide +kernel
theorem dX12_keep_36 : decode cX12_keep 36 = .ok (.iload_n 1, 1) := by decide +kernel
theorem dX12_keep_37 : decode cX12_keep 37 = .ok (.iadd, 1) := by decide +kernel
theorem dX12_keep_38 : decode cX12_keep 38 = .ok (.iaload, 1) := by decide +kernel
theorem dX12_keep_39 : decode cX12_keep 39 = .ok (.iastore, 1) := by decide +kernel
theorem dX12_keep_40 : decode cX12_keep 40 = .ok (.iinc 1 1, 3) := by decide +kernel
theorem dX12_keep_43 : decode cX12_keep 43 = .ok (.goto (-30), 3) := by decide +kernel
theorem dX12_keep_46 : decode cX12_keep 46 = .ok (.aload_n 0, 1) := by decide +kernel
theorem dX12_keep_47 : decode cX12_keep 47 = .ok (.getfield 7, 3) := by decide +kernel
theorem dX12_keep_50 : decode cX12_keep 50 = .ok (.iconst 4, 1) := by decide +kernel
theorem dX12_keep_51 : decode cX12_keep 51 = .ok (.dup2, 1) := by decide +kernel
theorem dX12_keep_52 : decode cX12_keep 52 = .ok (.iaload, 1) := by decide +kernel
theorem dX12_keep_53 : decode cX12_keep 53 = .ok (.iconst 1, 1) := by decide +kernel
theorem dX12_keep_54 : decode cX12_keep 54 = .ok (.isub, 1) := by decide +kernel
theorem dX12_keep_55 : decode cX12_keep 55 = .ok (.iastore, 1) := by decide +kernel
theorem dX12_keep_56 : decode cX12_keep 56 = .ok (.sipush 188, 3) := by decide +kernel
theorem dX12_keep_59 : decode cX12_keep 59 = .ok (.bipush 30, 2) := by decide +kernel
theorem dX12_keep_61 : decode cX12_keep 61 = .ok (.aload_n 0, 1) := by decide +kernel
theorem dX12_keep_62 : decode cX12_keep 62 = .ok (.getfield 7, 3) := by decide +kernel
theorem dX12_keep_65 : decode cX12_keep 65 = .ok (.iconst 4, 1) := by decide +kernel
theorem dX12_keep_66 : decode cX12_keep 66 = .ok (.iaload, 1) := by decide +kernel
theorem dX12_keep_67 : decode cX12_keep 67 = .ok (.imul, 1) := by decide +kernel
theorem dX12_keep_68 : decode cX12_keep 68 = .ok (.iadd, 1) := by decide +kernel
theorem dX12_keep_69 : decode cX12_keep 69 = .ok (.istore_n 1, 1) := by decide +kernel
theorem dX12_keep_70 : decode cX12_keep 70 = .ok (.iconst 0, 1) := by decide +kernel
theorem dX12_keep_71 : decode cX12_keep 71 = .ok (.istore_n 2, 1) := by decide +kernel
theorem dX12_keep_72 : decode cX12_keep 72 = .ok (.iload_n 2, 1) := by decide +kernel
theorem dX12_keep_73 : decode cX12_keep 73 = .ok (.iconst 3, 1) := by decide +kernel
theorem dX12_keep_74 : decode cX12_keep 74 = .ok (.if_icmp .ge 45, 3) := by decide +kernel
theorem dX12_keep_77 : decode cX12_keep 77 = .ok (.aload_n 0, 1) := by decide +kernel
theorem dX12_keep_78 : decode cX12_keep 78 = .ok (.getfield 7, 3) := by decide +kernel
theorem dX12_keep_81 : decode cX12_keep 81 = .ok (.iload_n 1, 1) := by decide +kernel
theorem dX12_keep_82 : decode cX12_keep 82 = .ok (.iload_n 2, 1) := by decide +kernel
theorem dX12_keep_83 : decode cX12_keep 83 = .ok (.iadd, 1) := by decide +kernel
theorem dX12_keep_84 : decode cX12_keep 84 = .ok (.aload_n 0, 1) := by decide +kernel
theorem dX12_keep_85 : decode cX12_keep 85 = .ok (.getfield 7, 3) := by decide +kernel
theorem dX12_keep_88 : decode cX12_keep 88 = .ok (.bipush 8, 2) := by decide +kernel
theorem dX12_keep_90 : decode cX12_keep 90 = .ok (.iload_n 2, 1) := by decide +kernel
theorem dX12_keep_91 : decode cX12_keep 91 = .ok (.iadd, 1) := by decide +kernel
theorem dX12_keep_92 : decode cX12_keep 92 = .ok (.iaload, 1) := by decide +kernel
theorem dX12_keep_93 : decode cX12_keep 93 = .ok (.iastore, 1) := by decide +kernel
theorem dX12_keep_94 : decode cX12_keep 94 = .ok (.aload_n 0, 1) := by decide +kernel
theorem dX12_keep_95 : decode cX12_keep 95 = .ok (.getfield 7, 3) := by decide +kernel
theorem dX12_keep_98 : decode cX12_keep 98 = .ok (.iload_n 1, 1) := by decide +kernel
theorem dX12_keep_99 : decode cX12_keep 99 = .ok (.iconst 3, 1) := by decide +kernel
theorem dX12_keep_100 : decode cX12_keep 100 = .ok (.iadd, 1) := by decide +kernel
theorem dX12_keep_101 : decode cX12_keep 101 = .ok (.iload_n 2, 1) := by decide +kernel
theorem dX12_keep_102 : decode cX12_keep 102 = .ok (.iadd, 1) := by decide +kernel
theorem dX12_keep_103 : decode cX12_keep 103 = .ok (.aload_n 0, 1) := by decide +kernel
theorem dX12_keep_104 : decode cX12_keep 104 = .ok (.getfield 7, 3) := by decide +kernel
theorem dX12_keep_107 : decode cX12_keep 107 = .ok (.bipush 12, 2) := by decide +kernel
theorem dX12_keep_109 : decode cX12_keep 109 = .ok (.iload_n 2, 1) := by decide +kernel
theorem dX12_keep_110 : decode cX12_keep 110 = .ok (.iadd, 1) := by decide +kernel
theorem dX12_keep_111 : decode cX12_keep 111 = .ok (.iaload, 1) := by decide +kernel
theorem dX12_keep_112 : decode cX12_keep 112 = .ok (.iastore, 1) := by decide +kernel
theorem dX12_keep_113 : decode cX12_keep 113 = .ok (.iinc 2 1, 3) := by decide +kernel
theorem dX12_keep_116 : decode cX12_keep 116 = .ok (.goto (-44), 3) := by decide +kernel
theorem dX12_keep_119 : decode cX12_keep 119 = .ok (.iconst 0, 1) := by decide +kernel
theorem dX12_keep_120 : decode cX12_keep 120 = .ok (.istore_n 2, 1) := by decide +kernel
theorem dX12_keep_121 : decode cX12_keep 121 = .ok (.iload_n 2, 1) := by decide +kernel
theorem dX12_keep_122 : decode cX12_keep 122 = .ok (.bipush 24, 2) := by decide +kernel
theorem dX12_keep_124 : decode cX12_keep 124 = .ok (.if_icmp .ge 30, 3) := by decide +kernel
theorem dX12_keep_127 : decode cX12_keep 127 = .ok (.aload_n 0, 1) := by decide +kernel
theorem dX12_keep_128 : decode cX12_keep 128 = .ok (.getfield 7, 3) := by decide +kernel
theorem dX12_keep_131 : decode cX12_keep 131 = .ok (.iload_n 1, 1) := by decide +kernel
theorem dX12_keep_132 : decode cX12_keep 132 = .ok (.bipush 6, 2) := by decide +kernel
theorem dX12_keep_134 : decode cX12_keep 134 = .ok (.iadd, 1) := by decide +kernel
theorem dX12_keep_135 : decode cX12_keep 135 = .ok (.iload_n 2, 1) := by decide +kernel
theorem dX12_keep_136 : decode cX12_keep 136 = .ok (.iadd, 1) := by decide +kernel
theorem dX12_keep_137 : decode cX12_keep 137 = .ok (.aload_n 0, 1) := by decide +kernel
theorem dX12_keep_138 : decode cX12_keep 138 = .ok (.getfield 7, 3) := by decide +kernel
theorem dX12_keep_141 : decode cX12_keep 141 = .ok (.sipush 164, 3) := by decide +kernel
theorem dX12_keep_144 : decode cX12_keep 144 = .ok (.iload_n 2, 1) := by decide +kernel
theorem dX12_keep_145 : decode cX12_keep 145 = .ok (.iadd, 1) := by decide +kernel
theorem dX12_keep_146 : decode cX12_keep 146 = .ok (.iaload, 1) := by decide +kernel
theorem dX12_keep_147 : decode cX12_keep 147 = .ok (.iastore, 1) := by decide +kernel
theorem dX12_keep_148 : decode cX12_keep 148 = .ok (.iinc 2 1, 3) := by decide +kernel
theorem dX12_keep_151 : decode cX12_keep 151 = .ok (.goto (-30), 3) := by decide +kernel
theorem dX12_keep_154 : decode cX12_keep 154 = .ok (.aload_n 0, 1) := by decide +kernel
theorem dX12_keep_155 : decode cX12_keep 155 = .ok (.getfield 7, 3) := by decide +kernel
theorem dX12_keep_158 : decode cX12_keep 158 = .ok (.iconst 4, 1) := by decide +kernel
theorem dX12_keep_159 : decode cX12_keep 159 = .ok (.dup2, 1) := by decide +kernel
theorem dX12_keep_160 : decode cX12_keep 160 = .ok (.iaload, 1) := by decide +kernel
theorem dX12_keep_161 : decode cX12_keep 161 = .ok (.iconst 1, 1) := by decide +kernel
theorem dX12_keep_162 : decode cX12_keep 162 = .ok (.iadd, 1) := by decide +kernel
theorem dX12_keep_163 : decode cX12_keep 163 = .ok (.iastore, 1) := by decide +kernel
theorem dX12_keep_164 : decode cX12_keep 164 = .ok (.return_, 1) := by decide +kernel
theorem dX12_undo_0 : decode cX12_undo 0 = .ok (.aload_n 0, 1) := by decide +kernel
theorem dX12_undo_1 : decode cX12_undo 1 = .ok (.getfield 7, 3) := by decide +kernel
theorem dX12_undo_4 : decode cX12_undo 4 = .ok (.iconst 4, 1) := by decide +kernel
theorem dX12_undo_5 : decode cX12_undo 5 = .ok (.iaload, 1) := by decide +kernel
theorem dX12_undo_6 : decode cX12_undo 6 = .ok (.ifCond .ne 5, 3) := by decide +kernel
theorem dX12_undo_9 : decode cX12_undo 9 = .ok (.iconst (-1), 1) := by decide +kernel
theorem dX12_undo_10 : decode cX12_undo 10 = .ok (.ireturn, 1) := by decide +kernel
theorem dX12_undo_11 : decode cX12_undo 11 = .ok (.aload_n 0, 1) := by decide +kernel
theorem dX12_undo_12 : decode cX12_undo 12 = .ok (.getfield 7, 3) := by decide +kernel
theorem dX12_undo_15 : decode cX12_undo 15 = .ok (.iconst 4, 1) := by decide +kernel
theorem dX12_undo_16 : decode cX12_undo 16 = .ok (.dup2, 1) := by decide +kernel
theorem dX12_undo_17 : decode cX12_undo 17 = .ok (.iaload, 1) := by decide +kernel
theorem dX12_undo_18 : decode cX12_undo 18 = .ok (.iconst 1, 1) := by decide +kernel
theorem dX12_undo_19 : decode cX12_undo 19 = .ok (.isub, 1) := by decide +kernel
theorem dX12_undo_20 : decode cX12_undo 20 = .ok (.iastore, 1) := by decide +kernel
theorem dX12_undo_21 : decode cX12_undo 21 = .ok (.sipush 188, 3) := by decide +kernel
theorem dX12_undo_24 : decode cX12_undo 24 = .ok (.bipush 30, 2) := by decide +kernel
theorem dX12_undo_26 : decode cX12_undo 26 = .ok (.aload_n 0, 1) := by decide +kernel
theorem dX12_undo_27 : decode cX12_undo 27 = .ok (.getfield 7, 3) := by decide +kernel
theorem dX12_undo_30 : decode cX12_undo 30 = .ok (.iconst 4, 1) := by decide +kernel
theorem dX12_undo_31 : decode cX12_undo 31 = .ok (.iaload, 1) := by decide +kernel
theorem dX12_undo_32 : decode cX12_undo 32 = .ok (.imul, 1) := by decide +kernel
theorem dX12_undo_33 : decode cX12_undo 33 = .ok (.iadd, 1) := by decide +kernel
theorem dX12_undo_34 : decode cX12_undo 34 = .ok (.istore_n 1, 1) := by decide +kernel
theorem dX12_undo_35 : decode cX12_undo 35 = .ok (.iconst 0, 1) := by decide +kernel
theorem dX12_undo_36 : decode cX12_undo 36 = .ok (.istore_n 2, 1) := by decide +kernel
theorem dX12_undo_37 : decode cX12_undo 37 = .ok (.iload_n 2, 1) := by decide +kernel
theorem dX12_undo_38 : decode cX12_undo 38 = .ok (.iconst 3, 1) := by decide +kernel
theorem dX12_undo_39 : decode cX12_undo 39 = .ok (.if_icmp .ge 45, 3) := by decide +kernel
theorem dX12_undo_42 : decode cX12_undo 42 = .ok (.aload_n 0, 1) := by decide +kernel
theorem dX12_undo_43 : decode cX12_undo 43 = .ok (.getfield 7, 3) := by decide +kernel
theorem dX12_undo_46 : decode cX12_undo 46 = .ok (.bipush 8, 2) := by decide +kernel
theorem dX12_undo_48 : decode cX12_undo 48 = .ok (.iload_n 2, 1) := by decide +kernel
theorem dX12_undo_49 : decode cX12_undo 49 = .ok (.iadd, 1) := by decide +kernel
theorem dX12_undo_50 : decode cX12_undo 50 = .ok (.aload_n 0, 1) := by decide +kernel
theorem dX12_undo_51 : decode cX12_undo 51 = .ok (.getfield 7, 3) := by decide +kernel
theorem dX12_undo_54 : decode cX12_undo 54 = .ok (.iload_n 1, 1) := by decide +kernel
theorem dX12_undo_55 : decode cX12_undo 55 = .ok (.iload_n 2, 1) := by decide +kernel
theorem dX12_undo_56 : decode cX12_undo 56 = .ok (.iadd, 1) := by decide +kernel
theorem dX12_undo_57 : decode cX12_undo 57 = .ok (.iaload, 1) := by decide +kernel
theorem dX12_undo_58 : decode cX12_undo 58 = .ok (.iastore, 1) := by decide +kernel
theorem dX12_undo_59 : decode cX12_undo 59 = .ok (.aload_n 0, 1) := by decide +kernel
theorem dX12_undo_60 : decode cX12_undo 60 = .ok (.getfield 7, 3) := by decide +kernel
theorem dX12_undo_63 : decode cX12_undo 63 = .ok (.bipush 12, 2) := by decide +kernel
theorem dX12_undo_65 : decode cX12_undo 65 = .ok (.iload_n 2, 1) := by decide +kernel
theorem dX12_undo_66 : decode cX12_undo 66 = .ok (.iadd, 1) := by decide +kernel
theorem dX12_undo_67 : decode cX12_undo 67 = .ok (.aload_n 0, 1) := by decide +kernel
theorem dX12_undo_68 : decode cX12_undo 68 = .ok (.getfield 7, 3) := by decide +kernel
theorem dX12_undo_71 : decode cX12_undo 71 = .ok (.iload_n 1, 1) := by decide +kernel
theorem dX12_undo_72 : decode cX12_undo 72 = .ok (.iconst 3, 1) := by decide +kernel
theorem dX12_undo_73 : decode cX12_undo 73 = .ok (.iadd, 1) := by decide +kernel
theorem dX12_undo_74 : decode cX12_undo 74 = .ok (.iload_n 2, 1) := by decide +kernel
theorem dX12_undo_75 : decode cX12_undo 75 = .ok (.iadd, 1) := by decide +kernel
theorem dX12_undo_76 : decode cX12_undo 76 = .ok (.iaload, 1) := by decide +kernel
theorem dX12_undo_77 : decode cX12_undo 77 = .ok (.iastore, 1) := by decide +kernel
theorem dX12_undo_78 : decode cX12_undo 78 = .ok (.iinc 2 1, 3) := by decide +kernel
theorem dX12_undo_81 : decode cX12_undo 81 = .ok (.goto (-44), 3) := by decide +kernel
theorem dX12_undo_84 : decode cX12_undo 84 = .ok (.iconst 0, 1) := by decide +kernel
theorem dX12_undo_85 : decode cX12_undo 85 = .ok (.istore_n 2, 1) := by decide +kernel
theorem dX12_undo_86 : decode cX12_undo 86 = .ok (.iload_n 2, 1) := by decide +kernel
theorem dX12_undo_87 : decode cX12_undo 87 = .ok (.bipush 24, 2) := by decide +kernel
theorem dX12_undo_89 : decode cX12_undo 89 = .ok (.if_icmp .ge 30, 3) := by decide +kernel
theorem dX12_undo_92 : decode cX12_undo 92 = .ok (.aload_n 0, 1) := by decide +kernel
theorem dX12_undo_93 : decode cX12_undo 93 = .ok (.getfield 7, 3) := by decide +kernel
theorem dX12_undo_96 : decode cX12_undo 96 = .ok (.sipush 164, 3) := by decide +kernel
theorem dX12_undo_99 : decode cX12_undo 99 = .ok (.iload_n 2, 1) := by decide +kernel
theorem dX12_undo_100 : decode cX12_undo 100 = .ok (.iadd, 1) := by decide +kernel
theorem dX12_undo_101 : decode cX12_undo 101 = .ok (.aload_n 0, 1) := by decide +kernel
theorem dX12_undo_102 : decode cX12_undo 102 = .ok (.getfield 7, 3) := by decide +kernel
theorem dX12_undo_105 : decode cX12_undo 105 = .ok (.iload_n 1, 1) := by decide +kernel
theorem dX12_undo_106 : decode cX12_undo 106 = .ok (.bipush 6, 2) := by decide +kernel
theorem dX12_undo_108 : decode cX12_undo 108 = .ok (.iadd, 1) := by decide +kernel
theorem dX12_undo_109 : decode cX12_undo 109 = .ok (.iload_n 2, 1) := by decide +kernel
theorem dX12_undo_110 : decode cX12_undo 110 = .ok (.iadd, 1) := by decide +kernel
theorem dX12_undo_111 : decode cX12_undo 111 = .ok (.iaload, 1) := by decide +kernel
theorem dX12_undo_112 : decode cX12_undo 112 = .ok (.iastore, 1) := by decide +kernel
theorem dX12_undo_113 : decode cX12_undo 113 = .ok (.iinc 2 1, 3) := by decide +kernel
theorem dX12_undo_116 : decode cX12_undo 116 = .ok (.goto (-30), 3) := by decide +kernel
theorem dX12_undo_119 : decode cX12_undo 119 = .ok (.aload_n 0, 1) := by decide +kernel
theorem dX12_undo_120 : decode cX12_undo 120 = .ok (.getfield 7, 3) := by decide +kernel
theorem dX12_undo_123 : decode cX12_undo 123 = .ok (.iconst 4, 1) := by decide +kernel
theorem dX12_undo_124 : decode cX12_undo 124 = .ok (.iaload, 1) := by decide +kernel
theorem dX12_undo_125 : decode cX12_undo 125 = .ok (.ireturn, 1) := by decide +kernel
theorem dX12_canRing_0 : decode cX12_canRing 0 = .ok (.aload_n 0, 1) := by decide +kernel
theorem dX12_canRing_1 : decode cX12_canRing 1 = .ok (.iload_n 1, 1) := by decide +kernel
theorem dX12_canRing_2 : decode cX12_canRing 2 = .ok (.invokevirtual 302, 3) := by decide +kernel
theorem dX12_canRing_5 : decode cX12_canRing 5 = .ok (.aload_n 0, 1) := by decide +kernel
theorem dX12_canRing_6 : decode cX12_canRing 6 = .ok (.getfield 7, 3) := by decide +kernel
theorem dX12_canRing_9 : decode cX12_canRing 9 = .ok (.bipush 11, 2) := by decide +kernel
theorem dX12_canRing_11 : decode cX12_canRing 11 = .ok (.iaload, 1) := by decide +kernel
theorem dX12_canRing_12 : decode cX12_canRing 12 = .ok (.if_icmp .gt 19, 3) := by decide +kernel
theorem dX12_canRing_15 : decode cX12_canRing 15 = .ok (.aload_n 0, 1) := by decide +kernel
theorem dX12_canRing_16 : decode cX12_canRing 16 = .ok (.getfield 7, 3) := by decide +kernel
theorem dX12_canRing_19 : decode cX12_canRing 19 = .ok (.bipush 14, 2) := by decide +kernel
theorem dX12_canRing_21 : decode cX12_canRing 21 = .ok (.iaload, 1) := by decide +kernel
theorem dX12_canRing_22 : decode cX12_canRing 22 = .ok (.bipush 24, 2) := by decide +kernel
theorem dX12_canRing_24 : decode cX12_canRing 24 = .ok (.if_icmp .ge 7, 3) := by decide +kernel
theorem dX12_canRing_27 : decode cX12_canRing 27 = .ok (.iconst 1, 1) := by decide +kernel
theorem dX12_canRing_28 : decode cX12_canRing 28 = .ok (.goto 4, 3) := by decide +kernel
theorem dX12_canRing_31 : decode cX12_canRing 31 = .ok (.iconst 0, 1) := by decide +kernel
theorem dX12_canRing_32 : decode cX12_canRing 32 = .ok (.ireturn, 1) := by decide +kernel
theorem dX12_ringNow_0 : decode cX12_ringNow 0 = .ok (.aload_n 0, 1) := by decide +kernel
theorem dX12_ringNow_1 : decode cX12_ringNow 1 = .ok (.iload_n 1, 1) := by decide +kernel
theorem dX12_ringNow_2 : decode cX12_ringNow 2 = .ok (.aload_n 0, 1) := by decide +kernel
theorem dX12_ringNow_3 : decode cX12_ringNow 3 = .ok (.getfield 7, 3) := by decide +kernel
theorem dX12_ringNow_6 : decode cX12_ringNow 6 = .ok (.bipush 8, 2) := by decide +kernel
theorem dX12_ringNow_8 : decode cX12_ringNow 8 = .ok (.iaload, 1) := by decide +kernel
theorem dX12_ringNow_9 : decode cX12_ringNow 9 = .ok (.aload_n 0, 1) := by decide +kernel
theorem dX12_ringNow_10 : decode cX12_ringNow 10 = .ok (.getfield 7, 3) := by decide +kernel
theorem dX12_ringNow_13 : decode cX12_ringNow 13 = .ok (.bipush 14, 2) := by decide +kernel
theorem dX12_ringNow_15 : decode cX12_ringNow 15 = .ok (.iaload, 1) := by decide +kernel
theorem dX12_ringNow_16 : decode cX12_ringNow 16 = .ok (.invokevirtual 308, 3) := by decide +kernel
theorem dX12_ringNow_19 : decode cX12_ringNow 19 = .ok (.ifCond .eq 7, 3) := by decide +kernel
theorem dX12_ringNow_22 : decode cX12_ringNow 22 = .ok (.iconst 1, 1) := by decide +kernel
theorem dX12_ringNow_23 : decode cX12_ringNow 23 = .ok (.goto 4, 3) := by decide +kernel
theorem dX12_ringNow_26 : decode cX12_ringNow 26 = .ok (.iconst 0, 1) := by decide +kernel
theorem dX12_ringNow_27 : decode cX12_ringNow 27 = .ok (.istore_n 2, 1) := by decide +kernel
theorem dX12_ringNow_28 : decode cX12_ringNow 28 = .ok (.aload_n 0, 1) := by decide +kernel
theorem dX12_ringNow_29 : decode cX12_ringNow 29 = .ok (.getfield 7, 3) := by decide +kernel
theorem dX12_ringNow_32 : decode cX12_ringNow 32 = .ok (.sipush 164, 3) := by decide +kernel
theorem dX12_ringNow_35 : decode cX12_ringNow 35 = .ok (.aload_n 0, 1) := by decide +kernel
theorem dX12_ringNow_36 : decode cX12_ringNow 36 = .ok (.getfield 7, 3) := by decide +kernel
theorem dX12_ringNow_39 : decode cX12_ringNow 39 = .ok (.bipush 14, 2) := by decide +kernel
theorem dX12_ringNow_41 : decode cX12_ringNow 41 = .ok (.iaload, 1) := by decide +kernel
theorem dX12_ringNow_42 : decode cX12_ringNow 42 = .ok (.iadd, 1) := by decide +kernel
theorem dX12_ringNow_43 : decode cX12_ringNow 43 = .ok (.iload_n 1, 1) := by decide +kernel
theorem dX12_ringNow_44 : decode cX12_ringNow 44 = .ok (.bipush 10, 2) := by decide +kernel
theorem dX12_ringNow_46 : decode cX12_ringNow 46 = .ok (.iload_n 2, 1) := by decide +kernel
theorem dX12_ringNow_47 : decode cX12_ringNow 47 = .ok (.imul, 1) := by decide +kernel
theorem dX12_ringNow_48 : decode cX12_ringNow 48 = .ok (.iadd, 1) := by decide +kernel
theorem dX12_ringNow_49 : decode cX12_ringNow 49 = .ok (.iastore, 1) := by decide +kernel
theorem dX12_ringNow_50 : decode cX12_ringNow 50 = .ok (.aload_n 0, 1) := by decide +kernel
theorem dX12_ringNow_51 : decode cX12_ringNow 51 = .ok (.getfield 7, 3) := by decide +kernel
theorem dX12_ringNow_54 : decode cX12_ringNow 54 = .ok (.bipush 14, 2) := by decide +kernel
theorem dX12_ringNow_56 : decode cX12_ringNow 56 = .ok (.dup2, 1) := by decide +kernel
theorem dX12_ringNow_57 : decode cX12_ringNow 57 = .ok (.iaload, 1) := by decide +kernel
theorem dX12_ringNow_58 : decode cX12_ringNow 58 = .ok (.iconst 1, 1) := by decide +kernel
theorem dX12_ringNow_59 : decode cX12_ringNow 59 = .ok (.iadd, 1) := by decide +kernel
theorem dX12_ringNow_60 : decode cX12_ringNow 60 = .ok (.iastore, 1) := by decide +kernel
theorem dX12_ringNow_61 : decode cX12_ringNow 61 = .ok (.iload_n 2, 1) := by decide +kernel
theorem dX12_ringNow_62 : decode cX12_ringNow 62 = .ok (.ireturn, 1) := by decide +kernel
theorem dX12_ring_0 : decode cX12_ring 0 = .ok (.aload_n 0, 1) := by decide +kernel
theorem dX12_ring_1 : decode cX12_ring 1 = .ok (.iload_n 1, 1) := by decide +kernel
theorem dX12_ring_2 : decode cX12_ring 2 = .ok (.invokevirtual 88, 3) := by decide +kernel
theorem dX12_ring_5 : decode cX12_ring 5 = .ok (.ifCond .eq 11, 3) := by decide +kernel
theorem dX12_ring_8 : decode cX12_ring 8 = .ok (.aload_n 0, 1) := by decide +kernel
theorem dX12_ring_9 : decode cX12_ring 9 = .ok (.iload_n 1, 1) := by decide +kernel
theorem dX12_ring_10 : decode cX12_ring 10 = .ok (.invokevirtual 311, 3) := by decide +kernel
theorem dX12_ring_13 : decode cX12_ring 13 = .ok (.ifCond .ne 5, 3) := by decide +kernel
theorem dX12_ring_16 : decode cX12_ring 16 = .ok (.iconst (-1), 1) := by decide +kernel
theorem dX12_ring_17 : decode cX12_ring 17 = .ok (.ireturn, 1) := by decide +kernel
theorem dX12_ring_18 : decode cX12_ring 18 = .ok (.aload_n 0, 1) := by decide +kernel
theorem dX12_ring_19 : decode cX12_ring 19 = .ok (.invokevirtual 314, 3) := by decide +kernel
theorem dX12_ring_22 : decode cX12_ring 22 = .ok (.aload_n 0, 1) := by decide +kernel
theorem dX12_ring_23 : decode cX12_ring 23 = .ok (.iload_n 1, 1) := by decide +kernel
theorem dX12_ring_24 : decode cX12_ring 24 = .ok (.invokevirtual 317, 3) := by decide +kernel
theorem dX12_ring_27 : decode cX12_ring 27 = .ok (.ireturn, 1) := by decide +kernel
theorem dX12_needed_0 : decode cX12_needed 0 = .ok (.iconst 0, 1) := by decide +kernel
theorem dX12_needed_1 : decode cX12_needed 1 = .ok (.istore_n 2, 1) := by decide +kernel
theorem dX12_needed_2 : decode cX12_needed 2 = .ok (.iconst 0, 1) := by decide +kernel
theorem dX12_needed_3 : decode cX12_needed 3 = .ok (.istore_n 3, 1) := by decide +kernel
theorem dX12_needed_4 : decode cX12_needed 4 = .ok (.iload_n 3, 1) := by decide +kernel
theorem dX12_needed_5 : decode cX12_needed 5 = .ok (.aload_n 0, 1) := by decide +kernel
theorem dX12_needed_6 : decode cX12_needed 6 = .ok (.iload_n 1, 1) := by decide +kernel
theorem dX12_needed_7 : decode cX12_needed 7 = .ok (.iconst 2, 1) := by decide +kernel
theorem dX12_needed_8 : decode cX12_needed 8 = .ok (.invokevirtual 84, 3) := by decide +kernel
theorem dX12_needed_11 : decode cX12_needed 11 = .ok (.if_icmp .ge 38, 3) := by decide +kernel
theorem dX12_needed_14 : decode cX12_needed 14 = .ok (.aload_n 0, 1) := by decide +kernel
theorem dX12_needed_15 : decode cX12_needed 15 = .ok (.aload_n 0, 1) := by decide +kernel
theorem dX12_needed_16 : decode cX12_needed 16 = .ok (.iload_n 1, 1) := by decide +kernel
theorem dX12_needed_17 : decode cX12_needed 17 = .ok (.iload_n 3, 1) := by decide +kernel
theorem dX12_needed_18 : decode cX12_needed 18 = .ok (.invokevirtual 320, 3) := by decide +kernel
theorem dX12_needed_21 : decode cX12_needed 21 = .ok (.invokevirtual 302, 3) := by decide +kernel
theorem dX12_needed_24 : decode cX12_needed 24 = .ok (.iload_n 2, 1) := by decide +kernel
theorem dX12_needed_25 : decode cX12_needed 25 = .ok (.if_icmp .le 16, 3) := by decide +kernel
theorem dX12_needed_28 : decode cX12_needed 28 = .ok (.aload_n 0, 1) := by decide +kernel
theorem dX12_needed_29 : decode cX12_needed 29 = .ok (.aload_n 0, 1) := by decide +kernel
theorem dX12_needed_30 : decode cX12_needed 30 = .ok (.iload_n 1, 1) := by decide +kernel
theorem dX12_needed_31 : decode cX12_needed 31 = .ok (.iload_n 3, 1) := by decide +kernel
theorem dX12_needed_32 : decode cX12_needed 32 = .ok (.invokevirtual 320, 3) := by decide +kernel
theorem dX12_needed_35 : decode cX12_needed 35 = .ok (.invokevirtual 302, 3) := by decide +kernel
theorem dX12_needed_38 : decode cX12_needed 38 = .ok (.goto 4, 3) := by decide +kernel
theorem dX12_needed_41 : decode cX12_needed 41 = .ok (.iload_n 2, 1) := by decide +kernel
theorem dX12_needed_42 : decode cX12_needed 42 = .ok (.istore_n 2, 1) := by decide +kernel
theorem dX12_needed_43 : decode cX12_needed 43 = .ok (.iinc 3 1, 3) := by decide +kernel
theorem dX12_needed_46 : decode cX12_needed 46 = .ok (.goto (-42), 3) := by decide +kernel
theorem dX12_needed_49 : decode cX12_needed 49 = .ok (.iload_n 2, 1) := by decide +kernel
theorem dX12_needed_50 : decode cX12_needed 50 = .ok (.ireturn, 1) := by decide +kernel
theorem dX12_canSpeak_0 : decode cX12_canSpeak 0 = .ok (.aload_n 0, 1) := by decide +kernel
theorem dX12_canSpeak_1 : decode cX12_canSpeak 1 = .ok (.iload_n 1, 1) := by decide +kernel
theorem dX12_canSpeak_2 : decode cX12_canSpeak 2 = .ok (.invokevirtual 323, 3) := by decide +kernel
theorem dX12_canSpeak_5 : decode cX12_canSpeak 5 = .ok (.aload_n 0, 1) := by decide +kernel
theorem dX12_canSpeak_6 : decode cX12_canSpeak 6 = .ok (.getfield 7, 3) := by decide +kernel
theorem dX12_canSpeak_9 : decode cX12_canSpeak 9 = .ok (.bipush 11, 2) := by decide +kernel
theorem dX12_canSpeak_11 : decode cX12_canSpeak 11 = .ok (.iaload, 1) := by decide +kernel
theorem dX12_canSpeak_12 : decode cX12_canSpeak 12 = .ok (.if_icmp .gt 26, 3) := by decide +kernel
theorem dX12_canSpeak_15 : decode cX12_canSpeak 15 = .ok (.aload_n 0, 1) := by decide +kernel
theorem dX12_canSpeak_16 : decode cX12_canSpeak 16 = .ok (.getfield 7, 3) := by decide +kernel
theorem dX12_canSpeak_19 : decode cX12_canSpeak 19 = .ok (.bipush 14, 2) := by decide +kernel
theorem dX12_canSpeak_21 : decode cX12_canSpeak 21 = .ok (.iaload, 1) := by decide +kernel
theorem dX12_canSpeak_22 : decode cX12_canSpeak 22 = .ok (.aload_n 0, 1) := by decide +kernel
theorem dX12_canSpeak_23 : decode cX12_canSpeak 23 = .ok (.iload_n 1, 1) := by decide +kernel
theorem dX12_canSpeak_24 : decode cX12_canSpeak 24 = .ok (.iconst 2, 1) := by decide +kernel
theorem dX12_canSpeak_25 : decode cX12_canSpeak 25 = .ok (.invokevirtual 84, 3) := by decide +kernel
theorem dX12_canSpeak_28 : decode cX12_canSpeak 28 = .ok (.iadd, 1) := by decide +kernel
theorem dX12_canSpeak_29 : decode cX12_canSpeak 29 = .ok (.bipush 24, 2) := by decide +kernel
theorem dX12_canSpeak_31 : decode cX12_canSpeak 31 = .ok (.if_icmp .gt 7, 3) := by decide +kernel
theorem dX12_canSpeak_34 : decode cX12_canSpeak 34 = .ok (.iconst 1, 1) := by decide +kernel
theorem dX12_canSpeak_35 : decode cX12_canSpeak 35 = .ok (.goto 4, 3) := by decide +kernel
theorem dX12_canSpeak_38 : decode cX12_canSpeak 38 = .ok (.iconst 0, 1) := by decide +kernel
theorem dX12_canSpeak_39 : decode cX12_canSpeak 39 = .ok (.ireturn, 1) := by decide +kernel
theorem dX12_speakNow_0 : decode cX12_speakNow 0 = .ok (.iconst 0, 1) := by decide +kernel
theorem dX12_speakNow_1 : decode cX12_speakNow 1 = .ok (.istore_n 2, 1) := by decide +kernel
theorem dX12_speakNow_2 : decode cX12_speakNow 2 = .ok (.iconst 0, 1) := by decide +kernel
theorem dX12_speakNow_3 : decode cX12_speakNow 3 = .ok (.istore_n 3, 1) := by decide +kernel
theorem dX12_speakNow_4 : decode cX12_speakNow 4 = .ok (.iload_n 3, 1) := by decide +kernel
theorem dX12_speakNow_5 : decode cX12_speakNow 5 = .ok (.aload_n 0, 1) := by decide +kernel
theorem dX12_speakNow_6 : decode cX12_speakNow 6 = .ok (.iload_n 1, 1) := by decide +kernel
theorem dX12_speakNow_7 : decode cX12_speakNow 7 = .ok (.iconst 2, 1) := by decide +kernel
theorem dX12_speakNow_8 : decode cX12_speakNow 8 = .ok (.invokevirtual 84, 3) := by decide +kernel
theorem dX12_speakNow_11 : decode cX12_speakNow 11 = .ok (.if_icmp .ge 22, 3) := by decide +kernel
theorem dX12_speakNow_14 : decode cX12_speakNow 14 = .ok (.iload_n 2, 1) := by decide +kernel
theorem dX12_speakNow_15 : decode cX12_speakNow 15 = .ok (.aload_n 0, 1) := by decide +kernel
theorem dX12_speakNow_16 : decode cX12_speakNow 16 = .ok (.aload_n 0, 1) := by decide +kernel
theorem dX12_speakNow_17 : decode cX12_speakNow 17 = .ok (.iload_n 1, 1) := by decide +kernel
theorem dX12_speakNow_18 : decode cX12_speakNow 18 = .ok (.iload_n 3, 1) := by decide +kernel
theorem dX12_speakNow_19 : decode cX12_speakNow 19 = .ok (.invokevirtual 320, 3) := by decide +kernel
theorem dX12_speakNow_22 : decode cX12_speakNow 22 = .ok (.invokevirtual 317, 3) := by decide +kernel
theorem dX12_speakNow_25 : decode cX12_speakNow 25 = .ok (.iadd, 1) := by decide +kernel
theorem dX12_speakNow_26 : decode cX12_speakNow 26 = .ok (.istore_n 2, 1) := by decide +kernel
theorem dX12_speakNow_27 : decode cX12_speakNow 27 = .ok (.iinc 3 1, 3) := by decide +kernel
theorem dX12_speakNow_30 : decode cX12_speakNow 30 = .ok (.goto (-26), 3) := by decide +kernel
theorem dX12_speakNow_33 : decode cX12_speakNow 33 = .ok (.iload_n 2, 1) := by decide +kernel
theorem dX12_speakNow_34 : decode cX12_speakNow 34 = .ok (.ireturn, 1) := by decide +kernel
theorem dX12_speak_0 : decode cX12_speak 0 = .ok (.aload_n 0, 1) := by decide +kernel
theorem dX12_speak_1 : decode cX12_speak 1 = .ok (.iload_n 1, 1) := by decide +kernel
theorem dX12_speak_2 : decode cX12_speak 2 = .ok (.invokevirtual 326, 3) := by decide +kernel
theorem dX12_speak_5 : decode cX12_speak 5 = .ok (.ifCond .eq 11, 3) := by decide +kernel
theorem dX12_speak_8 : decode cX12_speak 8 = .ok (.aload_n 0, 1) := by decide +kernel
theorem dX12_speak_9 : decode cX12_speak 9 = .ok (.iload_n 1, 1) := by decide +kernel
theorem dX12_speak_10 : decode cX12_speak 10 = .ok (.invokevirtual 329, 3) := by decide +kernel
theorem dX12_speak_13 : decode cX12_speak 13 = .ok (.ifCond .ne 5, 3) := by decide +kernel
theorem dX12_speak_16 : decode cX12_speak 16 = .ok (.iconst (-1), 1) := by decide +kernel
theorem dX12_speak_17 : decode cX12_speak 17 = .ok (.ireturn, 1) := by decide +kernel
theorem dX12_speak_18 : decode cX12_speak 18 = .ok (.aload_n 0, 1) := by decide +kernel
theorem dX12_speak_19 : decode cX12_speak 19 = .ok (.invokevirtual 314, 3) := by decide +kernel
theorem dX12_speak_22 : decode cX12_speak 22 = .ok (.aload_n 0, 1) := by decide +kernel
theorem dX12_speak_23 : decode cX12_speak 23 = .ok (.iload_n 1, 1) := by decide +kernel
theorem dX12_speak_24 : decode cX12_speak 24 = .ok (.invokevirtual 332, 3) := by decide +kernel
theorem dX12_speak_27 : decode cX12_speak 27 = .ok (.ireturn, 1) := by decide +kernel
theorem dX12_set_0 : decode cX12_set 0 = .ok (.iload_n 1, 1) := by decide +kernel
theorem dX12_set_1 : decode cX12_set 1 = .ok (.ifCond .eq 8, 3) := by decide +kernel
theorem dX12_set_4 : decode cX12_set 4 = .ok (.bipush 9, 2) := by decide +kernel
theorem dX12_set_6 : decode cX12_set 6 = .ok (.goto 5, 3) := by decide +kernel
theorem dX12_set_9 : decode cX12_set 9 = .ok (.bipush 8, 2) := by decide +kernel
theorem dX12_set_11 : decode cX12_set 11 = .ok (.istore_n 3, 1) := by decide +kernel
theorem dX12_set_12 : decode cX12_set 12 = .ok (.iload_n 2, 1) := by decide +kernel
theorem dX12_set_13 : decode cX12_set 13 = .ok (.iconst 0, 1) := by decide +kernel
theorem dX12_set_14 : decode cX12_set 14 = .ok (.bipush 9, 2) := by decide +kernel
theorem dX12_set_16 : decode cX12_set 16 = .ok (.invokestatic 80, 3) := by decide +kernel
theorem dX12_set_19 : decode cX12_set 19 = .ok (.ifCond .eq 13, 3) := by decide +kernel
theorem dX12_set_22 : decode cX12_set 22 = .ok (.aload_n 0, 1) := by decide +kernel
theorem dX12_set_23 : decode cX12_set 23 = .ok (.getfield 7, 3) := by decide +kernel
theorem dX12_set_26 : decode cX12_set 26 = .ok (.iload_n 3, 1) := by decide +kernel
theorem dX12_set_27 : decode cX12_set 27 = .ok (.iaload, 1) := by decide +kernel
theorem dX12_set_28 : decode cX12_set 28 = .ok (.iload_n 2, 1) := by decide +kernel
theorem dX12_set_29 : decode cX12_set 29 = .ok (.if_icmp .ne 5, 3) := by decide +kernel
theorem dX12_set_32 : decode cX12_set 32 = .ok (.iconst 0, 1) := by decide +kernel
theorem dX12_set_33 : decode cX12_set 33 = .ok (.ireturn, 1) := by decide +kernel
theorem dX12_set_34 : decode cX12_set 34 = .ok (.aload_n 0, 1) := by decide +kernel
theorem dX12_set_35 : decode cX12_set 35 = .ok (.invokevirtual 314, 3) := by decide +kernel
theorem dX12_set_38 : decode cX12_set 38 = .ok (.aload_n 0, 1) := by decide +kernel
theorem dX12_set_39 : decode cX12_set 39 = .ok (.getfield 7, 3) := by decide +kernel
theorem dX12_set_42 : decode cX12_set 42 = .ok (.iload_n 3, 1) := by decide +kernel
theorem dX12_set_43 : decode cX12_set 43 = .ok (.iload_n 2, 1) := by decide +kernel
theorem dX12_set_44 : decode cX12_set 44 = .ok (.iastore, 1) := by decide +kernel
theorem dX12_set_45 : decode cX12_set 45 = .ok (.iconst 1, 1) := by decide +kernel
theorem dX12_set_46 : decode cX12_set 46 = .ok (.ireturn, 1) := by decide +kernel
theorem dX12_drawn_0 : decode cX12_drawn 0 = .ok (.aload_n 0, 1) := by decide +kernel
theorem dX12_drawn_1 : decode cX12_drawn 1 = .ok (.getfield 7, 3) := by decide +kernel
theorem dX12_drawn_4 : decode cX12_drawn 4 = .ok (.bipush 12, 2) := by decide +kernel
theorem dX12_drawn_6 : decode cX12_drawn 6 = .ok (.iaload, 1) := by decide +kernel
theorem dX12_drawn_7 : decode cX12_drawn 7 = .ok (.iload_n 1, 1) := by decide +kernel
theorem dX12_drawn_8 : decode cX12_drawn 8 = .ok (.irem, 1) := by decide +kernel
theorem dX12_drawn_9 : decode cX12_drawn 9 = .ok (.istore_n 2, 1) := by decide +kernel
theorem dX12_drawn_10 : decode cX12_drawn 10 = .ok (.aload_n 0, 1) := by decide +kernel
theorem dX12_drawn_11 : decode cX12_drawn 11 = .ok (.invokevirtual 335, 3) := by decide +kernel
theorem dX12_drawn_14 : decode cX12_drawn 14 = .ok (.iload_n 2, 1) := by decide +kernel
theorem dX12_drawn_15 : decode cX12_drawn 15 = .ok (.ireturn, 1) := by decide +kernel
theorem dX12_anew_0 : decode cX12_anew 0 = .ok (.aload_n 0, 1) := by decide +kernel
theorem dX12_anew_1 : decode cX12_anew 1 = .ok (.getfield 7, 3) := by decide +kernel
theorem dX12_anew_4 : decode cX12_anew 4 = .ok (.bipush 12, 2) := by decide +kernel
theorem dX12_anew_6 : decode cX12_anew 6 = .ok (.aload_n 0, 1) := by decide +kernel
theorem dX12_anew_7 : decode cX12_anew 7 = .ok (.getfield 7, 3) := by decide +kernel
theorem dX12_anew_10 : decode cX12_anew 10 = .ok (.bipush 12, 2) := by decide +kernel
theorem dX12_anew_12 : decode cX12_anew 12 = .ok (.iaload, 1) := by decide +kernel
theorem dX12_anew_13 : decode cX12_anew 13 = .ok (.i2l, 1) := by decide +kernel
theorem dX12_anew_14 : decode cX12_anew 14 = .ok (.ldc2_w 338, 3) := by decide +kernel
theorem dX12_anew_17 : decode cX12_anew 17 = .ok (.lmul, 1) := by decide +kernel
theorem dX12_anew_18 : decode cX12_anew 18 = .ok (.ldc2_w 340, 3) := by decide +kernel
theorem dX12_anew_21 : decode cX12_anew 21 = .ok (.ladd, 1) := by decide +kernel
theorem dX12_anew_22 : decode cX12_anew 22 = .ok (.ldc2_w 342, 3) := by decide +kernel
theorem dX12_anew_25 : decode cX12_anew 25 = .ok (.lrem, 1) := by decide +kernel
theorem dX12_anew_26 : decode cX12_anew 26 = .ok (.l2i, 1) := by decide +kernel
theorem dX12_anew_27 : decode cX12_anew 27 = .ok (.iastore, 1) := by decide +kernel
theorem dX12_anew_28 : decode cX12_anew 28 = .ok (.return_, 1) := by decide +kernel
theorem dX12_pass_0 : decode cX12_pass 0 = .ok (.aload_n 0, 1) := by decide +kernel
theorem dX12_pass_1 : decode cX12_pass 1 = .ok (.getfield 7, 3) := by decide +kernel
theorem dX12_pass_4 : decode cX12_pass 4 = .ok (.bipush 10, 2) := by decide +kernel
theorem dX12_pass_6 : decode cX12_pass 6 = .ok (.dup2, 1) := by decide +kernel
theorem dX12_pass_7 : decode cX12_pass 7 = .ok (.iaload, 1) := by decide +kernel
theorem dX12_pass_8 : decode cX12_pass 8 = .ok (.iconst 1, 1) := by decide +kernel
theorem dX12_pass_9 : decode cX12_pass 9 = .ok (.iadd, 1) := by decide +kernel
theorem dX12_pass_10 : decode cX12_pass 10 = .ok (.iastore, 1) := by decide +kernel
theorem dX12_pass_11 : decode cX12_pass 11 = .ok (.aload_n 0, 1) := by decide +kernel
theorem dX12_pass_12 : decode cX12_pass 12 = .ok (.getfield 7, 3) := by decide +kernel
theorem dX12_pass_15 : decode cX12_pass 15 = .ok (.bipush 8, 2) := by decide +kernel
theorem dX12_pass_17 : decode cX12_pass 17 = .ok (.aload_n 0, 1) := by decide +kernel
theorem dX12_pass_18 : decode cX12_pass 18 = .ok (.bipush 10, 2) := by decide +kernel
theorem dX12_pass_20 : decode cX12_pass 20 = .ok (.invokevirtual 344, 3) := by decide +kernel
theorem dX12_pass_23 : decode cX12_pass 23 = .ok (.iastore, 1) := by decide +kernel
theorem dX12_pass_24 : decode cX12_pass 24 = .ok (.aload_n 0, 1) := by decide +kernel
theorem dX12_pass_25 : decode cX12_pass 25 = .ok (.getfield 7, 3) := by decide +kernel
theorem dX12_pass_28 : decode cX12_pass 28 = .ok (.bipush 9, 2) := by decide +kernel
theorem dX12_pass_30 : decode cX12_pass 30 = .ok (.iaload, 1) := by decide +kernel
theorem dX12_pass_31 : decode cX12_pass 31 = .ok (.aload_n 0, 1) := by decide +kernel
theorem dX12_pass_32 : decode cX12_pass 32 = .ok (.iconst 3, 1) := by decide +kernel
theorem dX12_pass_33 : decode cX12_pass 33 = .ok (.invokevirtual 344, 3) := by decide +kernel
theorem dX12_pass_36 : decode cX12_pass 36 = .ok (.iadd, 1) := by decide +kernel
theorem dX12_pass_37 : decode cX12_pass 37 = .ok (.iconst 1, 1) := by decide +kernel
theorem dX12_pass_38 : decode cX12_pass 38 = .ok (.isub, 1) := by decide +kernel
theorem dX12_pass_39 : decode cX12_pass 39 = .ok (.istore_n 1, 1) := by decide +kernel
theorem dX12_pass_40 : decode cX12_pass 40 = .ok (.aload_n 0, 1) := by decide +kernel
theorem dX12_pass_41 : decode cX12_pass 41 = .ok (.getfield 7, 3) := by decide +kernel
theorem dX12_pass_44 : decode cX12_pass 44 = .ok (.bipush 9, 2) := by decide +kernel
theorem dX12_pass_46 : decode cX12_pass 46 = .ok (.iload_n 1, 1) := by decide +kernel
theorem dX12_pass_47 : decode cX12_pass 47 = .ok (.ifCond .ge 7, 3) := by decide +kernel
theorem dX12_pass_50 : decode cX12_pass 50 = .ok (.iconst 0, 1) := by decide +kernel
theorem dX12_pass_51 : decode cX12_pass 51 = .ok (.goto 15, 3) := by decide +kernel
theorem dX12_pass_54 : decode cX12_pass 54 = .ok (.iload_n 1, 1) := by decide +kernel
theorem dX12_pass_55 : decode cX12_pass 55 = .ok (.bipush 9, 2) := by decide +kernel
theorem dX12_pass_57 : decode cX12_pass 57 = .ok (.if_icmp .le 8, 3) := by decide +kernel
theorem dX12_pass_60 : decode cX12_pass 60 = .ok (.bipush 9, 2) := by decide +kernel
theorem dX12_pass_62 : decode cX12_pass 62 = .ok (.goto 4, 3) := by decide +kernel
theorem dX12_pass_65 : decode cX12_pass 65 = .ok (.iload_n 1, 1) := by decide +kernel
theorem dX12_pass_66 : decode cX12_pass 66 = .ok (.iastore, 1) := by decide +kernel
theorem dX12_pass_67 : decode cX12_pass 67 = .ok (.return_, 1) := by decide +kernel
theorem dX12_arePassed_0 : decode cX12_arePassed 0 = .ok (.iconst 0, 1) := by decide +kernel
theorem dX12_arePassed_1 : decode cX12_arePassed 1 = .ok (.istore_n 2, 1) := by decide +kernel
theorem dX12_arePassed_2 : decode cX12_arePassed 2 = .ok (.iload_n 2, 1) := by decide +kernel
theorem dX12_arePassed_3 : decode cX12_arePassed 3 = .ok (.iload_n 1, 1) := by decide +kernel
theorem dX12_arePassed_4 : decode cX12_arePassed 4 = .ok (.if_icmp .ge 32, 3) := by decide +kernel
theorem dX12_arePassed_7 : decode cX12_arePassed 7 = .ok (.aload_n 0, 1) := by decide +kernel
theorem dX12_arePassed_8 : decode cX12_arePassed 8 = .ok (.getfield 7, 3) := by decide +kernel
theorem dX12_arePassed_11 : decode cX12_arePassed 11 = .ok (.bipush 10, 2) := by decide +kernel
theorem dX12_arePassed_13 : decode cX12_arePassed 13 = .ok (.iaload, 1) := by decide +kernel
theorem dX12_arePassed_14 : decode cX12_arePassed 14 = .ok (.sipush 9999, 3) := by decide +kernel
theorem dX12_arePassed_17 : decode cX12_arePassed 17 = .ok (.if_icmp .ne 5, 3) := by decide +kernel
theorem dX12_arePassed_20 : decode cX12_arePassed 20 = .ok (.iconst 0, 1) := by decide +kernel
theorem dX12_arePassed_21 : decode cX12_arePassed 21 = .ok (.ireturn, 1) := by decide +kernel
theorem dX12_arePassed_22 : decode cX12_arePassed 22 = .ok (.aload_n 0, 1) := by decide +kernel
theorem dX12_arePassed_23 : decode cX12_arePassed 23 = .ok (.invokevirtual 314, 3) := by decide +kernel
theorem dX12_arePassed_26 : decode cX12_arePassed 26 = .ok (.aload_n 0, 1) := by decide +kernel
theorem dX12_arePassed_27 : decode cX12_arePassed 27 = .ok (.invokevirtual 347, 3) := by decide +kernel
theorem dX12_arePassed_30 : decode cX12_arePassed 30 = .ok (.iinc 2 1, 3) := by decide +kernel
theorem dX12_arePassed_33 : decode cX12_arePassed 33 = .ok (.goto (-31), 3) := by decide +kernel
theorem dX12_arePassed_36 : decode cX12_arePassed 36 = .ok (.iconst 1, 1) := by decide +kernel
theorem dX12_arePassed_37 : decode cX12_arePassed 37 = .ok (.ireturn, 1) := by decide +kernel
theorem dX12_hour_0 : decode cX12_hour 0 = .ok (.iload_n 1, 1) := by decide +kernel
theorem dX12_hour_1 : decode cX12_hour 1 = .ok (.iconst 1, 1) := by decide +kernel
theorem dX12_hour_2 : decode cX12_hour 2 = .ok (.bipush 60, 2) := by decide +kernel
theorem dX12_hour_4 : decode cX12_hour 4 = .ok (.invokestatic 80, 3) := by decide +kernel
theorem dX12_hour_7 : decode cX12_hour 7 = .ok (.ifCond .eq 36, 3) := by decide +kernel
theorem dX12_hour_10 : decode cX12_hour 10 = .ok (.aload_n 0, 1) := by decide +kernel
theorem dX12_hour_11 : decode cX12_hour 11 = .ok (.getfield 7, 3) := by decide +kernel
theorem dX12_hour_14 : decode cX12_hour 14 = .ok (.bipush 10, 2) := by decide +kernel
theorem dX12_hour_16 : decode cX12_hour 16 = .ok (.iaload, 1) := by decide +kernel
theorem dX12_hour_17 : decode cX12_hour 17 = .ok (.iload_n 1, 1) := by decide +kernel
theorem dX12_hour_18 : decode cX12_hour 18 = .ok (.iadd, 1) := by decide +kernel
theorem dX12_hour_19 : decode cX12_hour 19 = .ok (.sipush 9999, 3) := by decide +kernel
theorem dX12_hour_22 : decode cX12_hour 22 = .ok (.if_icmp .gt 21, 3) := by decide +kernel
theorem dX12_hour_25 : decode cX12_hour 25 = .ok (.aload_n 0, 1) := by decide +kernel
theorem dX12_hour_26 : decode cX12_hour 26 = .ok (.iload_n 1, 1) := by decide +kernel
theorem dX12_hour_27 : decode cX12_hour 27 = .ok (.invokevirtual 350, 3) := by decide +kernel
theorem dX12_hour_30 : decode cX12_hour 30 = .ok (.ifCond .eq 13, 3) := by decide +kernel
theorem dX12_hour_33 : decode cX12_hour 33 = .ok (.aload_n 0, 1) := by decide +kernel
theorem dX12_hour_34 : decode cX12_hour 34 = .ok (.getfield 7, 3) := by decide +kernel
theorem dX12_hour_37 : decode cX12_hour 37 = .ok (.bipush 10, 2) := by decide +kernel
theorem dX12_hour_39 : decode cX12_hour 39 = .ok (.iaload, 1) := by decide +kernel
theorem dX12_hour_40 : decode cX12_hour 40 = .ok (.goto 4, 3) := by decide +kernel
theorem dX12_hour_43 : decode cX12_hour 43 = .ok (.iconst (-1), 1) := by decide +kernel
theorem dX12_hour_44 : decode cX12_hour 44 = .ok (.ireturn, 1) := by decide +kernel
theorem dX12_endSunday_0 : decode cX12_endSunday 0 = .ok (.sipush 1088, 3) := by decide +kernel
theorem dX12_endSunday_3 : decode cX12_endSunday 3 = .ok (.iconst 4, 1) := by decide +kernel
theorem dX12_endSunday_4 : decode cX12_endSunday 4 = .ok (.aload_n 0, 1) := by decide +kernel
theorem dX12_endSunday_5 : decode cX12_endSunday 5 = .ok (.getfield 7, 3) := by decide +kernel
theorem dX12_endSunday_8 : decode cX12_endSunday 8 = .ok (.bipush 13, 2) := by decide +kernel
theorem dX12_endSunday_10 : decode cX12_endSunday 10 = .ok (.iaload, 1) := by decide +kernel
theorem dX12_endSunday_11 : decode cX12_endSunday 11 = .ok (.sipush 1220, 3) := by decide +kernel
theorem dX12_endSunday_14 : decode cX12_endSunday 14 = .ok (.irem, 1) := by decide +kernel
theorem dX12_endSunday_15 : decode cX12_endSunday 15 = .ok (.imul, 1) := by decide +kernel
theorem dX12_endSunday_16 : decode cX12_endSunday 16 = .ok (.iadd, 1) := by decide +kernel
theorem dX12_endSunday_17 : decode cX12_endSunday 17 = .ok (.istore_n 1, 1) := by decide +kernel
theorem dX12_endSunday_18 : decode cX12_endSunday 18 = .ok (.aload_n 0, 1) := by decide +kernel
theorem dX12_endSunday_19 : decode cX12_endSunday 19 = .ok (.getfield 7, 3) := by decide +kernel
theorem dX12_endSunday_22 : decode cX12_endSunday 22 = .ok (.iload_n 1, 1) := by decide +kernel
theorem dX12_endSunday_23 : decode cX12_endSunday 23 = .ok (.aload_n 0, 1) := by decide +kernel
theorem dX12_endSunday_24 : decode cX12_endSunday 24 = .ok (.getfield 7, 3) := by decide +kernel
theorem dX12_endSunday_27 : decode cX12_endSunday 27 = .ok (.bipush 10, 2) := by decide +kernel
theorem dX12_endSunday_29 : decode cX12_endSunday 29 = .ok (.iaload, 1) := by decide +kernel
theorem dX12_endSunday_30 : decode cX12_endSunday 30 = .ok (.iastore, 1) := by decide +kernel
theorem dX12_endSunday_31 : decode cX12_endSunday 31 = .ok (.aload_n 0, 1) := by decide +kernel
theorem dX12_endSunday_32 : decode cX12_endSunday 32 = .ok (.getfield 7, 3) := by decide +kernel
theorem dX12_endSunday_35 : decode cX12_endSunday 35 = .ok (.iload_n 1, 1) := by decide +kernel
theorem dX12_endSunday_36 : decode cX12_endSunday 36 = .ok (.iconst 1, 1) := by decide +kernel
theorem dX12_endSunday_37 : decode cX12_endSunday 37 = .ok (.iadd, 1) := by decide +kernel
theorem dX12_endSunday_38 : decode cX12_endSunday 38 = .ok (.aload_n 0, 1) := by decide +kernel
theorem dX12_endSunday_39 : decode cX12_endSunday 39 = .ok (.getfield 7, 3) := by decide +kernel
theorem dX12_endSunday_42 : decode cX12_endSunday 42 = .ok (.bipush 14, 2) := by decide +kernel
theorem dX12_endSunday_44 : decode cX12_endSunday 44 = .ok (.iaload, 1) := by decide +kernel
theorem dX12_endSunday_45 : decode cX12_endSunday 45 = .ok (.iastore, 1) := by decide +kernel
theorem dX12_endSunday_46 : decode cX12_endSunday 46 = .ok (.aload_n 0, 1) := by decide +kernel
theorem dX12_endSunday_47 : decode cX12_endSunday 47 = .ok (.getfield 7, 3) := by decide +kernel
theorem dX12_endSunday_50 : decode cX12_endSunday 50 = .ok (.iload_n 1, 1) := by decide +kernel
theorem dX12_endSunday_51 : decode cX12_endSunday 51 = .ok (.iconst 2, 1) := by decide +kernel
theorem dX12_endSunday_52 : decode cX12_endSunday 52 = .ok (.iadd, 1) := by decide +kernel
theorem dX12_endSunday_53 : decode cX12_endSunday 53 = .ok (.aload_n 0, 1) := by decide +kernel
theorem dX12_endSunday_54 : decode cX12_endSunday 54 = .ok (.invokevirtual 353, 3) := by decide +kernel
theorem dX12_endSunday_57 : decode cX12_endSunday 57 = .ok (.iastore, 1) := by decide +kernel
theorem dX12_endSunday_58 : decode cX12_endSunday 58 = .ok (.aload_n 0, 1) := by decide +kernel
theorem dX12_endSunday_59 : decode cX12_endSunday 59 = .ok (.getfield 7, 3) := by decide +kernel
theorem dX12_endSunday_62 : decode cX12_endSunday 62 = .ok (.iload_n 1, 1) := by decide +kernel
theorem dX12_endSunday_63 : decode cX12_endSunday 63 = .ok (.iconst 3, 1) := by decide +kernel
theorem dX12_endSunday_64 : decode cX12_endSunday 64 = .ok (.iadd, 1) := by decide +kernel
theorem dX12_endSunday_65 : decode cX12_endSunday 65 = .ok (.aload_n 0, 1) := by decide +kernel
theorem dX12_endSunday_66 : decode cX12_endSunday 66 = .ok (.iconst 1, 1) := by decide +kernel
theorem dX12_endSunday_67 : decode cX12_endSunday 67 = .ok (.invokevirtual 356, 3) := by decide +kernel
theorem dX12_endSunday_70 : decode cX12_endSunday 70 = .ok (.iastore, 1) := by decide +kernel
theorem dX12_endSunday_71 : decode cX12_endSunday 71 = .ok (.aload_n 0, 1) := by decide +kernel
