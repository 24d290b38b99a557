theorem dX9_advance_289 : decode cX9_advance 289 = .ok (.ifCond .eq 8, 3) := by decide +kernel
theorem dX9_advance_292 : decode cX9_advance 292 = .ok (.bipush 23, 2) := by decide +kernel
theorem dX9_advance_294 : decode cX9_advance 294 = .ok (.goto 5, 3) := by decide +kernel
theorem dX9_advance_297 : decode cX9_advance 297 = .ok (.bipush 21, 2) := by decide +kernel
theorem dX9_advance_299 : decode cX9_advance 299 = .ok (.putfield 67, 3) := by decide +kernel
theorem dX9_advance_302 : decode cX9_advance 302 = .ok (.return_, 1) := by decide +kernel
theorem dX9_advance_303 : decode cX9_advance 303 = .ok (.aload_n 0, 1) := by decide +kernel
theorem dX9_advance_304 : decode cX9_advance 304 = .ok (.getfield 44, 3) := by decide +kernel
theorem dX9_advance_307 : decode cX9_advance 307 = .ok (.aload_n 0, 1) := by decide +kernel
theorem dX9_advance_308 : decode cX9_advance 308 = .ok (.getfield 41, 3) := by decide +kernel
theorem dX9_advance_311 : decode cX9_advance 311 = .ok (.if_icmp .lt 10, 3) := by decide +kernel
theorem dX9_advance_314 : decode cX9_advance 314 = .ok (.aload_n 0, 1) := by decide +kernel
theorem dX9_advance_315 : decode cX9_advance 315 = .ok (.bipush 22, 2) := by decide +kernel
theorem dX9_advance_317 : decode cX9_advance 317 = .ok (.putfield 67, 3) := by decide +kernel
theorem dX9_advance_320 : decode cX9_advance 320 = .ok (.return_, 1) := by decide +kernel
theorem dX9_advance_321 : decode cX9_advance 321 = .ok (.aload_n 0, 1) := by decide +kernel
theorem dX9_advance_322 : decode cX9_advance 322 = .ok (.ldc 73, 2) := by decide +kernel
theorem dX9_advance_324 : decode cX9_advance 324 = .ok (.aload_n 0, 1) := by decide +kernel
theorem dX9_advance_325 : decode cX9_advance 325 = .ok (.getfield 15, 3) := by decide +kernel
theorem dX9_advance_328 : decode cX9_advance 328 = .ok (.aload_n 0, 1) := by decide +kernel
theorem dX9_advance_329 : decode cX9_advance 329 = .ok (.getfield 44, 3) := by decide +kernel
theorem dX9_advance_332 : decode cX9_advance 332 = .ok (.baload, 1) := by decide +kernel
theorem dX9_advance_333 : decode cX9_advance 333 = .ok (.sipush 255, 3) := by decide +kernel
theorem dX9_advance_336 : decode cX9_advance 336 = .ok (.iand, 1) := by decide +kernel
theorem dX9_advance_337 : decode cX9_advance 337 = .ok (.i2c, 1) := by decide +kernel
theorem dX9_advance_338 : decode cX9_advance 338 = .ok (.invokevirtual 75, 3) := by decide +kernel
theorem dX9_advance_341 : decode cX9_advance 341 = .ok (.ifCond .lt 15, 3) := by decide +kernel
theorem dX9_advance_344 : decode cX9_advance 344 = .ok (.aload_n 0, 1) := by decide +kernel
theorem dX9_advance_345 : decode cX9_advance 345 = .ok (.getfield 15, 3) := by decide +kernel
theorem dX9_advance_348 : decode cX9_advance 348 = .ok (.aload_n 0, 1) := by decide +kernel
theorem dX9_advance_349 : decode cX9_advance 349 = .ok (.getfield 44, 3) := by decide +kernel
theorem dX9_advance_352 : decode cX9_advance 352 = .ok (.baload, 1) := by decide +kernel
theorem dX9_advance_353 : decode cX9_advance 353 = .ok (.goto 5, 3) := by decide +kernel
theorem dX9_advance_356 : decode cX9_advance 356 = .ok (.bipush 23, 2) := by decide +kernel
theorem dX9_advance_358 : decode cX9_advance 358 = .ok (.putfield 67, 3) := by decide +kernel
theorem dX9_advance_361 : decode cX9_advance 361 = .ok (.aload_n 0, 1) := by decide +kernel
theorem dX9_advance_362 : decode cX9_advance 362 = .ok (.dup, 1) := by decide +kernel
theorem dX9_advance_363 : decode cX9_advance 363 = .ok (.getfield 44, 3) := by decide +kernel
theorem dX9_advance_366 : decode cX9_advance 366 = .ok (.iconst 1, 1) := by decide +kernel
theorem dX9_advance_367 : decode cX9_advance 367 = .ok (.iadd, 1) := by decide +kernel
theorem dX9_advance_368 : decode cX9_advance 368 = .ok (.putfield 44, 3) := by decide +kernel
theorem dX9_advance_371 : decode cX9_advance 371 = .ok (.return_, 1) := by decide +kernel
theorem dX9_kindOfWord_0 : decode cX9_kindOfWord 0 = .ok (.iconst 0, 1) := by decide +kernel
theorem dX9_kindOfWord_1 : decode cX9_kindOfWord 1 = .ok (.istore_n 1, 1) := by decide +kernel
theorem dX9_kindOfWord_2 : decode cX9_kindOfWord 2 = .ok (.iload_n 1, 1) := by decide +kernel
theorem dX9_kindOfWord_3 : decode cX9_kindOfWord 3 = .ok (.aload_n 0, 1) := by decide +kernel
theorem dX9_kindOfWord_4 : decode cX9_kindOfWord 4 = .ok (.getfield 9, 3) := by decide +kernel
theorem dX9_kindOfWord_7 : decode cX9_kindOfWord 7 = .ok (.arraylength, 1) := by decide +kernel
theorem dX9_kindOfWord_8 : decode cX9_kindOfWord 8 = .ok (.if_icmp .ge 25, 3) := by decide +kernel
theorem dX9_kindOfWord_11 : decode cX9_kindOfWord 11 = .ok (.aload_n 0, 1) := by decide +kernel
theorem dX9_kindOfWord_12 : decode cX9_kindOfWord 12 = .ok (.getfield 9, 3) := by decide +kernel
theorem dX9_kindOfWord_15 : decode cX9_kindOfWord 15 = .ok (.iload_n 1, 1) := by decide +kernel
theorem dX9_kindOfWord_16 : decode cX9_kindOfWord 16 = .ok (.laload, 1) := by decide +kernel
theorem dX9_kindOfWord_17 : decode cX9_kindOfWord 17 = .ok (.aload_n 0, 1) := by decide +kernel
theorem dX9_kindOfWord_18 : decode cX9_kindOfWord 18 = .ok (.getfield 53, 3) := by decide +kernel
theorem dX9_kindOfWord_21 : decode cX9_kindOfWord 21 = .ok (.lcmp, 1) := by decide +kernel
theorem dX9_kindOfWord_22 : decode cX9_kindOfWord 22 = .ok (.ifCond .ne 5, 3) := by decide +kernel
theorem dX9_kindOfWord_25 : decode cX9_kindOfWord 25 = .ok (.iload_n 1, 1) := by decide +kernel
theorem dX9_kindOfWord_26 : decode cX9_kindOfWord 26 = .ok (.ireturn, 1) := by decide +kernel
theorem dX9_kindOfWord_27 : decode cX9_kindOfWord 27 = .ok (.iinc 1 1, 3) := by decide +kernel
theorem dX9_kindOfWord_30 : decode cX9_kindOfWord 30 = .ok (.goto (-28), 3) := by decide +kernel
theorem dX9_kindOfWord_33 : decode cX9_kindOfWord 33 = .ok (.bipush 20, 2) := by decide +kernel
theorem dX9_kindOfWord_35 : decode cX9_kindOfWord 35 = .ok (.ireturn, 1) := by decide +kernel
theorem dX9_withLetter_0 : decode cX9_withLetter 0 = .ok (.lload_n 0, 1) := by decide +kernel
theorem dX9_withLetter_1 : decode cX9_withLetter 1 = .ok (.ldc2_w 79, 3) := by decide +kernel
theorem dX9_withLetter_4 : decode cX9_withLetter 4 = .ok (.lmul, 1) := by decide +kernel
theorem dX9_withLetter_5 : decode cX9_withLetter 5 = .ok (.iload_n 2, 1) := by decide +kernel
theorem dX9_withLetter_6 : decode cX9_withLetter 6 = .ok (.bipush 97, 2) := by decide +kernel
theorem dX9_withLetter_8 : decode cX9_withLetter 8 = .ok (.isub, 1) := by decide +kernel
theorem dX9_withLetter_9 : decode cX9_withLetter 9 = .ok (.iconst 1, 1) := by decide +kernel
theorem dX9_withLetter_10 : decode cX9_withLetter 10 = .ok (.iadd, 1) := by decide +kernel
theorem dX9_withLetter_11 : decode cX9_withLetter 11 = .ok (.i2l, 1) := by decide +kernel
theorem dX9_withLetter_12 : decode cX9_withLetter 12 = .ok (.ladd, 1) := by decide +kernel
theorem dX9_withLetter_13 : decode cX9_withLetter 13 = .ok (.lreturn, 1) := by decide +kernel
theorem dX9_isLetter_0 : decode cX9_isLetter 0 = .ok (.iload_n 0, 1) := by decide +kernel
theorem dX9_isLetter_1 : decode cX9_isLetter 1 = .ok (.bipush 97, 2) := by decide +kernel
theorem dX9_isLetter_3 : decode cX9_isLetter 3 = .ok (.if_icmp .lt 13, 3) := by decide +kernel
theorem dX9_isLetter_6 : decode cX9_isLetter 6 = .ok (.iload_n 0, 1) := by decide +kernel
theorem dX9_isLetter_7 : decode cX9_isLetter 7 = .ok (.bipush 122, 2) := by decide +kernel
theorem dX9_isLetter_9 : decode cX9_isLetter 9 = .ok (.if_icmp .gt 7, 3) := by decide +kernel
theorem dX9_isLetter_12 : decode cX9_isLetter 12 = .ok (.iconst 1, 1) := by decide +kernel
theorem dX9_isLetter_13 : decode cX9_isLetter 13 = .ok (.goto 4, 3) := by decide +kernel
theorem dX9_isLetter_16 : decode cX9_isLetter 16 = .ok (.iconst 0, 1) := by decide +kernel
theorem dX9_isLetter_17 : decode cX9_isLetter 17 = .ok (.ireturn, 1) := by decide +kernel
theorem dX9_isDigit_0 : decode cX9_isDigit 0 = .ok (.iload_n 0, 1) := by decide +kernel
theorem dX9_isDigit_1 : decode cX9_isDigit 1 = .ok (.bipush 48, 2) := by decide +kernel
theorem dX9_isDigit_3 : decode cX9_isDigit 3 = .ok (.if_icmp .lt 13, 3) := by decide +kernel
theorem dX9_isDigit_6 : decode cX9_isDigit 6 = .ok (.iload_n 0, 1) := by decide +kernel
theorem dX9_isDigit_7 : decode cX9_isDigit 7 = .ok (.bipush 57, 2) := by decide +kernel
theorem dX9_isDigit_9 : decode cX9_isDigit 9 = .ok (.if_icmp .gt 7, 3) := by decide +kernel
theorem dX9_isDigit_12 : decode cX9_isDigit 12 = .ok (.iconst 1, 1) := by decide +kernel
theorem dX9_isDigit_13 : decode cX9_isDigit 13 = .ok (.goto 4, 3) := by decide +kernel
theorem dX9_isDigit_16 : decode cX9_isDigit 16 = .ok (.iconst 0, 1) := by decide +kernel
theorem dX9_isDigit_17 : decode cX9_isDigit 17 = .ok (.ireturn, 1) := by decide +kernel
theorem dX10_init_0 : decode cX10_init 0 = .ok (.aload_n 0, 1) := by decide +kernel
theorem dX10_init_1 : decode cX10_init 1 = .ok (.invokespecial 3, 3) := by decide +kernel
theorem dX10_init_4 : decode cX10_init 4 = .ok (.aload_n 0, 1) := by decide +kernel
theorem dX10_init_5 : decode cX10_init 5 = .ok (.bipush 48, 2) := by decide +kernel
theorem dX10_init_7 : decode cX10_init 7 = .ok (.newarray .int, 2) := by decide +kernel
theorem dX10_init_9 : decode cX10_init 9 = .ok (.putfield 9, 3) := by decide +kernel
theorem dX10_init_12 : decode cX10_init 12 = .ok (.aload_n 0, 1) := by decide +kernel
theorem dX10_init_13 : decode cX10_init 13 = .ok (.bipush 49, 2) := by decide +kernel
theorem dX10_init_15 : decode cX10_init 15 = .ok (.newarray .long, 2) := by decide +kernel
theorem dX10_init_17 : decode cX10_init 17 = .ok (.putfield 15, 3) := by decide +kernel
theorem dX10_init_20 : decode cX10_init 20 = .ok (.aload_n 0, 1) := by decide +kernel
theorem dX10_init_21 : decode cX10_init 21 = .ok (.bipush 64, 2) := by decide +kernel
theorem dX10_init_23 : decode cX10_init 23 = .ok (.newarray .long, 2) := by decide +kernel
theorem dX10_init_25 : decode cX10_init 25 = .ok (.putfield 19, 3) := by decide +kernel
theorem dX10_init_28 : decode cX10_init 28 = .ok (.aload_n 0, 1) := by decide +kernel
theorem dX10_init_29 : decode cX10_init 29 = .ok (.bipush 64, 2) := by decide +kernel
theorem dX10_init_31 : decode cX10_init 31 = .ok (.newarray .long, 2) := by decide +kernel
theorem dX10_init_33 : decode cX10_init 33 = .ok (.putfield 22, 3) := by decide +kernel
theorem dX10_init_36 : decode cX10_init 36 = .ok (.aload_n 0, 1) := by decide +kernel
theorem dX10_init_37 : decode cX10_init 37 = .ok (.aload_n 1, 1) := by decide +kernel
theorem dX10_init_38 : decode cX10_init 38 = .ok (.putfield 25, 3) := by decide +kernel
theorem dX10_init_41 : decode cX10_init 41 = .ok (.return_, 1) := by decide +kernel
theorem dX10_forget_0 : decode cX10_forget 0 = .ok (.aload_n 0, 1) := by decide +kernel
theorem dX10_forget_1 : decode cX10_forget 1 = .ok (.iconst 0, 1) := by decide +kernel
theorem dX10_forget_2 : decode cX10_forget 2 = .ok (.putfield 29, 3) := by decide +kernel
theorem dX10_forget_5 : decode cX10_forget 5 = .ok (.return_, 1) := by decide +kernel
theorem dX10_layWay_0 : decode cX10_layWay 0 = .ok (.lconst 1, 1) := by decide +kernel
theorem dX10_layWay_1 : decode cX10_layWay 1 = .ok (.iload_n 1, 1) := by decide +kernel
theorem dX10_layWay_2 : decode cX10_layWay 2 = .ok (.lshl, 1) := by decide +kernel
theorem dX10_layWay_3 : decode cX10_layWay 3 = .ok (.lstore_n 3, 1) := by decide +kernel
theorem dX10_layWay_4 : decode cX10_layWay 4 = .ok (.iconst 0, 1) := by decide +kernel
theorem dX10_layWay_5 : decode cX10_layWay 5 = .ok (.istore 5, 2) := by decide +kernel
theorem dX10_layWay_7 : decode cX10_layWay 7 = .ok (.iload 5, 2) := by decide +kernel
theorem dX10_layWay_9 : decode cX10_layWay 9 = .ok (.bipush 48, 2) := by decide +kernel
theorem dX10_layWay_11 : decode cX10_layWay 11 = .ok (.if_icmp .ge 31, 3) := by decide +kernel
theorem dX10_layWay_14 : decode cX10_layWay 14 = .ok (.lload_n 3, 1) := by decide +kernel
theorem dX10_layWay_15 : decode cX10_layWay 15 = .ok (.iload_n 2, 1) := by decide +kernel
theorem dX10_layWay_16 : decode cX10_layWay 16 = .ok (.lushr, 1) := by decide +kernel
theorem dX10_layWay_17 : decode cX10_layWay 17 = .ok (.lconst 1, 1) := by decide +kernel
theorem dX10_layWay_18 : decode cX10_layWay 18 = .ok (.land, 1) := by decide +kernel
theorem dX10_layWay_19 : decode cX10_layWay 19 = .ok (.lconst 0, 1) := by decide +kernel
theorem dX10_layWay_20 : decode cX10_layWay 20 = .ok (.lcmp, 1) := by decide +kernel
theorem dX10_layWay_21 : decode cX10_layWay 21 = .ok (.ifCond .ne 21, 3) := by decide +kernel
theorem dX10_layWay_24 : decode cX10_layWay 24 = .ok (.aload_n 0, 1) := by decide +kernel
theorem dX10_layWay_25 : decode cX10_layWay 25 = .ok (.getfield 25, 3) := by decide +kernel
theorem dX10_layWay_28 : decode cX10_layWay 28 = .ok (.lload_n 3, 1) := by decide +kernel
theorem dX10_layWay_29 : decode cX10_layWay 29 = .ok (.iload 5, 2) := by decide +kernel
theorem dX10_layWay_31 : decode cX10_layWay 31 = .ok (.iconst 0, 1) := by decide +kernel
theorem dX10_layWay_32 : decode cX10_layWay 32 = .ok (.invokevirtual 33, 3) := by decide +kernel
theorem dX10_layWay_35 : decode cX10_layWay 35 = .ok (.lstore_n 3, 1) := by decide +kernel
theorem dX10_layWay_36 : decode cX10_layWay 36 = .ok (.iinc 5 1, 3) := by decide +kernel
theorem dX10_layWay_39 : decode cX10_layWay 39 = .ok (.goto (-32), 3) := by decide +kernel
theorem dX10_layWay_42 : decode cX10_layWay 42 = .ok (.lload_n 3, 1) := by decide +kernel
theorem dX10_layWay_43 : decode cX10_layWay 43 = .ok (.iload_n 2, 1) := by decide +kernel
theorem dX10_layWay_44 : decode cX10_layWay 44 = .ok (.lushr, 1) := by decide +kernel
theorem dX10_layWay_45 : decode cX10_layWay 45 = .ok (.lconst 1, 1) := by decide +kernel
theorem dX10_layWay_46 : decode cX10_layWay 46 = .ok (.land, 1) := by decide +kernel
theorem dX10_layWay_47 : decode cX10_layWay 47 = .ok (.lconst 0, 1) := by decide +kernel
theorem dX10_layWay_48 : decode cX10_layWay 48 = .ok (.lcmp, 1) := by decide +kernel
theorem dX10_layWay_49 : decode cX10_layWay 49 = .ok (.ifCond .ne 5, 3) := by decide +kernel
theorem dX10_layWay_52 : decode cX10_layWay 52 = .ok (.iconst (-1), 1) := by decide +kernel
theorem dX10_layWay_53 : decode cX10_layWay 53 = .ok (.ireturn, 1) := by decide +kernel
theorem dX10_layWay_54 : decode cX10_layWay 54 = .ok (.aload_n 0, 1) := by decide +kernel
theorem dX10_layWay_55 : decode cX10_layWay 55 = .ok (.getfield 15, 3) := by decide +kernel
theorem dX10_layWay_58 : decode cX10_layWay 58 = .ok (.iload 5, 2) := by decide +kernel
theorem dX10_layWay_60 : decode cX10_layWay 60 = .ok (.lconst 1, 1) := by decide +kernel
theorem dX10_layWay_61 : decode cX10_layWay 61 = .ok (.iload_n 2, 1) := by decide +kernel
theorem dX10_layWay_62 : decode cX10_layWay 62 = .ok (.lshl, 1) := by decide +kernel
theorem dX10_layWay_63 : decode cX10_layWay 63 = .ok (.lastore, 1) := by decide +kernel
theorem dX10_layWay_64 : decode cX10_layWay 64 = .ok (.iload 5, 2) := by decide +kernel
theorem dX10_layWay_66 : decode cX10_layWay 66 = .ok (.iconst 1, 1) := by decide +kernel
theorem dX10_layWay_67 : decode cX10_layWay 67 = .ok (.isub, 1) := by decide +kernel
theorem dX10_layWay_68 : decode cX10_layWay 68 = .ok (.istore 6, 2) := by decide +kernel
theorem dX10_layWay_70 : decode cX10_layWay 70 = .ok (.iload 6, 2) := by decide +kernel
theorem dX10_layWay_72 : decode cX10_layWay 72 = .ok (.ifCond .le 35, 3) := by decide +kernel
theorem dX10_layWay_75 : decode cX10_layWay 75 = .ok (.aload_n 0, 1) := by decide +kernel
theorem dX10_layWay_76 : decode cX10_layWay 76 = .ok (.getfield 15, 3) := by decide +kernel
theorem dX10_layWay_79 : decode cX10_layWay 79 = .ok (.iload 6, 2) := by decide +kernel
theorem dX10_layWay_81 : decode cX10_layWay 81 = .ok (.aload_n 0, 1) := by decide +kernel
theorem dX10_layWay_82 : decode cX10_layWay 82 = .ok (.getfield 25, 3) := by decide +kernel
theorem dX10_layWay_85 : decode cX10_layWay 85 = .ok (.aload_n 0, 1) := by decide +kernel
theorem dX10_layWay_86 : decode cX10_layWay 86 = .ok (.getfield 15, 3) := by decide +kernel
theorem dX10_layWay_89 : decode cX10_layWay 89 = .ok (.iload 6, 2) := by decide +kernel
theorem dX10_layWay_91 : decode cX10_layWay 91 = .ok (.iconst 1, 1) := by decide +kernel
theorem dX10_layWay_92 : decode cX10_layWay 92 = .ok (.iadd, 1) := by decide +kernel
theorem dX10_layWay_93 : decode cX10_layWay 93 = .ok (.laload, 1) := by decide +kernel
theorem dX10_layWay_94 : decode cX10_layWay 94 = .ok (.iload 6, 2) := by decide +kernel
theorem dX10_layWay_96 : decode cX10_layWay 96 = .ok (.iconst 0, 1) := by decide +kernel
theorem dX10_layWay_97 : decode cX10_layWay 97 = .ok (.invokevirtual 33, 3) := by decide +kernel
theorem dX10_layWay_100 : decode cX10_layWay 100 = .ok (.lastore, 1) := by decide +kernel
theorem dX10_layWay_101 : decode cX10_layWay 101 = .ok (.iinc 6 (-1), 3) := by decide +kernel
theorem dX10_layWay_104 : decode cX10_layWay 104 = .ok (.goto (-34), 3) := by decide +kernel
theorem dX10_layWay_107 : decode cX10_layWay 107 = .ok (.iload_n 1, 1) := by decide +kernel
theorem dX10_layWay_108 : decode cX10_layWay 108 = .ok (.istore 6, 2) := by decide +kernel
theorem dX10_layWay_110 : decode cX10_layWay 110 = .ok (.iconst 0, 1) := by decide +kernel
theorem dX10_layWay_111 : decode cX10_layWay 111 = .ok (.istore 7, 2) := by decide +kernel
theorem dX10_layWay_113 : decode cX10_layWay 113 = .ok (.iload 7, 2) := by decide +kernel
theorem dX10_layWay_115 : decode cX10_layWay 115 = .ok (.iload 5, 2) := by decide +kernel
theorem dX10_layWay_117 : decode cX10_layWay 117 = .ok (.if_icmp .ge 47, 3) := by decide +kernel
theorem dX10_layWay_120 : decode cX10_layWay 120 = .ok (.aload_n 0, 1) := by decide +kernel
theorem dX10_layWay_121 : decode cX10_layWay 121 = .ok (.getfield 25, 3) := by decide +kernel
theorem dX10_layWay_124 : decode cX10_layWay 124 = .ok (.lconst 1, 1) := by decide +kernel
theorem dX10_layWay_125 : decode cX10_layWay 125 = .ok (.iload 6, 2) := by decide +kernel
theorem dX10_layWay_127 : decode cX10_layWay 127 = .ok (.lshl, 1) := by decide +kernel
theorem dX10_layWay_128 : decode cX10_layWay 128 = .ok (.iload 7, 2) := by decide +kernel
theorem dX10_layWay_130 : decode cX10_layWay 130 = .ok (.iconst 0, 1) := by decide +kernel
theorem dX10_layWay_131 : decode cX10_layWay 131 = .ok (.invokevirtual 33, 3) := by decide +kernel
theorem dX10_layWay_134 : decode cX10_layWay 134 = .ok (.aload_n 0, 1) := by decide +kernel
theorem dX10_layWay_135 : decode cX10_layWay 135 = .ok (.getfield 15, 3) := by decide +kernel
theorem dX10_layWay_138 : decode cX10_layWay 138 = .ok (.iload 7, 2) := by decide +kernel
theorem dX10_layWay_140 : decode cX10_layWay 140 = .ok (.iconst 1, 1) := by decide +kernel
theorem dX10_layWay_141 : decode cX10_layWay 141 = .ok (.iadd, 1) := by decide +kernel
theorem dX10_layWay_142 : decode cX10_layWay 142 = .ok (.laload, 1) := by decide +kernel
theorem dX10_layWay_143 : decode cX10_layWay 143 = .ok (.land, 1) := by decide +kernel
theorem dX10_layWay_144 : decode cX10_layWay 144 = .ok (.invokestatic 39, 3) := by decide +kernel
theorem dX10_layWay_147 : decode cX10_layWay 147 = .ok (.istore 6, 2) := by decide +kernel
theorem dX10_layWay_149 : decode cX10_layWay 149 = .ok (.aload_n 0, 1) := by decide +kernel
theorem dX10_layWay_150 : decode cX10_layWay 150 = .ok (.getfield 9, 3) := by decide +kernel
theorem dX10_layWay_153 : decode cX10_layWay 153 = .ok (.iload 7, 2) := by decide +kernel
theorem dX10_layWay_155 : decode cX10_layWay 155 = .ok (.iload 6, 2) := by decide +kernel
theorem dX10_layWay_157 : decode cX10_layWay 157 = .ok (.iastore, 1) := by decide +kernel
theorem dX10_layWay_158 : decode cX10_layWay 158 = .ok (.iinc 7 1, 3) := by decide +kernel
theorem dX10_layWay_161 : decode cX10_layWay 161 = .ok (.goto (-48), 3) := by decide +kernel
theorem dX10_layWay_164 : decode cX10_layWay 164 = .ok (.aload_n 0, 1) := by decide +kernel
theorem dX10_layWay_165 : decode cX10_layWay 165 = .ok (.iload 5, 2) := by decide +kernel
theorem dX10_layWay_167 : decode cX10_layWay 167 = .ok (.putfield 29, 3) := by decide +kernel
theorem dX10_layWay_170 : decode cX10_layWay 170 = .ok (.iload 5, 2) := by decide +kernel
theorem dX10_layWay_172 : decode cX10_layWay 172 = .ok (.ireturn, 1) := by decide +kernel
theorem dX10_goOn_0 : decode cX10_goOn 0 = .ok (.lload_n 1, 1) := by decide +kernel
theorem dX10_goOn_1 : decode cX10_goOn 1 = .ok (.lstore 4, 2) := by decide +kernel
theorem dX10_goOn_3 : decode cX10_goOn 3 = .ok (.iconst 0, 1) := by decide +kernel
theorem dX10_goOn_4 : decode cX10_goOn 4 = .ok (.istore 6, 2) := by decide +kernel
theorem dX10_goOn_6 : decode cX10_goOn 6 = .ok (.iload 6, 2) := by decide +kernel
theorem dX10_goOn_8 : decode cX10_goOn 8 = .ok (.iload_n 3, 1) := by decide +kernel
theorem dX10_goOn_9 : decode cX10_goOn 9 = .ok (.if_icmp .ge 23, 3) := by decide +kernel
theorem dX10_goOn_12 : decode cX10_goOn 12 = .ok (.aload_n 0, 1) := by decide +kernel
theorem dX10_goOn_13 : decode cX10_goOn 13 = .ok (.getfield 25, 3) := by decide +kernel
theorem dX10_goOn_16 : decode cX10_goOn 16 = .ok (.lload 4, 2) := by decide +kernel
theorem dX10_goOn_18 : decode cX10_goOn 18 = .ok (.iload 6, 2) := by decide +kernel
theorem dX10_goOn_20 : decode cX10_goOn 20 = .ok (.iconst 0, 1) := by decide +kernel
theorem dX10_goOn_21 : decode cX10_goOn 21 = .ok (.invokevirtual 33, 3) := by decide +kernel
theorem dX10_goOn_24 : decode cX10_goOn 24 = .ok (.lstore 4, 2) := by decide +kernel
theorem dX10_goOn_26 : decode cX10_goOn 26 = .ok (.iinc 6 1, 3) := by decide +kernel
theorem dX10_goOn_29 : decode cX10_goOn 29 = .ok (.goto (-23), 3) := by decide +kernel
theorem dX10_goOn_32 : decode cX10_goOn 32 = .ok (.lload 4, 2) := by decide +kernel
theorem dX10_goOn_34 : decode cX10_goOn 34 = .ok (.lreturn, 1) := by decide +kernel
theorem dX10_comeFrom_0 : decode cX10_comeFrom 0 = .ok (.lload_n 1, 1) := by decide +kernel
theorem dX10_comeFrom_1 : decode cX10_comeFrom 1 = .ok (.lstore 4, 2) := by decide +kernel
theorem dX10_comeFrom_3 : decode cX10_comeFrom 3 = .ok (.iload_n 3, 1) := by decide +kernel
theorem dX10_comeFrom_4 : decode cX10_comeFrom 4 = .ok (.iconst 1, 1) := by decide +kernel
theorem dX10_comeFrom_5 : decode cX10_comeFrom 5 = .ok (.isub, 1) := by decide +kernel
theorem dX10_comeFrom_6 : decode cX10_comeFrom 6 = .ok (.istore 6, 2) := by decide +kernel
theorem dX10_comeFrom_8 : decode cX10_comeFrom 8 = .ok (.iload 6, 2) := by decide +kernel
theorem dX10_comeFrom_10 : decode cX10_comeFrom 10 = .ok (.ifCond .lt 23, 3) := by decide +kernel
theorem dX10_comeFrom_13 : decode cX10_comeFrom 13 = .ok (.aload_n 0, 1) := by decide +kernel
theorem dX10_comeFrom_14 : decode cX10_comeFrom 14 = .ok (.getfield 25, 3) := by decide +kernel
theorem dX10_comeFrom_17 : decode cX10_comeFrom 17 = .ok (.lload 4, 2) := by decide +kernel
theorem dX10_comeFrom_19 : decode cX10_comeFrom 19 = .ok (.iload 6, 2) := by decide +kernel
theorem dX10_comeFrom_21 : decode cX10_comeFrom 21 = .ok (.iconst 0, 1) := by decide +kernel
theorem dX10_comeFrom_22 : decode cX10_comeFrom 22 = .ok (.invokevirtual 33, 3) := by decide +kernel
theorem dX10_comeFrom_25 : decode cX10_comeFrom 25 = .ok (.lstore 4, 2) := by decide +kernel
theorem dX10_comeFrom_27 : decode cX10_comeFrom 27 = .ok (.iinc 6 (-1), 3) := by decide +kernel
theorem dX10_comeFrom_30 : decode cX10_comeFrom 30 = .ok (.goto (-22), 3) := by decide +kernel
theorem dX10_comeFrom_33 : decode cX10_comeFrom 33 = .ok (.lload 4, 2) := by decide +kernel
theorem dX10_comeFrom_35 : decode cX10_comeFrom 35 = .ok (.lreturn, 1) := by decide +kernel
theorem dX10_bringTogether_0 : decode cX10_bringTogether 0 = .ok (.lconst 1, 1) := by decide +kernel
theorem dX10_bringTogether_1 : decode cX10_bringTogether 1 = .ok (.iload_n 1, 1) := by decide +kernel
theorem dX10_bringTogether_2 : decode cX10_bringTogether 2 = .ok (.lshl, 1) := by decide +kernel
theorem dX10_bringTogether_3 : decode cX10_bringTogether 3 = .ok (.lstore_n 3, 1) := by decide +kernel
theorem dX10_bringTogether_4 : decode cX10_bringTogether 4 = .ok (.lconst 1, 1) := by decide +kernel
theorem dX10_bringTogether_5 : decode cX10_bringTogether 5 = .ok (.iload_n 2, 1) := by decide +kernel
theorem dX10_bringTogether_6 : decode cX10_bringTogether 6 = .ok (.lshl, 1) := by decide +kernel
theorem dX10_bringTogether_7 : decode cX10_bringTogether 7 = .ok (.lstore 5, 2) := by decide +kernel
theorem dX10_bringTogether_9 : decode cX10_bringTogether 9 = .ok (.aload_n 0, 1) := by decide +kernel
theorem dX10_bringTogether_10 : decode cX10_bringTogether 10 = .ok (.iconst 0, 1) := by decide +kernel
theorem dX10_bringTogether_11 : decode cX10_bringTogether 11 = .ok (.putfield 45, 3) := by decide +kernel
theorem dX10_bringTogether_14 : decode cX10_bringTogether 14 = .ok (.iconst 0, 1) := by decide +kernel
theorem dX10_bringTogether_15 : decode cX10_bringTogether 15 = .ok (.istore 7, 2) := by decide +kernel
theorem dX10_bringTogether_17 : decode cX10_bringTogether 17 = .ok (.iload 7, 2) := by decide +kernel
theorem dX10_bringTogether_19 : decode cX10_bringTogether 19 = .ok (.bipush 48, 2) := by decide +kernel
theorem dX10_bringTogether_21 : decode cX10_bringTogether 21 = .ok (.if_icmp .ge 52, 3) := by decide +kernel
theorem dX10_bringTogether_24 : decode cX10_bringTogether 24 = .ok (.lload_n 3, 1) := by decide +kernel
theorem dX10_bringTogether_25 : decode cX10_bringTogether 25 = .ok (.lload 5, 2) := by decide +kernel
theorem dX10_bringTogether_27 : decode cX10_bringTogether 27 = .ok (.land, 1) := by decide +kernel
theorem dX10_bringTogether_28 : decode cX10_bringTogether 28 = .ok (.lconst 0, 1) := by decide +kernel
theorem dX10_bringTogether_29 : decode cX10_bringTogether 29 = .ok (.lcmp, 1) := by decide +kernel
theorem dX10_bringTogether_30 : decode cX10_bringTogether 30 = .ok (.ifCond .ne 43, 3) := by decide +kernel
theorem dX10_bringTogether_33 : decode cX10_bringTogether 33 = .ok (.aload_n 0, 1) := by decide +kernel
theorem dX10_bringTogether_34 : decode cX10_bringTogether 34 = .ok (.getfield 25, 3) := by decide +kernel
theorem dX10_bringTogether_37 : decode cX10_bringTogether 37 = .ok (.lload_n 3, 1) := by decide +kernel
theorem dX10_bringTogether_38 : decode cX10_bringTogether 38 = .ok (.iload 7, 2) := by decide +kernel
theorem dX10_bringTogether_40 : decode cX10_bringTogether 40 = .ok (.iconst 0, 1) := by decide +kernel
theorem dX10_bringTogether_41 : decode cX10_bringTogether 41 = .ok (.invokevirtual 33, 3) := by decide +kernel
theorem dX10_bringTogether_44 : decode cX10_bringTogether 44 = .ok (.lstore_n 3, 1) := by decide +kernel
theorem dX10_bringTogether_45 : decode cX10_bringTogether 45 = .ok (.aload_n 0, 1) := by decide +kernel
theorem dX10_bringTogether_46 : decode cX10_bringTogether 46 = .ok (.getfield 25, 3) := by decide +kernel
theorem dX10_bringTogether_49 : decode cX10_bringTogether 49 = .ok (.lload 5, 2) := by decide +kernel
theorem dX10_bringTogether_51 : decode cX10_bringTogether 51 = .ok (.iload 7, 2) := by decide +kernel
theorem dX10_bringTogether_53 : decode cX10_bringTogether 53 = .ok (.iconst 0, 1) := by decide +kernel
theorem dX10_bringTogether_54 : decode cX10_bringTogether 54 = .ok (.invokevirtual 33, 3) := by decide +kernel
theorem dX10_bringTogether_57 : decode cX10_bringTogether 57 = .ok (.lstore 5, 2) := by decide +kernel
theorem dX10_bringTogether_59 : decode cX10_bringTogether 59 = .ok (.aload_n 0, 1) := by decide +kernel
theorem dX10_bringTogether_60 : decode cX10_bringTogether 60 = .ok (.iload 7, 2) := by decide +kernel
theorem dX10_bringTogether_62 : decode cX10_bringTogether 62 = .ok (.iconst 1, 1) := by decide +kernel
theorem dX10_bringTogether_63 : decode cX10_bringTogether 63 = .ok (.iadd, 1) := by decide +kernel
theorem dX10_bringTogether_64 : decode cX10_bringTogether 64 = .ok (.putfield 45, 3) := by decide +kernel
theorem dX10_bringTogether_67 : decode cX10_bringTogether 67 = .ok (.iinc 7 1, 3) := by decide +kernel
theorem dX10_bringTogether_70 : decode cX10_bringTogether 70 = .ok (.goto (-53), 3) := by decide +kernel
theorem dX10_bringTogether_73 : decode cX10_bringTogether 73 = .ok (.aload_n 0, 1) := by decide +kernel
theorem dX10_bringTogether_74 : decode cX10_bringTogether 74 = .ok (.lload_n 3, 1) := by decide +kernel
theorem dX10_bringTogether_75 : decode cX10_bringTogether 75 = .ok (.lload 5, 2) := by decide +kernel
theorem dX10_bringTogether_77 : decode cX10_bringTogether 77 = .ok (.land, 1) := by decide +kernel
theorem dX10_bringTogether_78 : decode cX10_bringTogether 78 = .ok (.invokestatic 39, 3) := by decide +kernel
theorem dX10_bringTogether_81 : decode cX10_bringTogether 81 = .ok (.putfield 48, 3) := by decide +kernel
theorem dX10_bringTogether_84 : decode cX10_bringTogether 84 = .ok (.lload_n 3, 1) := by decide +kernel
theorem dX10_bringTogether_85 : decode cX10_bringTogether 85 = .ok (.lload 5, 2) := by decide +kernel
theorem dX10_bringTogether_87 : decode cX10_bringTogether 87 = .ok (.land, 1) := by decide +kernel
theorem dX10_bringTogether_88 : decode cX10_bringTogether 88 = .ok (.lconst 0, 1) := by decide +kernel
theorem dX10_bringTogether_89 : decode cX10_bringTogether 89 = .ok (.lcmp, 1) := by decide +kernel
theorem dX10_bringTogether_90 : decode cX10_bringTogether 90 = .ok (.ifCond .eq 7, 3) := by decide +kernel
theorem dX10_bringTogether_93 : decode cX10_bringTogether 93 = .ok (.iconst 1, 1) := by decide +kernel
theorem dX10_bringTogether_94 : decode cX10_bringTogether 94 = .ok (.goto 4, 3) := by decide +kernel
theorem dX10_bringTogether_97 : decode cX10_bringTogether 97 = .ok (.iconst 0, 1) := by decide +kernel
theorem dX10_bringTogether_98 : decode cX10_bringTogether 98 = .ok (.ireturn, 1) := by decide +kernel
theorem dX10_joinedWith_0 : decode cX10_joinedWith 0 = .ok (.lload_n 1, 1) := by decide +kernel
theorem dX10_joinedWith_1 : decode cX10_joinedWith 1 = .ok (.lstore 4, 2) := by decide +kernel
theorem dX10_joinedWith_3 : decode cX10_joinedWith 3 = .ok (.iconst 0, 1) := by decide +kernel
theorem dX10_joinedWith_4 : decode cX10_joinedWith 4 = .ok (.istore 6, 2) := by decide +kernel
theorem dX10_joinedWith_6 : decode cX10_joinedWith 6 = .ok (.iload 6, 2) := by decide +kernel
theorem dX10_joinedWith_8 : decode cX10_joinedWith 8 = .ok (.bipush 64, 2) := by decide +kernel
theorem dX10_joinedWith_10 : decode cX10_joinedWith 10 = .ok (.if_icmp .ge 37, 3) := by decide +kernel
theorem dX10_joinedWith_13 : decode cX10_joinedWith 13 = .ok (.aload_n 0, 1) := by decide +kernel
theorem dX10_joinedWith_14 : decode cX10_joinedWith 14 = .ok (.getfield 25, 3) := by decide +kernel
theorem dX10_joinedWith_17 : decode cX10_joinedWith 17 = .ok (.lload 4, 2) := by decide +kernel
theorem dX10_joinedWith_19 : decode cX10_joinedWith 19 = .ok (.iload_n 3, 1) := by decide +kernel
theorem dX10_joinedWith_20 : decode cX10_joinedWith 20 = .ok (.iconst 0, 1) := by decide +kernel
theorem dX10_joinedWith_21 : decode cX10_joinedWith 21 = .ok (.invokevirtual 33, 3) := by decide +kernel
theorem dX10_joinedWith_24 : decode cX10_joinedWith 24 = .ok (.lstore 7, 2) := by decide +kernel
theorem dX10_joinedWith_26 : decode cX10_joinedWith 26 = .ok (.lload 7, 2) := by decide +kernel
theorem dX10_joinedWith_28 : decode cX10_joinedWith 28 = .ok (.lload 4, 2) := by decide +kernel
theorem dX10_joinedWith_30 : decode cX10_joinedWith 30 = .ok (.lcmp, 1) := by decide +kernel
theorem dX10_joinedWith_31 : decode cX10_joinedWith 31 = .ok (.ifCond .ne 6, 3) := by decide +kernel
theorem dX10_joinedWith_34 : decode cX10_joinedWith 34 = .ok (.goto 13, 3) := by decide +kernel
theorem dX10_joinedWith_37 : decode cX10_joinedWith 37 = .ok (.lload 7, 2) := by decide +kernel
theorem dX10_joinedWith_39 : decode cX10_joinedWith 39 = .ok (.lstore 4, 2) := by decide +kernel
theorem dX10_joinedWith_41 : decode cX10_joinedWith 41 = .ok (.iinc 6 1, 3) := by decide +kernel
theorem dX10_joinedWith_44 : decode cX10_joinedWith 44 = .ok (.goto (-38), 3) := by decide +kernel
theorem dX10_joinedWith_47 : decode cX10_joinedWith 47 = .ok (.lload 4, 2) := by decide +kernel
theorem dX10_joinedWith_49 : decode cX10_joinedWith 49 = .ok (.lreturn, 1) := by decide +kernel
theorem dX10_countJoined_0 : decode cX10_countJoined 0 = .ok (.aload_n 0, 1) := by decide +kernel
theorem dX10_countJoined_1 : decode cX10_countJoined 1 = .ok (.getfield 25, 3) := by decide +kernel
theorem dX10_countJoined_4 : decode cX10_countJoined 4 = .ok (.getfield 51, 3) := by decide +kernel
theorem dX10_countJoined_7 : decode cX10_countJoined 7 = .ok (.getfield 55, 3) := by decide +kernel
theorem dX10_countJoined_10 : decode cX10_countJoined 10 = .ok (.lstore_n 2, 1) := by decide +kernel
theorem dX10_countJoined_11 : decode cX10_countJoined 11 = .ok (.iconst 0, 1) := by decide +kernel
theorem dX10_countJoined_12 : decode cX10_countJoined 12 = .ok (.istore 4, 2) := by decide +kernel
theorem dX10_countJoined_14 : decode cX10_countJoined 14 = .ok (.iconst 0, 1) := by decide +kernel
theorem dX10_countJoined_15 : decode cX10_countJoined 15 = .ok (.istore 5, 2) := by decide +kernel
theorem dX10_countJoined_17 : decode cX10_countJoined 17 = .ok (.iload 5, 2) := by decide +kernel
theorem dX10_countJoined_19 : decode cX10_countJoined 19 = .ok (.bipush 64, 2) := by decide +kernel
theorem dX10_countJoined_21 : decode cX10_countJoined 21 = .ok (.if_icmp .ge 34, 3) := by decide +kernel
theorem dX10_countJoined_24 : decode cX10_countJoined 24 = .ok (.lload_n 2, 1) := by decide +kernel
theorem dX10_countJoined_25 : decode cX10_countJoined 25 = .ok (.lconst 0, 1) := by decide +kernel
theorem dX10_countJoined_26 : decode cX10_countJoined 26 = .ok (.lcmp, 1) := by decide +kernel
theorem dX10_countJoined_27 : decode cX10_countJoined 27 = .ok (.ifCond .eq 28, 3) := by decide +kernel
theorem dX10_countJoined_30 : decode cX10_countJoined 30 = .ok (.lload_n 2, 1) := by decide +kernel
theorem dX10_countJoined_31 : decode cX10_countJoined 31 = .ok (.aload_n 0, 1) := by decide +kernel
theorem dX10_countJoined_32 : decode cX10_countJoined 32 = .ok (.lload_n 2, 1) := by decide +kernel
theorem dX10_countJoined_33 : decode cX10_countJoined 33 = .ok (.invokestatic 61, 3) := by decide +kernel
theorem dX10_countJoined_36 : decode cX10_countJoined 36 = .ok (.iload_n 1, 1) := by decide +kernel
theorem dX10_countJoined_37 : decode cX10_countJoined 37 = .ok (.invokevirtual 65, 3) := by decide +kernel
theorem dX10_countJoined_40 : decode cX10_countJoined 40 = .ok (.ldc2_w 69, 3) := by decide +kernel
theorem dX10_countJoined_43 : decode cX10_countJoined 43 = .ok (.lxor, 1) := by decide +kernel
theorem dX10_countJoined_44 : decode cX10_countJoined 44 = .ok (.land, 1) := by decide +kernel
theorem dX10_countJoined_45 : decode cX10_countJoined 45 = .ok (.lstore_n 2, 1) := by decide +kernel
theorem dX10_countJoined_46 : decode cX10_countJoined 46 = .ok (.iinc 4 1, 3) := by decide +kernel
theorem dX10_countJoined_49 : decode cX10_countJoined 49 = .ok (.iinc 5 1, 3) := by decide +kernel
theorem dX10_countJoined_52 : decode cX10_countJoined 52 = .ok (.goto (-35), 3) := by decide +kernel
theorem dX10_countJoined_55 : decode cX10_countJoined 55 = .ok (.iload 4, 2) := by decide +kernel
theorem dX10_countJoined_57 : decode cX10_countJoined 57 = .ok (.ireturn, 1) := by decide +kernel
theorem dX10_fewestShut_0 : decode cX10_fewestShut 0 = .ok (.iconst 1, 1) := by decide +kernel
theorem dX10_fewestShut_1 : decode cX10_fewestShut 1 = .ok (.aload_n 0, 1) := by decide +kernel
theorem dX10_fewestShut_2 : decode cX10_fewestShut 2 = .ok (.getfield 25, 3) := by decide +kernel
theorem dX10_fewestShut_5 : decode cX10_fewestShut 5 = .ok (.getfield 51, 3) := by decide +kernel
theorem dX10_fewestShut_8 : decode cX10_fewestShut 8 = .ok (.getfield 71, 3) := by decide +kernel
theorem dX10_fewestShut_11 : decode cX10_fewestShut 11 = .ok (.getfield 75, 3) := by decide +kernel
theorem dX10_fewestShut_14 : decode cX10_fewestShut 14 = .ok (.ishl, 1) := by decide +kernel
theorem dX10_fewestShut_15 : decode cX10_fewestShut 15 = .ok (.istore 4, 2) := by decide +kernel
theorem dX10_fewestShut_17 : decode cX10_fewestShut 17 = .ok (.iconst 0, 1) := by decide +kernel
theorem dX10_fewestShut_18 : decode cX10_fewestShut 18 = .ok (.istore 5, 2) := by decide +kernel
theorem dX10_fewestShut_20 : decode cX10_fewestShut 20 = .ok (.iload 5, 2) := by decide +kernel
theorem dX10_fewestShut_22 : decode cX10_fewestShut 22 = .ok (.iconst 3, 1) := by decide +kernel
theorem dX10_fewestShut_23 : decode cX10_fewestShut 23 = .ok (.if_icmp .gt 50, 3) := by decide +kernel
theorem dX10_fewestShut_26 : decode cX10_fewestShut 26 = .ok (.iconst 0, 1) := by decide +kernel
theorem dX10_fewestShut_27 : decode cX10_fewestShut 27 = .ok (.istore 6, 2) := by decide +kernel
theorem dX10_fewestShut_29 : decode cX10_fewestShut 29 = .ok (.iload 6, 2) := by decide +kernel
theorem dX10_fewestShut_31 : decode cX10_fewestShut 31 = .ok (.iload 4, 2) := by decide +kernel
theorem dX10_fewestShut_33 : decode cX10_fewestShut 33 = .ok (.if_icmp .ge 34, 3) := by decide +kernel
theorem dX10_fewestShut_36 : decode cX10_fewestShut 36 = .ok (.iload 6, 2) := by decide +kernel
theorem dX10_fewestShut_38 : decode cX10_fewestShut 38 = .ok (.invokestatic 80, 3) := by decide +kernel
theorem dX10_fewestShut_41 : decode cX10_fewestShut 41 = .ok (.iload 5, 2) := by decide +kernel
theorem dX10_fewestShut_43 : decode cX10_fewestShut 43 = .ok (.if_icmp .ne 18, 3) := by decide +kernel
theorem dX10_fewestShut_46 : decode cX10_fewestShut 46 = .ok (.aload_n 0, 1) := by decide +kernel
theorem dX10_fewestShut_47 : decode cX10_fewestShut 47 = .ok (.iload_n 1, 1) := by decide +kernel
theorem dX10_fewestShut_48 : decode cX10_fewestShut 48 = .ok (.iload_n 2, 1) := by decide +kernel
theorem dX10_fewestShut_49 : decode cX10_fewestShut 49 = .ok (.iload_n 3, 1) := by decide +kernel
theorem dX10_fewestShut_50 : decode cX10_fewestShut 50 = .ok (.iload 6, 2) := by decide +kernel
theorem dX10_fewestShut_52 : decode cX10_fewestShut 52 = .ok (.invokevirtual 86, 3) := by decide +kernel
theorem dX10_fewestShut_55 : decode cX10_fewestShut 55 = .ok (.ifCond .ne 6, 3) := by decide +kernel
theorem dX10_fewestShut_58 : decode cX10_fewestShut 58 = .ok (.iload 6, 2) := by decide +kernel
theorem dX10_fewestShut_60 : decode cX10_fewestShut 60 = .ok (.ireturn, 1) := by decide +kernel
theorem dX10_fewestShut_61 : decode cX10_fewestShut 61 = .ok (.iinc 6 1, 3) := by decide +kernel
theorem dX10_fewestShut_64 : decode cX10_fewestShut 64 = .ok (.goto (-35), 3) := by decide +kernel
theorem dX10_fewestShut_67 : decode cX10_fewestShut 67 = .ok (.iinc 5 1, 3) := by decide +kernel
theorem dX10_fewestShut_70 : decode cX10_fewestShut 70 = .ok (.goto (-50), 3) := by decide +kernel
theorem dX10_fewestShut_73 : decode cX10_fewestShut 73 = .ok (.iconst (-1), 1) := by decide +kernel
theorem dX10_fewestShut_74 : decode cX10_fewestShut 74 = .ok (.ireturn, 1) := by decide +kernel
theorem dX10_fewestLit_0 : decode cX10_fewestLit 0 = .ok (.aload_n 0, 1) := by decide +kernel
theorem dX10_fewestLit_1 : decode cX10_fewestLit 1 = .ok (.getfield 25, 3) := by decide +kernel
theorem dX10_fewestLit_4 : decode cX10_fewestLit 4 = .ok (.getfield 51, 3) := by decide +kernel
theorem dX10_fewestLit_7 : decode cX10_fewestLit 7 = .ok (.getfield 90, 3) := by decide +kernel
theorem dX10_fewestLit_10 : decode cX10_fewestLit 10 = .ok (.getfield 75, 3) := by decide +kernel
theorem dX10_fewestLit_13 : decode cX10_fewestLit 13 = .ok (.istore 4, 2) := by decide +kernel
theorem dX10_fewestLit_15 : decode cX10_fewestLit 15 = .ok (.iconst 0, 1) := by decide +kernel
theorem dX10_fewestLit_16 : decode cX10_fewestLit 16 = .ok (.istore 5, 2) := by decide +kernel
theorem dX10_fewestLit_18 : decode cX10_fewestLit 18 = .ok (.iload 5, 2) := by decide +kernel
theorem dX10_fewestLit_20 : decode cX10_fewestLit 20 = .ok (.iload 4, 2) := by decide +kernel
theorem dX10_fewestLit_22 : decode cX10_fewestLit 22 = .ok (.if_icmp .gt 60, 3) := by decide +kernel
theorem dX10_fewestLit_25 : decode cX10_fewestLit 25 = .ok (.iconst 0, 1) := by decide +kernel
theorem dX10_fewestLit_26 : decode cX10_fewestLit 26 = .ok (.istore 6, 2) := by decide +kernel
theorem dX10_fewestLit_28 : decode cX10_fewestLit 28 = .ok (.iload 6, 2) := by decide +kernel
theorem dX10_fewestLit_30 : decode cX10_fewestLit 30 = .ok (.iconst 1, 1) := by decide +kernel
theorem dX10_fewestLit_31 : decode cX10_fewestLit 31 = .ok (.iload 4, 2) := by decide +kernel
theorem dX10_fewestLit_33 : decode cX10_fewestLit 33 = .ok (.ishl, 1) := by decide +kernel
theorem dX10_fewestLit_34 : decode cX10_fewestLit 34 = .ok (.if_icmp .ge 42, 3) := by decide +kernel
theorem dX10_fewestLit_37 : decode cX10_fewestLit 37 = .ok (.iload 6, 2) := by decide +kernel
theorem dX10_fewestLit_39 : decode cX10_fewestLit 39 = .ok (.invokestatic 80, 3) := by decide +kernel
theorem dX10_fewestLit_42 : decode cX10_fewestLit 42 = .ok (.iload 5, 2) := by decide +kernel
theorem dX10_fewestLit_44 : decode cX10_fewestLit 44 = .ok (.if_icmp .ne 26, 3) := by decide +kernel
theorem dX10_fewestLit_47 : decode cX10_fewestLit 47 = .ok (.aload_n 0, 1) := by decide +kernel
theorem dX10_fewestLit_48 : decode cX10_fewestLit 48 = .ok (.getfield 25, 3) := by decide +kernel
theorem dX10_fewestLit_51 : decode cX10_fewestLit 51 = .ok (.iload 6, 2) := by decide +kernel
theorem dX10_fewestLit_53 : decode cX10_fewestLit 53 = .ok (.invokevirtual 93, 3) := by decide +kernel
theorem dX10_fewestLit_56 : decode cX10_fewestLit 56 = .ok (.aload_n 0, 1) := by decide +kernel
theorem dX10_fewestLit_57 : decode cX10_fewestLit 57 = .ok (.iload_n 1, 1) := by decide +kernel
theorem dX10_fewestLit_58 : decode cX10_fewestLit 58 = .ok (.iload_n 2, 1) := by decide +kernel
theorem dX10_fewestLit_59 : decode cX10_fewestLit 59 = .ok (.iload_n 3, 1) := by decide +kernel
theorem dX10_fewestLit_60 : decode cX10_fewestLit 60 = .ok (.iconst 0, 1) := by decide +kernel
theorem dX10_fewestLit_61 : decode cX10_fewestLit 61 = .ok (.invokevirtual 86, 3) := by decide +kernel
theorem dX10_fewestLit_64 : decode cX10_fewestLit 64 = .ok (.ifCond .eq 6, 3) := by decide +kernel
theorem dX10_fewestLit_67 : decode cX10_fewestLit 67 = .ok (.iload 6, 2) := by decide +kernel
theorem dX10_fewestLit_69 : decode cX10_fewestLit 69 = .ok (.ireturn, 1) := by decide +kernel
theorem dX10_fewestLit_70 : decode cX10_fewestLit 70 = .ok (.iinc 6 1, 3) := by decide +kernel
theorem dX10_fewestLit_73 : decode cX10_fewestLit 73 = .ok (.goto (-45), 3) := by decide +kernel
theorem dX10_fewestLit_76 : decode cX10_fewestLit 76 = .ok (.iinc 5 1, 3) := by decide +kernel
theorem dX10_fewestLit_79 : decode cX10_fewestLit 79 = .ok (.goto (-61), 3) := by decide +kernel
theorem dX10_fewestLit_82 : decode cX10_fewestLit 82 = .ok (.iconst (-1), 1) := by decide +kernel
theorem dX10_fewestLit_83 : decode cX10_fewestLit 83 = .ok (.ireturn, 1) := by decide +kernel
theorem dX10_canBe_0 : decode cX10_canBe 0 = .ok (.lconst 1, 1) := by decide +kernel
theorem dX10_canBe_1 : decode cX10_canBe 1 = .ok (.iload_n 1, 1) := by decide +kernel
theorem dX10_canBe_2 : decode cX10_canBe 2 = .ok (.lshl, 1) := by decide +kernel
theorem dX10_canBe_3 : decode cX10_canBe 3 = .ok (.lstore 5, 2) := by decide +kernel
theorem dX10_canBe_5 : decode cX10_canBe 5 = .ok (.iconst 0, 1) := by decide +kernel
theorem dX10_canBe_6 : decode cX10_canBe 6 = .ok (.istore 7, 2) := by decide +kernel
theorem dX10_canBe_8 : decode cX10_canBe 8 = .ok (.iload 7, 2) := by decide +kernel
theorem dX10_canBe_10 : decode cX10_canBe 10 = .ok (.iload_n 3, 1) := by decide +kernel
theorem dX10_canBe_11 : decode cX10_canBe 11 = .ok (.if_icmp .ge 35, 3) := by decide +kernel
theorem dX10_canBe_14 : decode cX10_canBe 14 = .ok (.lload 5, 2) := by decide +kernel
theorem dX10_canBe_16 : decode cX10_canBe 16 = .ok (.iload_n 2, 1) := by decide +kernel
theorem dX10_canBe_17 : decode cX10_canBe 17 = .ok (.lushr, 1) := by decide +kernel
theorem dX10_canBe_18 : decode cX10_canBe 18 = .ok (.lconst 1, 1) := by decide +kernel
theorem dX10_canBe_19 : decode cX10_canBe 19 = .ok (.land, 1) := by decide +kernel
theorem dX10_canBe_20 : decode cX10_canBe 20 = .ok (.lconst 0, 1) := by decide +kernel
theorem dX10_canBe_21 : decode cX10_canBe 21 = .ok (.lcmp, 1) := by decide +kernel
theorem dX10_canBe_22 : decode cX10_canBe 22 = .ok (.ifCond .ne 24, 3) := by decide +kernel
theorem dX10_canBe_25 : decode cX10_canBe 25 = .ok (.aload_n 0, 1) := by decide +kernel
theorem dX10_canBe_26 : decode cX10_canBe 26 = .ok (.getfield 25, 3) := by decide +kernel
theorem dX10_canBe_29 : decode cX10_canBe 29 = .ok (.lload 5, 2) := by decide +kernel
theorem dX10_canBe_31 : decode cX10_canBe 31 = .ok (.iload 7, 2) := by decide +kernel
theorem dX10_canBe_33 : decode cX10_canBe 33 = .ok (.iload 4, 2) := by decide +kernel
theorem dX10_canBe_35 : decode cX10_canBe 35 = .ok (.invokevirtual 33, 3) := by decide +kernel
theorem dX10_canBe_38 : decode cX10_canBe 38 = .ok (.lstore 5, 2) := by decide +kernel
theorem dX10_canBe_40 : decode cX10_canBe 40 = .ok (.iinc 7 1, 3) := by decide +kernel
theorem dX10_canBe_43 : decode cX10_canBe 43 = .ok (.goto (-35), 3) := by decide +kernel
theorem dX10_canBe_46 : decode cX10_canBe 46 = .ok (.lload 5, 2) := by decide +kernel
theorem dX10_canBe_48 : decode cX10_canBe 48 = .ok (.iload_n 2, 1) := by decide +kernel
theorem dX10_canBe_49 : decode cX10_canBe 49 = .ok (.lushr, 1) := by decide +kernel
theorem dX10_canBe_50 : decode cX10_canBe 50 = .ok (.lconst 1, 1) := by decide +kernel
theorem dX10_canBe_51 : decode cX10_canBe 51 = .ok (.land, 1) := by decide +kernel
theorem dX10_canBe_52 : decode cX10_canBe 52 = .ok (.lconst 0, 1) := by decide +kernel
theorem dX10_canBe_53 : decode cX10_canBe 53 = .ok (.lcmp, 1) := by decide +kernel
theorem dX10_canBe_54 : decode cX10_canBe 54 = .ok (.ifCond .eq 7, 3) := by decide +kernel
theorem dX10_canBe_57 : decode cX10_canBe 57 = .ok (.iconst 1, 1) := by decide +kernel
theorem dX10_canBe_58 : decode cX10_canBe 58 = .ok (.goto 4, 3) := by decide +kernel
theorem dX10_canBe_61 : decode cX10_canBe 61 = .ok (.iconst 0, 1) := by decide +kernel
theorem dX10_canBe_62 : decode cX10_canBe 62 = .ok (.ireturn, 1) := by decide +kernel
theorem dX10_countDates_0 : decode cX10_countDates 0 = .ok (.iconst 0, 1) := by decide +kernel
theorem dX10_countDates_1 : decode cX10_countDates 1 = .ok (.istore 5, 2) := by decide +kernel
theorem dX10_countDates_3 : decode cX10_countDates 3 = .ok (.iconst (-1), 1) := by decide +kernel
theorem dX10_countDates_4 : decode cX10_countDates 4 = .ok (.istore 6, 2) := by decide +kernel
theorem dX10_countDates_6 : decode cX10_countDates 6 = .ok (.iconst (-1), 1) := by decide +kernel
theorem dX10_countDates_7 : decode cX10_countDates 7 = .ok (.istore 7, 2) := by decide +kernel
theorem dX10_countDates_9 : decode cX10_countDates 9 = .ok (.iconst 0, 1) := by decide +kernel
theorem dX10_countDates_10 : decode cX10_countDates 10 = .ok (.istore 8, 2) := by decide +kernel
theorem dX10_countDates_12 : decode cX10_countDates 12 = .ok (.iconst 0, 1) := by decide +kernel
theorem dX10_countDates_13 : decode cX10_countDates 13 = .ok (.istore 9, 2) := by decide +kernel
theorem dX10_countDates_15 : decode cX10_countDates 15 = .ok (.iload 9, 2) := by decide +kernel
theorem dX10_countDates_17 : decode cX10_countDates 17 = .ok (.bipush 100, 2) := by decide +kernel
theorem dX10_countDates_19 : decode cX10_countDates 19 = .ok (.if_icmp .ge 76, 3) := by decide +kernel
theorem dX10_countDates_22 : decode cX10_countDates 22 = .ok (.iload 9, 2) := by decide +kernel
theorem dX10_countDates_24 : decode cX10_countDates 24 = .ok (.ifCond .eq 19, 3) := by decide +kernel
theorem dX10_countDates_27 : decode cX10_countDates 27 = .ok (.aload_n 0, 1) := by decide +kernel
theorem dX10_countDates_28 : decode cX10_countDates 28 = .ok (.getfield 25, 3) := by decide +kernel
theorem dX10_countDates_31 : decode cX10_countDates 31 = .ok (.getfield 51, 3) := by decide +kernel
theorem dX10_countDates_34 : decode cX10_countDates 34 = .ok (.getfield 97, 3) := by decide +kernel
theorem dX10_countDates_37 : decode cX10_countDates 37 = .ok (.getfield 101, 3) := by decide +kernel
theorem dX10_countDates_40 : decode cX10_countDates 40 = .ok (.ifCond .eq 22, 3) := by decide +kernel
theorem dX10_countDates_43 : decode cX10_countDates 43 = .ok (.aload_n 0, 1) := by decide +kernel
theorem dX10_countDates_44 : decode cX10_countDates 44 = .ok (.getfield 25, 3) := by decide +kernel
theorem dX10_countDates_47 : decode cX10_countDates 47 = .ok (.iload 9, 2) := by decide +kernel
theorem dX10_countDates_49 : decode cX10_countDates 49 = .ok (.invokevirtual 107, 3) := by decide +kernel
theorem dX10_countDates_52 : decode cX10_countDates 52 = .ok (.aload_n 0, 1) := by decide +kernel
theorem dX10_countDates_53 : decode cX10_countDates 53 = .ok (.iload_n 1, 1) := by decide +kernel
theorem dX10_countDates_54 : decode cX10_countDates 54 = .ok (.iload_n 2, 1) := by decide +kernel
theorem dX10_countDates_55 : decode cX10_countDates 55 = .ok (.iload_n 3, 1) := by decide +kernel
theorem dX10_countDates_56 : decode cX10_countDates 56 = .ok (.iconst 0, 1) := by decide +kernel
theorem dX10_countDates_57 : decode cX10_countDates 57 = .ok (.invokevirtual 86, 3) := by decide +kernel
theorem dX10_countDates_60 : decode cX10_countDates 60 = .ok (.istore 8, 2) := by decide +kernel
theorem dX10_countDates_62 : decode cX10_countDates 62 = .ok (.iload 8, 2) := by decide +kernel
theorem dX10_countDates_64 : decode cX10_countDates 64 = .ok (.ifCond .eq 25, 3) := by decide +kernel
theorem dX10_countDates_67 : decode cX10_countDates 67 = .ok (.iinc 5 1, 3) := by decide +kernel
theorem dX10_countDates_70 : decode cX10_countDates 70 = .ok (.iload 6, 2) := by decide +kernel
theorem dX10_countDates_72 : decode cX10_countDates 72 = .ok (.iconst (-1), 1) := by decide +kernel
theorem dX10_countDates_73 : decode cX10_countDates 73 = .ok (.if_icmp .ne 8, 3) := by decide +kernel
theorem dX10_countDates_76 : decode cX10_countDates 76 = .ok (.iload 9, 2) := by decide +kernel
theorem dX10_countDates_78 : decode cX10_countDates 78 = .ok (.goto 5, 3) := by decide +kernel
theorem dX10_countDates_81 : decode cX10_countDates 81 = .ok (.iload 6, 2) := by decide +kernel
theorem dX10_countDates_83 : decode cX10_countDates 83 = .ok (.istore 6, 2) := by decide +kernel
theorem dX10_countDates_85 : decode cX10_countDates 85 = .ok (.iload 9, 2) := by decide +kernel
theorem dX10_countDates_87 : decode cX10_countDates 87 = .ok (.istore 7, 2) := by decide +kernel
theorem dX10_countDates_89 : decode cX10_countDates 89 = .ok (.iinc 9 1, 3) := by decide +kernel
theorem dX10_countDates_92 : decode cX10_countDates 92 = .ok (.goto (-77), 3) := by decide +kernel
theorem dX10_countDates_95 : decode cX10_countDates 95 = .ok (.iload 4, 2) := by decide +kernel
theorem dX10_countDates_97 : decode cX10_countDates 97 = .ok (.ifCond .ne 8, 3) := by decide +kernel
theorem dX10_countDates_100 : decode cX10_countDates 100 = .ok (.iload 5, 2) := by decide +kernel
theorem dX10_countDates_102 : decode cX10_countDates 102 = .ok (.goto 16, 3) := by decide +kernel
theorem dX10_countDates_105 : decode cX10_countDates 105 = .ok (.iload 4, 2) := by decide +kernel
theorem dX10_countDates_107 : decode cX10_countDates 107 = .ok (.iconst 1, 1) := by decide +kernel
theorem dX10_countDates_108 : decode cX10_countDates 108 = .ok (.if_icmp .ne 8, 3) := by decide +kernel
theorem dX10_countDates_111 : decode cX10_countDates 111 = .ok (.iload 6, 2) := by decide +kernel
theorem dX10_countDates_113 : decode cX10_countDates 113 = .ok (.goto 5, 3) := by decide +kernel
theorem dX10_countDates_116 : decode cX10_countDates 116 = .ok (.iload 7, 2) := by decide +kernel
theorem dX10_countDates_118 : decode cX10_countDates 118 = .ok (.ireturn, 1) := by decide +kernel
theorem dX10_weighOdds_0 : decode cX10_weighOdds 0 = .ok (.aload_n 0, 1) := by decide +kernel
theorem dX10_weighOdds_1 : decode cX10_weighOdds 1 = .ok (.getfield 25, 3) := by decide +kernel
theorem dX10_weighOdds_4 : decode cX10_weighOdds 4 = .ok (.getfield 51, 3) := by decide +kernel
theorem dX10_weighOdds_7 : decode cX10_weighOdds 7 = .ok (.getfield 110, 3) := by decide +kernel
theorem dX10_weighOdds_10 : decode cX10_weighOdds 10 = .ok (.istore 4, 2) := by decide +kernel
theorem dX10_weighOdds_12 : decode cX10_weighOdds 12 = .ok (.aload_n 0, 1) := by decide +kernel
theorem dX10_weighOdds_13 : decode cX10_weighOdds 13 = .ok (.getfield 25, 3) := by decide +kernel
theorem dX10_weighOdds_16 : decode cX10_weighOdds 16 = .ok (.invokevirtual 113, 3) := by decide +kernel
theorem dX10_weighOdds_19 : decode cX10_weighOdds 19 = .ok (.istore 5, 2) := by decide +kernel
theorem dX10_weighOdds_21 : decode cX10_weighOdds 21 = .ok (.aload_n 0, 1) := by decide +kernel
theorem dX10_weighOdds_22 : decode cX10_weighOdds 22 = .ok (.getfield 19, 3) := by decide +kernel
theorem dX10_weighOdds_25 : decode cX10_weighOdds 25 = .ok (.lconst 0, 1) := by decide +kernel
theorem dX10_weighOdds_26 : decode cX10_weighOdds 26 = .ok (.invokestatic 117, 3) := by decide +kernel
theorem dX10_weighOdds_29 : decode cX10_weighOdds 29 = .ok (.aload_n 0, 1) := by decide +kernel
theorem dX10_weighOdds_30 : decode cX10_weighOdds 30 = .ok (.getfield 19, 3) := by decide +kernel
theorem dX10_weighOdds_33 : decode cX10_weighOdds 33 = .ok (.iload_n 2, 1) := by decide +kernel
theorem dX10_weighOdds_34 : decode cX10_weighOdds 34 = .ok (.lconst 1, 1) := by decide +kernel
theorem dX10_weighOdds_35 : decode cX10_weighOdds 35 = .ok (.lastore, 1) := by decide +kernel
theorem dX10_weighOdds_36 : decode cX10_weighOdds 36 = .ok (.aload_n 0, 1) := by decide +kernel
theorem dX10_weighOdds_37 : decode cX10_weighOdds 37 = .ok (.lconst 1, 1) := by decide +kernel
theorem dX10_weighOdds_38 : decode cX10_weighOdds 38 = .ok (.putfield 123, 3) := by decide +kernel
theorem dX10_weighOdds_41 : decode cX10_weighOdds 41 = .ok (.iload_n 3, 1) := by decide +kernel
theorem dX10_weighOdds_42 : decode cX10_weighOdds 42 = .ok (.iconst 1, 1) := by decide +kernel
theorem dX10_weighOdds_43 : decode cX10_weighOdds 43 = .ok (.isub, 1) := by decide +kernel
theorem dX10_weighOdds_44 : decode cX10_weighOdds 44 = .ok (.istore 6, 2) := by decide +kernel
theorem dX10_weighOdds_46 : decode cX10_weighOdds 46 = .ok (.iload 6, 2) := by decide +kernel
theorem dX10_weighOdds_48 : decode cX10_weighOdds 48 = .ok (.ifCond .lt 80, 3) := by decide +kernel
theorem dX10_weighOdds_51 : decode cX10_weighOdds 51 = .ok (.aload_n 0, 1) := by decide +kernel
theorem dX10_weighOdds_52 : decode cX10_weighOdds 52 = .ok (.getfield 22, 3) := by decide +kernel
theorem dX10_weighOdds_55 : decode cX10_weighOdds 55 = .ok (.lconst 0, 1) := by decide +kernel
theorem dX10_weighOdds_56 : decode cX10_weighOdds 56 = .ok (.invokestatic 117, 3) := by decide +kernel
theorem dX10_weighOdds_59 : decode cX10_weighOdds 59 = .ok (.aload_n 0, 1) := by decide +kernel
theorem dX10_weighOdds_60 : decode cX10_weighOdds 60 = .ok (.getfield 25, 3) := by decide +kernel
theorem dX10_weighOdds_63 : decode cX10_weighOdds 63 = .ok (.iconst 1, 1) := by decide +kernel
theorem dX10_weighOdds_64 : decode cX10_weighOdds 64 = .ok (.invokevirtual 126, 3) := by decide +kernel
theorem dX10_weighOdds_67 : decode cX10_weighOdds 67 = .ok (.aload_n 0, 1) := by decide +kernel
theorem dX10_weighOdds_68 : decode cX10_weighOdds 68 = .ok (.iload 6, 2) := by decide +kernel
theorem dX10_weighOdds_70 : decode cX10_weighOdds 70 = .ok (.iload 4, 2) := by decide +kernel
theorem dX10_weighOdds_72 : decode cX10_weighOdds 72 = .ok (.invokevirtual 130, 3) := by decide +kernel
theorem dX10_weighOdds_75 : decode cX10_weighOdds 75 = .ok (.aload_n 0, 1) := by decide +kernel
theorem dX10_weighOdds_76 : decode cX10_weighOdds 76 = .ok (.getfield 25, 3) := by decide +kernel
theorem dX10_weighOdds_79 : decode cX10_weighOdds 79 = .ok (.iload 5, 2) := by decide +kernel
theorem dX10_weighOdds_81 : decode cX10_weighOdds 81 = .ok (.invokevirtual 126, 3) := by decide +kernel
theorem dX10_weighOdds_84 : decode cX10_weighOdds 84 = .ok (.aload_n 0, 1) := by decide +kernel
theorem dX10_weighOdds_85 : decode cX10_weighOdds 85 = .ok (.iload 6, 2) := by decide +kernel
theorem dX10_weighOdds_87 : decode cX10_weighOdds 87 = .ok (.bipush 100, 2) := by decide +kernel
theorem dX10_weighOdds_89 : decode cX10_weighOdds 89 = .ok (.iload 4, 2) := by decide +kernel
theorem dX10_weighOdds_91 : decode cX10_weighOdds 91 = .ok (.isub, 1) := by decide +kernel
theorem dX10_weighOdds_92 : decode cX10_weighOdds 92 = .ok (.invokevirtual 130, 3) := by decide +kernel
theorem dX10_weighOdds_95 : decode cX10_weighOdds 95 = .ok (.aload_n 0, 1) := by decide +kernel
theorem dX10_weighOdds_96 : decode cX10_weighOdds 96 = .ok (.getfield 22, 3) := by decide +kernel
theorem dX10_weighOdds_99 : decode cX10_weighOdds 99 = .ok (.iconst 0, 1) := by decide +kernel
theorem dX10_weighOdds_100 : decode cX10_weighOdds 100 = .ok (.aload_n 0, 1) := by decide +kernel
theorem dX10_weighOdds_101 : decode cX10_weighOdds 101 = .ok (.getfield 19, 3) := by decide +kernel
theorem dX10_weighOdds_104 : decode cX10_weighOdds 104 = .ok (.iconst 0, 1) := by decide +kernel
theorem dX10_weighOdds_105 : decode cX10_weighOdds 105 = .ok (.bipush 64, 2) := by decide +kernel
theorem dX10_weighOdds_107 : decode cX10_weighOdds 107 = .ok (.invokestatic 134, 3) := by decide +kernel
theorem dX10_weighOdds_110 : decode cX10_weighOdds 110 = .ok (.aload_n 0, 1) := by decide +kernel
theorem dX10_weighOdds_111 : decode cX10_weighOdds 111 = .ok (.dup, 1) := by decide +kernel
theorem dX10_weighOdds_112 : decode cX10_weighOdds 112 = .ok (.getfield 123, 3) := by decide +kernel
theorem dX10_weighOdds_115 : decode cX10_weighOdds 115 = .ok (.ldc2_w 140, 3) := by decide +kernel
theorem dX10_weighOdds_118 : decode cX10_weighOdds 118 = .ok (.lmul, 1) := by decide +kernel
theorem dX10_weighOdds_119 : decode cX10_weighOdds 119 = .ok (.putfield 123, 3) := by decide +kernel
theorem dX10_weighOdds_122 : decode cX10_weighOdds 122 = .ok (.iinc 6 (-1), 3) := by decide +kernel
theorem dX10_weighOdds_125 : decode cX10_weighOdds 125 = .ok (.goto (-79), 3) := by decide +kernel
theorem dX10_weighOdds_128 : decode cX10_weighOdds 128 = .ok (.aload_n 0, 1) := by decide +kernel
theorem dX10_weighOdds_129 : decode cX10_weighOdds 129 = .ok (.aload_n 0, 1) := by decide +kernel
theorem dX10_weighOdds_130 : decode cX10_weighOdds 130 = .ok (.getfield 19, 3) := by decide +kernel
theorem dX10_weighOdds_133 : decode cX10_weighOdds 133 = .ok (.iload_n 1, 1) := by decide +kernel
theorem dX10_weighOdds_134 : decode cX10_weighOdds 134 = .ok (.laload, 1) := by decide +kernel
theorem dX10_weighOdds_135 : decode cX10_weighOdds 135 = .ok (.putfield 142, 3) := by decide +kernel
theorem dX10_weighOdds_138 : decode cX10_weighOdds 138 = .ok (.aload_n 0, 1) := by decide +kernel
theorem dX10_weighOdds_139 : decode cX10_weighOdds 139 = .ok (.getfield 142, 3) := by decide +kernel
theorem dX10_weighOdds_142 : decode cX10_weighOdds 142 = .ok (.aload_n 0, 1) := by decide +kernel
theorem dX10_weighOdds_143 : decode cX10_weighOdds 143 = .ok (.getfield 123, 3) := by decide +kernel
theorem dX10_weighOdds_146 : decode cX10_weighOdds 146 = .ok (.invokestatic 145, 3) := by decide +kernel
theorem dX10_weighOdds_149 : decode cX10_weighOdds 149 = .ok (.lstore 6, 2) := by decide +kernel
theorem dX10_weighOdds_151 : decode cX10_weighOdds 151 = .ok (.lload 6, 2) := by decide +kernel
theorem dX10_weighOdds_153 : decode cX10_weighOdds 153 = .ok (.lconst 1, 1) := by decide +kernel
theorem dX10_weighOdds_154 : decode cX10_weighOdds 154 = .ok (.lcmp, 1) := by decide +kernel
theorem dX10_weighOdds_155 : decode cX10_weighOdds 155 = .ok (.ifCond .le 25, 3) := by decide +kernel
theorem dX10_weighOdds_158 : decode cX10_weighOdds 158 = .ok (.aload_n 0, 1) := by decide +kernel
theorem dX10_weighOdds_159 : decode cX10_weighOdds 159 = .ok (.dup, 1) := by decide +kernel
theorem dX10_weighOdds_160 : decode cX10_weighOdds 160 = .ok (.getfield 142, 3) := by decide +kernel
theorem dX10_weighOdds_163 : decode cX10_weighOdds 163 = .ok (.lload 6, 2) := by decide +kernel
theorem dX10_weighOdds_165 : decode cX10_weighOdds 165 = .ok (.ldiv, 1) := by decide +kernel
theorem dX10_weighOdds_166 : decode cX10_weighOdds 166 = .ok (.putfield 142, 3) := by decide +kernel
theorem dX10_weighOdds_169 : decode cX10_weighOdds 169 = .ok (.aload_n 0, 1) := by decide +kernel
theorem dX10_weighOdds_170 : decode cX10_weighOdds 170 = .ok (.dup, 1) := by decide +kernel
theorem dX10_weighOdds_171 : decode cX10_weighOdds 171 = .ok (.getfield 123, 3) := by decide +kernel
theorem dX10_weighOdds_174 : decode cX10_weighOdds 174 = .ok (.lload 6, 2) := by decide +kernel
theorem dX10_weighOdds_176 : decode cX10_weighOdds 176 = .ok (.ldiv, 1) := by decide +kernel
theorem dX10_weighOdds_177 : decode cX10_weighOdds 177 = .ok (.putfield 123, 3) := by decide +kernel
theorem dX10_weighOdds_180 : decode cX10_weighOdds 180 = .ok (.return_, 1) := by decide +kernel
theorem dX10_addBest_0 : decode cX10_addBest 0 = .ok (.iload_n 2, 1) := by decide +kernel
theorem dX10_addBest_1 : decode cX10_addBest 1 = .ok (.ifCond .ne 4, 3) := by decide +kernel
theorem dX10_addBest_4 : decode cX10_addBest 4 = .ok (.return_, 1) := by decide +kernel
theorem dX10_addBest_5 : decode cX10_addBest 5 = .ok (.iconst 0, 1) := by decide +kernel
theorem dX10_addBest_6 : decode cX10_addBest 6 = .ok (.istore_n 3, 1) := by decide +kernel
theorem dX10_addBest_7 : decode cX10_addBest 7 = .ok (.iload_n 3, 1) := by decide +kernel
theorem dX10_addBest_8 : decode cX10_addBest 8 = .ok (.aload_n 0, 1) := by decide +kernel
theorem dX10_addBest_9 : decode cX10_addBest 9 = .ok (.getfield 25, 3) := by decide +kernel
theorem dX10_addBest_12 : decode cX10_addBest 12 = .ok (.getfield 51, 3) := by decide +kernel
theorem dX10_addBest_15 : decode cX10_addBest 15 = .ok (.getfield 149, 3) := by decide +kernel
theorem dX10_addBest_18 : decode cX10_addBest 18 = .ok (.if_icmp .ge 51, 3) := by decide +kernel
theorem dX10_addBest_21 : decode cX10_addBest 21 = .ok (.aload_n 0, 1) := by decide +kernel
theorem dX10_addBest_22 : decode cX10_addBest 22 = .ok (.getfield 25, 3) := by decide +kernel
theorem dX10_addBest_25 : decode cX10_addBest 25 = .ok (.getfield 51, 3) := by decide +kernel
theorem dX10_addBest_28 : decode cX10_addBest 28 = .ok (.iload_n 3, 1) := by decide +kernel
theorem dX10_addBest_29 : decode cX10_addBest 29 = .ok (.invokevirtual 152, 3) := by decide +kernel
theorem dX10_addBest_32 : decode cX10_addBest 32 = .ok (.ifCond .eq 31, 3) := by decide +kernel
theorem dX10_addBest_35 : decode cX10_addBest 35 = .ok (.aload_n 0, 1) := by decide +kernel
theorem dX10_addBest_36 : decode cX10_addBest 36 = .ok (.getfield 22, 3) := by decide +kernel
theorem dX10_addBest_39 : decode cX10_addBest 39 = .ok (.iload_n 3, 1) := by decide +kernel
theorem dX10_addBest_40 : decode cX10_addBest 40 = .ok (.dup2, 1) := by decide +kernel
theorem dX10_addBest_41 : decode cX10_addBest 41 = .ok (.laload, 1) := by decide +kernel
theorem dX10_addBest_42 : decode cX10_addBest 42 = .ok (.iload_n 2, 1) := by decide +kernel
theorem dX10_addBest_43 : decode cX10_addBest 43 = .ok (.i2l, 1) := by decide +kernel
theorem dX10_addBest_44 : decode cX10_addBest 44 = .ok (.aload_n 0, 1) := by decide +kernel
theorem dX10_addBest_45 : decode cX10_addBest 45 = .ok (.aload_n 0, 1) := by decide +kernel
theorem dX10_addBest_46 : decode cX10_addBest 46 = .ok (.getfield 25, 3) := by decide +kernel
theorem dX10_addBest_49 : decode cX10_addBest 49 = .ok (.lconst 1, 1) := by decide +kernel
theorem dX10_addBest_50 : decode cX10_addBest 50 = .ok (.iload_n 3, 1) := by decide +kernel
theorem dX10_addBest_51 : decode cX10_addBest 51 = .ok (.lshl, 1) := by decide +kernel
theorem dX10_addBest_52 : decode cX10_addBest 52 = .ok (.iload_n 1, 1) := by decide +kernel
theorem dX10_addBest_53 : decode cX10_addBest 53 = .ok (.iconst 0, 1) := by decide +kernel
theorem dX10_addBest_54 : decode cX10_addBest 54 = .ok (.invokevirtual 33, 3) := by decide +kernel
theorem dX10_addBest_57 : decode cX10_addBest 57 = .ok (.invokevirtual 156, 3) := by decide +kernel
theorem dX10_addBest_60 : decode cX10_addBest 60 = .ok (.lmul, 1) := by decide +kernel
theorem dX10_addBest_61 : decode cX10_addBest 61 = .ok (.ladd, 1) := by decide +kernel
theorem dX10_addBest_62 : decode cX10_addBest 62 = .ok (.lastore, 1) := by decide +kernel
theorem dX10_addBest_63 : decode cX10_addBest 63 = .ok (.iinc 3 1, 3) := by decide +kernel
theorem dX10_addBest_66 : decode cX10_addBest 66 = .ok (.goto (-59), 3) := by decide +kernel
theorem dX10_addBest_69 : decode cX10_addBest 69 = .ok (.return_, 1) := by decide +kernel
theorem dX10_bestOf_0 : decode cX10_bestOf 0 = .ok (.lconst 0, 1) := by decide +kernel
theorem dX10_bestOf_1 : decode cX10_bestOf 1 = .ok (.lstore_n 3, 1) := by decide +kernel
theorem dX10_bestOf_2 : decode cX10_bestOf 2 = .ok (.lload_n 1, 1) := by decide +kernel
theorem dX10_bestOf_3 : decode cX10_bestOf 3 = .ok (.lstore 5, 2) := by decide +kernel
theorem dX10_bestOf_5 : decode cX10_bestOf 5 = .ok (.iconst 0, 1) := by decide +kernel
theorem dX10_bestOf_6 : decode cX10_bestOf 6 = .ok (.istore 7, 2) := by decide +kernel
theorem dX10_bestOf_8 : decode cX10_bestOf 8 = .ok (.iload 7, 2) := by decide +kernel
theorem dX10_bestOf_10 : decode cX10_bestOf 10 = .ok (.bipush 64, 2) := by decide +kernel
theorem dX10_bestOf_12 : decode cX10_bestOf 12 = .ok (.if_icmp .ge 40, 3) := by decide +kernel
theorem dX10_bestOf_15 : decode cX10_bestOf 15 = .ok (.lload 5, 2) := by decide +kernel
theorem dX10_bestOf_17 : decode cX10_bestOf 17 = .ok (.lconst 0, 1) := by decide +kernel
theorem dX10_bestOf_18 : decode cX10_bestOf 18 = .ok (.lcmp, 1) := by decide +kernel
theorem dX10_bestOf_19 : decode cX10_bestOf 19 = .ok (.ifCond .eq 33, 3) := by decide +kernel
theorem dX10_bestOf_22 : decode cX10_bestOf 22 = .ok (.lload_n 3, 1) := by decide +kernel
theorem dX10_bestOf_23 : decode cX10_bestOf 23 = .ok (.aload_n 0, 1) := by decide +kernel
theorem dX10_bestOf_24 : decode cX10_bestOf 24 = .ok (.getfield 19, 3) := by decide +kernel
theorem dX10_bestOf_27 : decode cX10_bestOf 27 = .ok (.lload 5, 2) := by decide +kernel
theorem dX10_bestOf_29 : decode cX10_bestOf 29 = .ok (.invokestatic 39, 3) := by decide +kernel
theorem dX10_bestOf_32 : decode cX10_bestOf 32 = .ok (.laload, 1) := by decide +kernel
theorem dX10_bestOf_33 : decode cX10_bestOf 33 = .ok (.invokestatic 159, 3) := by decide +kernel
theorem dX10_bestOf_36 : decode cX10_bestOf 36 = .ok (.lstore_n 3, 1) := by decide +kernel
theorem dX10_bestOf_37 : decode cX10_bestOf 37 = .ok (.lload 5, 2) := by decide +kernel
theorem dX10_bestOf_39 : decode cX10_bestOf 39 = .ok (.lload 5, 2) := by decide +kernel
theorem dX10_bestOf_41 : decode cX10_bestOf 41 = .ok (.lconst 1, 1) := by decide +kernel
theorem dX10_bestOf_42 : decode cX10_bestOf 42 = .ok (.lsub, 1) := by decide +kernel
theorem dX10_bestOf_43 : decode cX10_bestOf 43 = .ok (.land, 1) := by decide +kernel
theorem dX10_bestOf_44 : decode cX10_bestOf 44 = .ok (.lstore 5, 2) := by decide +kernel
theorem dX10_bestOf_46 : decode cX10_bestOf 46 = .ok (.iinc 7 1, 3) := by decide +kernel
theorem dX10_bestOf_49 : decode cX10_bestOf 49 = .ok (.goto (-41), 3) := by decide +kernel
theorem dX10_bestOf_52 : decode cX10_bestOf 52 = .ok (.lload_n 3, 1) := by decide +kernel
theorem dX10_bestOf_53 : decode cX10_bestOf 53 = .ok (.lreturn, 1) := by decide +kernel
theorem dX10_commonDivisor_0 : decode cX10_commonDivisor 0 = .ok (.lload_n 2, 1) := by decide +kernel
theorem dX10_commonDivisor_1 : decode cX10_commonDivisor 1 = .ok (.lstore 4, 2) := by decide +kernel
theorem dX10_commonDivisor_3 : decode cX10_commonDivisor 3 = .ok (.lload_n 0, 1) := by decide +kernel
theorem dX10_commonDivisor_4 : decode cX10_commonDivisor 4 = .ok (.lstore 6, 2) := by decide +kernel
theorem dX10_commonDivisor_6 : decode cX10_commonDivisor 6 = .ok (.iconst 0, 1) := by decide +kernel
theorem dX10_commonDivisor_7 : decode cX10_commonDivisor 7 = .ok (.istore 8, 2) := by decide +kernel
theorem dX10_commonDivisor_9 : decode cX10_commonDivisor 9 = .ok (.iload 8, 2) := by decide +kernel
theorem dX10_commonDivisor_11 : decode cX10_commonDivisor 11 = .ok (.sipush 200, 3) := by decide +kernel
theorem dX10_commonDivisor_14 : decode cX10_commonDivisor 14 = .ok (.if_icmp .ge 31, 3) := by decide +kernel
theorem dX10_commonDivisor_17 : decode cX10_commonDivisor 17 = .ok (.lload 6, 2) := by decide +kernel
theorem dX10_commonDivisor_19 : decode cX10_commonDivisor 19 = .ok (.lconst 0, 1) := by decide +kernel
theorem dX10_commonDivisor_20 : decode cX10_commonDivisor 20 = .ok (.lcmp, 1) := by decide +kernel
theorem dX10_commonDivisor_21 : decode cX10_commonDivisor 21 = .ok (.ifCond .eq 24, 3) := by decide +kernel
theorem dX10_commonDivisor_24 : decode cX10_commonDivisor 24 = .ok (.lload 4, 2) := by decide +kernel
theorem dX10_commonDivisor_26 : decode cX10_commonDivisor 26 = .ok (.lload 6, 2) := by decide +kernel
theorem dX10_commonDivisor_28 : decode cX10_commonDivisor 28 = .ok (.lrem, 1) := by decide +kernel
theorem dX10_commonDivisor_29 : decode cX10_commonDivisor 29 = .ok (.lstore 9, 2) := by decide +kernel
theorem dX10_commonDivisor_31 : decode cX10_commonDivisor 31 = .ok (.lload 6, 2) := by decide +kernel
theorem dX10_commonDivisor_33 : decode cX10_commonDivisor 33 = .ok (.lstore 4, 2) := by decide +kernel
theorem dX10_commonDivisor_35 : decode cX10_commonDivisor 35 = .ok (.lload 9, 2) := by decide +kernel
theorem dX10_commonDivisor_37 : decode cX10_commonDivisor 37 = .ok (.lstore 6, 2) := by decide +kernel
theorem dX10_commonDivisor_39 : decode cX10_commonDivisor 39 = .ok (.iinc 8 1, 3) := by decide +kernel
theorem dX10_commonDivisor_42 : decode cX10_commonDivisor 42 = .ok (.goto (-33), 3) := by decide +kernel
theorem dX10_commonDivisor_45 : decode cX10_commonDivisor 45 = .ok (.lload 4, 2) := by decide +kernel
theorem dX10_commonDivisor_47 : decode cX10_commonDivisor 47 = .ok (.lreturn, 1) := by decide +kernel
theorem dX11_init_0 : decode cX11_init 0 = .ok (.aload_n 0, 1) := by decide +kernel
theorem dX11_init_1 : decode cX11_init 1 = .ok (.invokespecial 3, 3) := by decide +kernel
theorem dX11_init_4 : decode cX11_init 4 = .ok (.aload_n 0, 1) := by decide +kernel
theorem dX11_init_5 : decode cX11_init 5 = .ok (.sipush 1600, 3) := by decide +kernel
theorem dX11_init_8 : decode cX11_init 8 = .ok (.newarray .byte, 2) := by decide +kernel
theorem dX11_init_10 : decode cX11_init 10 = .ok (.putfield 9, 3) := by decide +kernel
theorem dX11_init_13 : decode cX11_init 13 = .ok (.aload_n 0, 1) := by decide +kernel
theorem dX11_init_14 : decode cX11_init 14 = .ok (.new 13, 3) := by decide +kernel
theorem dX11_init_17 : decode cX11_init 17 = .ok (.dup, 1) := by decide +kernel
theorem dX11_init_18 : decode cX11_init 18 = .ok (.invokespecial 15, 3) := by decide +kernel
theorem dX11_init_21 : decode cX11_init 21 = .ok (.putfield 16, 3) := by decide +kernel
theorem dX11_init_24 : decode cX11_init 24 = .ok (.aload_n 0, 1) := by decide +kernel
theorem dX11_init_25 : decode cX11_init 25 = .ok (.new 13, 3) := by decide +kernel
theorem dX11_init_28 : decode cX11_init 28 = .ok (.dup, 1) := by decide +kernel
theorem dX11_init_29 : decode cX11_init 29 = .ok (.invokespecial 15, 3) := by decide +kernel
theorem dX11_init_32 : decode cX11_init 32 = .ok (.putfield 20, 3) := by decide +kernel
theorem dX11_init_35 : decode cX11_init 35 = .ok (.aload_n 0, 1) := by decide +kernel
theorem dX11_init_36 : decode cX11_init 36 = .ok (.new 23, 3) := by decide +kernel
theorem dX11_init_39 : decode cX11_init 39 = .ok (.dup, 1) := by decide +kernel
theorem dX11_init_40 : decode cX11_init 40 = .ok (.new 25, 3) := by decide +kernel
theorem dX11_init_43 : decode cX11_init 43 = .ok (.dup, 1) := by decide +kernel
theorem dX11_init_44 : decode cX11_init 44 = .ok (.aload_n 0, 1) := by decide +kernel
theorem dX11_init_45 : decode cX11_init 45 = .ok (.getfield 9, 3) := by decide +kernel
theorem dX11_init_48 : decode cX11_init 48 = .ok (.invokespecial 27, 3) := by decide +kernel
theorem dX11_init_51 : decode cX11_init 51 = .ok (.aload_n 0, 1) := by decide +kernel
theorem dX11_init_52 : decode cX11_init 52 = .ok (.getfield 20, 3) := by decide +kernel
theorem dX11_init_55 : decode cX11_init 55 = .ok (.invokespecial 30, 3) := by decide +kernel
theorem dX11_init_58 : decode cX11_init 58 = .ok (.putfield 33, 3) := by decide +kernel
theorem dX11_init_61 : decode cX11_init 61 = .ok (.aload_n 0, 1) := by decide +kernel
theorem dX11_init_62 : decode cX11_init 62 = .ok (.new 37, 3) := by decide +kernel
theorem dX11_init_65 : decode cX11_init 65 = .ok (.dup, 1) := by decide +kernel
theorem dX11_init_66 : decode cX11_init 66 = .ok (.invokespecial 39, 3) := by decide +kernel
theorem dX11_init_69 : decode cX11_init 69 = .ok (.putfield 40, 3) := by decide +kernel
theorem dX11_init_72 : decode cX11_init 72 = .ok (.aload_n 0, 1) := by decide +kernel
theorem dX11_init_73 : decode cX11_init 73 = .ok (.getfield 40, 3) := by decide +kernel
theorem dX11_init_76 : decode cX11_init 76 = .ok (.aload_n 0, 1) := by decide +kernel
theorem dX11_init_77 : decode cX11_init 77 = .ok (.getfield 16, 3) := by decide +kernel
theorem dX11_init_80 : decode cX11_init 80 = .ok (.invokevirtual 44, 3) := by decide +kernel
theorem dX11_init_83 : decode cX11_init 83 = .ok (.aload_n 0, 1) := by decide +kernel
theorem dX11_init_84 : decode cX11_init 84 = .ok (.new 48, 3) := by decide +kernel
theorem dX11_init_87 : decode cX11_init 87 = .ok (.dup, 1) := by decide +kernel
theorem dX11_init_88 : decode cX11_init 88 = .ok (.invokespecial 50, 3) := by decide +kernel
theorem dX11_init_91 : decode cX11_init 91 = .ok (.putfield 51, 3) := by decide +kernel
theorem dX11_init_94 : decode cX11_init 94 = .ok (.aload_n 0, 1) := by decide +kernel
theorem dX11_init_95 : decode cX11_init 95 = .ok (.getfield 51, 3) := by decide +kernel
theorem dX11_init_98 : decode cX11_init 98 = .ok (.aload_n 0, 1) := by decide +kernel
theorem dX11_init_99 : decode cX11_init 99 = .ok (.getfield 40, 3) := by decide +kernel
theorem dX11_init_102 : decode cX11_init 102 = .ok (.invokevirtual 55, 3) := by decide +kernel
theorem dX11_init_105 : decode cX11_init 105 = .ok (.invokevirtual 59, 3) := by decide +kernel
theorem dX11_init_108 : decode cX11_init 108 = .ok (.aload_n 0, 1) := by decide +kernel
theorem dX11_init_109 : decode cX11_init 109 = .ok (.iconst 3, 1) := by decide +kernel
theorem dX11_init_110 : decode cX11_init 110 = .ok (.newarray .long, 2) := by decide +kernel
theorem dX11_init_112 : decode cX11_init 112 = .ok (.putfield 62, 3) := by decide +kernel
theorem dX11_init_115 : decode cX11_init 115 = .ok (.aload_n 0, 1) := by decide +kernel
theorem dX11_init_116 : decode cX11_init 116 = .ok (.new 66, 3) := by decide +kernel
theorem dX11_init_119 : decode cX11_init 119 = .ok (.dup, 1) := by decide +kernel
theorem dX11_init_120 : decode cX11_init 120 = .ok (.aload_n 0, 1) := by decide +kernel
theorem dX11_init_121 : decode cX11_init 121 = .ok (.getfield 16, 3) := by decide +kernel
theorem dX11_init_124 : decode cX11_init 124 = .ok (.invokespecial 68, 3) := by decide +kernel
theorem dX11_init_127 : decode cX11_init 127 = .ok (.putfield 70, 3) := by decide +kernel
theorem dX11_init_130 : decode cX11_init 130 = .ok (.aload_n 0, 1) := by decide +kernel
theorem dX11_init_131 : decode cX11_init 131 = .ok (.new 74, 3) := by decide +kernel
theorem dX11_init_134 : decode cX11_init 134 = .ok (.dup, 1) := by decide +kernel
theorem dX11_init_135 : decode cX11_init 135 = .ok (.aload_n 0, 1) := by decide +kernel
theorem dX11_init_136 : decode cX11_init 136 = .ok (.getfield 70, 3) := by decide +kernel
theorem dX11_init_139 : decode cX11_init 139 = .ok (.invokespecial 76, 3) := by decide +kernel
theorem dX11_init_142 : decode cX11_init 142 = .ok (.putfield 79, 3) := by decide +kernel
theorem dX11_init_145 : decode cX11_init 145 = .ok (.aload_n 0, 1) := by decide +kernel
theorem dX11_init_146 : decode cX11_init 146 = .ok (.new 83, 3) := by decide +kernel
theorem dX11_init_149 : decode cX11_init 149 = .ok (.dup, 1) := by decide +kernel
theorem dX11_init_150 : decode cX11_init 150 = .ok (.invokespecial 85, 3) := by decide +kernel
theorem dX11_init_153 : decode cX11_init 153 = .ok (.putfield 86, 3) := by decide +kernel
theorem dX11_init_156 : decode cX11_init 156 = .ok (.return_, 1) := by decide +kernel
theorem dX11_feed_0 : decode cX11_feed 0 = .ok (.aload_n 0, 1) := by decide +kernel
theorem dX11_feed_1 : decode cX11_feed 1 = .ok (.getfield 90, 3) := by decide +kernel
theorem dX11_feed_4 : decode cX11_feed 4 = .ok (.bipush 20, 2) := by decide +kernel
theorem dX11_feed_6 : decode cX11_feed 6 = .ok (.iadd, 1) := by decide +kernel
theorem dX11_feed_7 : decode cX11_feed 7 = .ok (.sipush 1600, 3) := by decide +kernel
theorem dX11_feed_10 : decode cX11_feed 10 = .ok (.if_icmp .le 5, 3) := by decide +kernel
theorem dX11_feed_13 : decode cX11_feed 13 = .ok (.iconst (-1), 1) := by decide +kernel
theorem dX11_feed_14 : decode cX11_feed 14 = .ok (.ireturn, 1) := by decide +kernel
theorem dX11_feed_15 : decode cX11_feed 15 = .ok (.aload_n 0, 1) := by decide +kernel
theorem dX11_feed_16 : decode cX11_feed 16 = .ok (.iload_n 1, 1) := by decide +kernel
theorem dX11_feed_17 : decode cX11_feed 17 = .ok (.invokevirtual 94, 3) := by decide +kernel
theorem dX11_feed_20 : decode cX11_feed 20 = .ok (.aload_n 0, 1) := by decide +kernel
theorem dX11_feed_21 : decode cX11_feed 21 = .ok (.iload_n 2, 1) := by decide +kernel
theorem dX11_feed_22 : decode cX11_feed 22 = .ok (.invokevirtual 94, 3) := by decide +kernel
theorem dX11_feed_25 : decode cX11_feed 25 = .ok (.aload_n 0, 1) := by decide +kernel
theorem dX11_feed_26 : decode cX11_feed 26 = .ok (.iload_n 3, 1) := by decide +kernel
theorem dX11_feed_27 : decode cX11_feed 27 = .ok (.invokevirtual 94, 3) := by decide +kernel
theorem dX11_feed_30 : decode cX11_feed 30 = .ok (.aload_n 0, 1) := by decide +kernel
theorem dX11_feed_31 : decode cX11_feed 31 = .ok (.iload 4, 2) := by decide +kernel
theorem dX11_feed_33 : decode cX11_feed 33 = .ok (.invokevirtual 94, 3) := by decide +kernel
theorem dX11_feed_36 : decode cX11_feed 36 = .ok (.aload_n 0, 1) := by decide +kernel
theorem dX11_feed_37 : decode cX11_feed 37 = .ok (.iload 5, 2) := by decide +kernel
theorem dX11_feed_39 : decode cX11_feed 39 = .ok (.invokevirtual 94, 3) := by decide +kernel
theorem dX11_feed_42 : decode cX11_feed 42 = .ok (.aload_n 0, 1) := by decide +kernel
theorem dX11_feed_43 : decode cX11_feed 43 = .ok (.getfield 90, 3) := by decide +kernel
theorem dX11_feed_46 : decode cX11_feed 46 = .ok (.ireturn, 1) := by decide +kernel
theorem dX11_putOnTape_0 : decode cX11_putOnTape 0 = .ok (.bipush 24, 2) := by decide +kernel
theorem dX11_putOnTape_2 : decode cX11_putOnTape 2 = .ok (.istore_n 2, 1) := by decide +kernel
theorem dX11_putOnTape_3 : decode cX11_putOnTape 3 = .ok (.iload_n 2, 1) := by decide +kernel
theorem dX11_putOnTape_4 : decode cX11_putOnTape 4 = .ok (.ifCond .lt 44, 3) := by decide +kernel
theorem dX11_putOnTape_7 : decode cX11_putOnTape 7 = .ok (.aload_n 0, 1) := by decide +kernel
theorem dX11_putOnTape_8 : decode cX11_putOnTape 8 = .ok (.getfield 90, 3) := by decide +kernel
theorem dX11_putOnTape_11 : decode cX11_putOnTape 11 = .ok (.aload_n 0, 1) := by decide +kernel
theorem dX11_putOnTape_12 : decode cX11_putOnTape 12 = .ok (.getfield 9, 3) := by decide +kernel
theorem dX11_putOnTape_15 : decode cX11_putOnTape 15 = .ok (.arraylength, 1) := by decide +kernel
theorem dX11_putOnTape_16 : decode cX11_putOnTape 16 = .ok (.if_icmp .ge 26, 3) := by decide +kernel
theorem dX11_putOnTape_19 : decode cX11_putOnTape 19 = .ok (.aload_n 0, 1) := by decide +kernel
theorem dX11_putOnTape_20 : decode cX11_putOnTape 20 = .ok (.getfield 9, 3) := by decide +kernel
theorem dX11_putOnTape_23 : decode cX11_putOnTape 23 = .ok (.aload_n 0, 1) := by decide +kernel
theorem dX11_putOnTape_24 : decode cX11_putOnTape 24 = .ok (.getfield 90, 3) := by decide +kernel
theorem dX11_putOnTape_27 : decode cX11_putOnTape 27 = .ok (.iload_n 1, 1) := by decide +kernel
theorem dX11_putOnTape_28 : decode cX11_putOnTape 28 = .ok (.iload_n 2, 1) := by decide +kernel
theorem dX11_putOnTape_29 : decode cX11_putOnTape 29 = .ok (.iushr, 1) := by decide +kernel
theorem dX11_putOnTape_30 : decode cX11_putOnTape 30 = .ok (.i2b, 1) := by decide +kernel
theorem dX11_putOnTape_31 : decode cX11_putOnTape 31 = .ok (.bastore, 1) := by decide +kernel
theorem dX11_putOnTape_32 : decode cX11_putOnTape 32 = .ok (.aload_n 0, 1) := by decide +kernel
theorem dX11_putOnTape_33 : decode cX11_putOnTape 33 = .ok (.dup, 1) := by decide +kernel
theorem dX11_putOnTape_34 : decode cX11_putOnTape 34 = .ok (.getfield 90, 3) := by decide +kernel
theorem dX11_putOnTape_37 : decode cX11_putOnTape 37 = .ok (.iconst 1, 1) := by decide +kernel
theorem dX11_putOnTape_38 : decode cX11_putOnTape 38 = .ok (.iadd, 1) := by decide +kernel
theorem dX11_putOnTape_39 : decode cX11_putOnTape 39 = .ok (.putfield 90, 3) := by decide +kernel
theorem dX11_putOnTape_42 : decode cX11_putOnTape 42 = .ok (.iinc 2 (-8), 3) := by decide +kernel
theorem dX11_putOnTape_45 : decode cX11_putOnTape 45 = .ok (.goto (-42), 3) := by decide +kernel
theorem dX11_putOnTape_48 : decode cX11_putOnTape 48 = .ok (.return_, 1) := by decide +kernel
theorem dX11_end_0 : decode cX11_end 0 = .ok (.iload_n 1, 1) := by decide +kernel
theorem dX11_end_1 : decode cX11_end 1 = .ok (.ifCond .lt 11, 3) := by decide +kernel
theorem dX11_end_4 : decode cX11_end 4 = .ok (.iload_n 1, 1) := by decide +kernel
theorem dX11_end_5 : decode cX11_end 5 = .ok (.aload_n 0, 1) := by decide +kernel
theorem dX11_end_6 : decode cX11_end 6 = .ok (.getfield 90, 3) := by decide +kernel
theorem dX11_end_9 : decode cX11_end 9 = .ok (.if_icmp .le 5, 3) := by decide +kernel
theorem dX11_end_12 : decode cX11_end 12 = .ok (.iconst (-1), 1) := by decide +kernel
theorem dX11_end_13 : decode cX11_end 13 = .ok (.ireturn, 1) := by decide +kernel
theorem dX11_end_14 : decode cX11_end 14 = .ok (.aload_n 0, 1) := by decide +kernel
theorem dX11_end_15 : decode cX11_end 15 = .ok (.iload_n 1, 1) := by decide +kernel
theorem dX11_end_16 : decode cX11_end 16 = .ok (.putfield 90, 3) := by decide +kernel
theorem dX11_end_19 : decode cX11_end 19 = .ok (.iload_n 1, 1) := by decide +kernel
theorem dX11_end_20 : decode cX11_end 20 = .ok (.ireturn, 1) := by decide +kernel
theorem dX11_quarter_0 : decode cX11_quarter 0 = .ok (.aload_n 0, 1) := by decide +kernel
theorem dX11_quarter_1 : decode cX11_quarter 1 = .ok (.getfield 33, 3) := by decide +kernel
theorem dX11_quarter_4 : decode cX11_quarter 4 = .ok (.aload_n 0, 1) := by decide +kernel
theorem dX11_quarter_5 : decode cX11_quarter 5 = .ok (.getfield 20, 3) := by decide +kernel
theorem dX11_quarter_8 : decode cX11_quarter 8 = .ok (.aload_n 0, 1) := by decide +kernel
theorem dX11_quarter_9 : decode cX11_quarter 9 = .ok (.getfield 90, 3) := by decide +kernel
theorem dX11_quarter_12 : decode cX11_quarter 12 = .ok (.invokevirtual 98, 3) := by decide +kernel
theorem dX11_quarter_15 : decode cX11_quarter 15 = .ok (.istore_n 1, 1) := by decide +kernel
theorem dX11_quarter_16 : decode cX11_quarter 16 = .ok (.aload_n 0, 1) := by decide +kernel
theorem dX11_quarter_17 : decode cX11_quarter 17 = .ok (.iconst 0, 1) := by decide +kernel
theorem dX11_quarter_18 : decode cX11_quarter 18 = .ok (.putfield 90, 3) := by decide +kernel
theorem dX11_quarter_21 : decode cX11_quarter 21 = .ok (.iload_n 1, 1) := by decide +kernel
theorem dX11_quarter_22 : decode cX11_quarter 22 = .ok (.ifCond .ne 5, 3) := by decide +kernel
theorem dX11_quarter_25 : decode cX11_quarter 25 = .ok (.iconst (-1), 1) := by decide +kernel
theorem dX11_quarter_26 : decode cX11_quarter 26 = .ok (.ireturn, 1) := by decide +kernel
theorem dX11_quarter_27 : decode cX11_quarter 27 = .ok (.aload_n 0, 1) := by decide +kernel
theorem dX11_quarter_28 : decode cX11_quarter 28 = .ok (.getfield 16, 3) := by decide +kernel
theorem dX11_quarter_31 : decode cX11_quarter 31 = .ok (.astore_n 2, 1) := by decide +kernel
theorem dX11_quarter_32 : decode cX11_quarter 32 = .ok (.aload_n 0, 1) := by decide +kernel
theorem dX11_quarter_33 : decode cX11_quarter 33 = .ok (.aload_n 0, 1) := by decide +kernel
theorem dX11_quarter_34 : decode cX11_quarter 34 = .ok (.getfield 20, 3) := by decide +kernel
theorem dX11_quarter_37 : decode cX11_quarter 37 = .ok (.putfield 16, 3) := by decide +kernel
theorem dX11_quarter_40 : decode cX11_quarter 40 = .ok (.aload_n 0, 1) := by decide +kernel
theorem dX11_quarter_41 : decode cX11_quarter 41 = .ok (.aload_n 2, 1) := by decide +kernel
theorem dX11_quarter_42 : decode cX11_quarter 42 = .ok (.putfield 20, 3) := by decide +kernel
theorem dX11_quarter_45 : decode cX11_quarter 45 = .ok (.aload_n 0, 1) := by decide +kernel
theorem dX11_quarter_46 : decode cX11_quarter 46 = .ok (.getfield 40, 3) := by decide +kernel
theorem dX11_quarter_49 : decode cX11_quarter 49 = .ok (.aload_n 0, 1) := by decide +kernel
theorem dX11_quarter_50 : decode cX11_quarter 50 = .ok (.getfield 16, 3) := by decide +kernel
theorem dX11_quarter_53 : decode cX11_quarter 53 = .ok (.invokevirtual 44, 3) := by decide +kernel
theorem dX11_quarter_56 : decode cX11_quarter 56 = .ok (.aload_n 0, 1) := by decide +kernel
theorem dX11_quarter_57 : decode cX11_quarter 57 = .ok (.getfield 51, 3) := by decide +kernel
theorem dX11_quarter_60 : decode cX11_quarter 60 = .ok (.aload_n 0, 1) := by decide +kernel
theorem dX11_quarter_61 : decode cX11_quarter 61 = .ok (.getfield 40, 3) := by decide +kernel
theorem dX11_quarter_64 : decode cX11_quarter 64 = .ok (.invokevirtual 55, 3) := by decide +kernel
theorem dX11_quarter_67 : decode cX11_quarter 67 = .ok (.invokevirtual 59, 3) := by decide +kernel
theorem dX11_quarter_70 : decode cX11_quarter 70 = .ok (.aload_n 0, 1) := by decide +kernel
theorem dX11_quarter_71 : decode cX11_quarter 71 = .ok (.iconst 0, 1) := by decide +kernel
theorem dX11_quarter_72 : decode cX11_quarter 72 = .ok (.putfield 102, 3) := by decide +kernel
theorem dX11_quarter_75 : decode cX11_quarter 75 = .ok (.aload_n 0, 1) := by decide +kernel
theorem dX11_quarter_76 : decode cX11_quarter 76 = .ok (.getfield 70, 3) := by decide +kernel
theorem dX11_quarter_79 : decode cX11_quarter 79 = .ok (.aload_n 0, 1) := by decide +kernel
theorem dX11_quarter_80 : decode cX11_quarter 80 = .ok (.getfield 16, 3) := by decide +kernel
theorem dX11_quarter_83 : decode cX11_quarter 83 = .ok (.invokevirtual 105, 3) := by decide +kernel
theorem dX11_quarter_86 : decode cX11_quarter 86 = .ok (.aload_n 0, 1) := by decide +kernel
theorem dX11_quarter_87 : decode cX11_quarter 87 = .ok (.getfield 79, 3) := by decide +kernel
theorem dX11_quarter_90 : decode cX11_quarter 90 = .ok (.invokevirtual 108, 3) := by decide +kernel
theorem dX11_quarter_93 : decode cX11_quarter 93 = .ok (.aload_n 0, 1) := by decide +kernel
theorem dX11_quarter_94 : decode cX11_quarter 94 = .ok (.getfield 86, 3) := by decide +kernel
theorem dX11_quarter_97 : decode cX11_quarter 97 = .ok (.invokevirtual 110, 3) := by decide +kernel
theorem dX11_quarter_100 : decode cX11_quarter 100 = .ok (.aload_n 0, 1) := by decide +kernel
theorem dX11_quarter_101 : decode cX11_quarter 101 = .ok (.getfield 16, 3) := by decide +kernel
theorem dX11_quarter_104 : decode cX11_quarter 104 = .ok (.getfield 111, 3) := by decide +kernel
theorem dX11_quarter_107 : decode cX11_quarter 107 = .ok (.getfield 115, 3) := by decide +kernel
theorem dX11_quarter_110 : decode cX11_quarter 110 = .ok (.ireturn, 1) := by decide +kernel
theorem dX11_fault_0 : decode cX11_fault 0 = .ok (.iload_n 1, 1) := by decide +kernel
theorem dX11_fault_1 : decode cX11_fault 1 = .ok (.lookupswitch 43 #[(0, 27), (1, 35)], 27) := by decide +kernel
theorem dX11_fault_28 : decode cX11_fault 28 = .ok (.aload_n 0, 1) := by decide +kernel
theorem dX11_fault_29 : decode cX11_fault 29 = .ok (.getfield 33, 3) := by decide +kernel
theorem dX11_fault_32 : decode cX11_fault 32 = .ok (.getfield 120, 3) := by decide +kernel
theorem dX11_fault_35 : decode cX11_fault 35 = .ok (.ireturn, 1) := by decide +kernel
theorem dX11_fault_36 : decode cX11_fault 36 = .ok (.aload_n 0, 1) := by decide +kernel
theorem dX11_fault_37 : decode cX11_fault 37 = .ok (.getfield 33, 3) := by decide +kernel
theorem dX11_fault_40 : decode cX11_fault 40 = .ok (.getfield 123, 3) := by decide +kernel
theorem dX11_fault_43 : decode cX11_fault 43 = .ok (.ireturn, 1) := by decide +kernel
theorem dX11_fault_44 : decode cX11_fault 44 = .ok (.iconst (-1), 1) := by decide +kernel
theorem dX11_fault_45 : decode cX11_fault 45 = .ok (.ireturn, 1) := by decide +kernel
theorem dX11_door_0 : decode cX11_door 0 = .ok (.aload_n 0, 1) := by decide +kernel
theorem dX11_door_1 : decode cX11_door 1 = .ok (.getfield 16, 3) := by decide +kernel
theorem dX11_door_4 : decode cX11_door 4 = .ok (.getfield 111, 3) := by decide +kernel
theorem dX11_door_7 : decode cX11_door 7 = .ok (.iload_n 1, 1) := by decide +kernel
theorem dX11_door_8 : decode cX11_door 8 = .ok (.invokevirtual 126, 3) := by decide +kernel
theorem dX11_door_11 : decode cX11_door 11 = .ok (.ifCond .ne 5, 3) := by decide +kernel
theorem dX11_door_14 : decode cX11_door 14 = .ok (.iconst (-1), 1) := by decide +kernel
theorem dX11_door_15 : decode cX11_door 15 = .ok (.ireturn, 1) := by decide +kernel
theorem dX11_door_16 : decode cX11_door 16 = .ok (.iload_n 2, 1) := by decide +kernel
theorem dX11_door_17 : decode cX11_door 17 = .ok (.tableswitch 118 0 3 #[31, 44, 57, 98], 31) := by decide +kernel
theorem dX11_door_48 : decode cX11_door 48 = .ok (.aload_n 0, 1) := by decide +kernel
theorem dX11_door_49 : decode cX11_door 49 = .ok (.getfield 16, 3) := by decide +kernel
theorem dX11_door_52 : decode cX11_door 52 = .ok (.getfield 111, 3) := by decide +kernel
theorem dX11_door_55 : decode cX11_door 55 = .ok (.getfield 130, 3) := by decide +kernel
theorem dX11_door_58 : decode cX11_door 58 = .ok (.iload_n 1, 1) := by decide +kernel
theorem dX11_door_59 : decode cX11_door 59 = .ok (.iaload, 1) := by decide +kernel
theorem dX11_door_60 : decode cX11_door 60 = .ok (.ireturn, 1) := by decide +kernel
theorem dX11_door_61 : decode cX11_door 61 = .ok (.aload_n 0, 1) := by decide +kernel
theorem dX11_door_62 : decode cX11_door 62 = .ok (.getfield 16, 3) := by decide +kernel
theorem dX11_door_65 : decode cX11_door 65 = .ok (.getfield 111, 3) := by decide +kernel
theorem dX11_door_68 : decode cX11_door 68 = .ok (.getfield 134, 3) := by decide +kernel
theorem dX11_door_71 : decode cX11_door 71 = .ok (.iload_n 1, 1) := by decide +kernel
theorem dX11_door_72 : decode cX11_door 72 = .ok (.iaload, 1) := by decide +kernel
theorem dX11_door_73 : decode cX11_door 73 = .ok (.ireturn, 1) := by decide +kernel
theorem dX11_door_74 : decode cX11_door 74 = .ok (.aload_n 0, 1) := by decide +kernel
theorem dX11_door_75 : decode cX11_door 75 = .ok (.getfield 16, 3) := by decide +kernel
theorem dX11_door_78 : decode cX11_door 78 = .ok (.getfield 111, 3) := by decide +kernel
theorem dX11_door_81 : decode cX11_door 81 = .ok (.iload_n 1, 1) := by decide +kernel
theorem dX11_door_82 : decode cX11_door 82 = .ok (.aload_n 0, 1) := by decide +kernel
theorem dX11_door_83 : decode cX11_door 83 = .ok (.getfield 40, 3) := by decide +kernel
theorem dX11_door_86 : decode cX11_door 86 = .ok (.invokevirtual 137, 3) := by decide +kernel
theorem dX11_door_89 : decode cX11_door 89 = .ok (.invokevirtual 141, 3) := by decide +kernel
theorem dX11_door_92 : decode cX11_door 92 = .ok (.ifCond .eq 21, 3) := by decide +kernel
theorem dX11_door_95 : decode cX11_door 95 = .ok (.aload_n 0, 1) := by decide +kernel
theorem dX11_door_96 : decode cX11_door 96 = .ok (.getfield 40, 3) := by decide +kernel
theorem dX11_door_99 : decode cX11_door 99 = .ok (.getfield 145, 3) := by decide +kernel
theorem dX11_door_102 : decode cX11_door 102 = .ok (.iload_n 1, 1) := by decide +kernel
theorem dX11_door_103 : decode cX11_door 103 = .ok (.invokestatic 148, 3) := by decide +kernel
theorem dX11_door_106 : decode cX11_door 106 = .ok (.ifCond .ne 7, 3) := by decide +kernel
theorem dX11_door_109 : decode cX11_door 109 = .ok (.iconst 1, 1) := by decide +kernel
theorem dX11_door_110 : decode cX11_door 110 = .ok (.goto 4, 3) := by decide +kernel
theorem dX11_door_113 : decode cX11_door 113 = .ok (.iconst 0, 1) := by decide +kernel
theorem dX11_door_114 : decode cX11_door 114 = .ok (.ireturn, 1) := by decide +kernel
theorem dX11_door_115 : decode cX11_door 115 = .ok (.aload_n 0, 1) := by decide +kernel
theorem dX11_door_116 : decode cX11_door 116 = .ok (.getfield 40, 3) := by decide +kernel
theorem dX11_door_119 : decode cX11_door 119 = .ok (.getfield 145, 3) := by decide +kernel
theorem dX11_door_122 : decode cX11_door 122 = .ok (.iload_n 1, 1) := by decide +kernel
theorem dX11_door_123 : decode cX11_door 123 = .ok (.invokestatic 148, 3) := by decide +kernel
theorem dX11_door_126 : decode cX11_door 126 = .ok (.ifCond .eq 7, 3) := by decide +kernel
theorem dX11_door_129 : decode cX11_door 129 = .ok (.iconst 1, 1) := by decide +kernel
theorem dX11_door_130 : decode cX11_door 130 = .ok (.goto 4, 3) := by decide +kernel
theorem dX11_door_133 : decode cX11_door 133 = .ok (.iconst 0, 1) := by decide +kernel
theorem dX11_door_134 : decode cX11_door 134 = .ok (.ireturn, 1) := by decide +kernel
theorem dX11_door_135 : decode cX11_door 135 = .ok (.iconst (-1), 1) := by decide +kernel
theorem dX11_door_136 : decode cX11_door 136 = .ok (.ireturn, 1) := by decide +kernel
theorem dX11_lamp_0 : decode cX11_lamp 0 = .ok (.aload_n 0, 1) := by decide +kernel
theorem dX11_lamp_1 : decode cX11_lamp 1 = .ok (.getfield 16, 3) := by decide +kernel
theorem dX11_lamp_4 : decode cX11_lamp 4 = .ok (.getfield 151, 3) := by decide +kernel
theorem dX11_lamp_7 : decode cX11_lamp 7 = .ok (.iload_n 1, 1) := by decide +kernel
theorem dX11_lamp_8 : decode cX11_lamp 8 = .ok (.invokevirtual 126, 3) := by decide +kernel
theorem dX11_lamp_11 : decode cX11_lamp 11 = .ok (.ifCond .ne 5, 3) := by decide +kernel
theorem dX11_lamp_14 : decode cX11_lamp 14 = .ok (.iconst (-1), 1) := by decide +kernel
theorem dX11_lamp_15 : decode cX11_lamp 15 = .ok (.ireturn, 1) := by decide +kernel
theorem dX11_lamp_16 : decode cX11_lamp 16 = .ok (.iload_n 2, 1) := by decide +kernel
theorem dX11_lamp_17 : decode cX11_lamp 17 = .ok (.tableswitch 101 0 2 #[27, 40, 81], 27) := by decide +kernel
theorem dX11_lamp_44 : decode cX11_lamp 44 = .ok (.aload_n 0, 1) := by decide +kernel
theorem dX11_lamp_45 : decode cX11_lamp 45 = .ok (.getfield 16, 3) := by decide +kernel
theorem dX11_lamp_48 : decode cX11_lamp 48 = .ok (.getfield 151, 3) := by decide +kernel
theorem dX11_lamp_51 : decode cX11_lamp 51 = .ok (.getfield 130, 3) := by decide +kernel
theorem dX11_lamp_54 : decode cX11_lamp 54 = .ok (.iload_n 1, 1) := by decide +kernel
theorem dX11_lamp_55 : decode cX11_lamp 55 = .ok (.iaload, 1) := by decide +kernel
theorem dX11_lamp_56 : decode cX11_lamp 56 = .ok (.ireturn, 1) := by decide +kernel
theorem dX11_lamp_57 : decode cX11_lamp 57 = .ok (.aload_n 0, 1) := by decide +kernel
theorem dX11_lamp_58 : decode cX11_lamp 58 = .ok (.getfield 16, 3) := by decide +kernel
theorem dX11_lamp_61 : decode cX11_lamp 61 = .ok (.getfield 151, 3) := by decide +kernel
theorem dX11_lamp_64 : decode cX11_lamp 64 = .ok (.iload_n 1, 1) := by decide +kernel
theorem dX11_lamp_65 : decode cX11_lamp 65 = .ok (.aload_n 0, 1) := by decide +kernel
theorem dX11_lamp_66 : decode cX11_lamp 66 = .ok (.getfield 40, 3) := by decide +kernel
theorem dX11_lamp_69 : decode cX11_lamp 69 = .ok (.invokevirtual 137, 3) := by decide +kernel
theorem dX11_lamp_72 : decode cX11_lamp 72 = .ok (.invokevirtual 141, 3) := by decide +kernel
theorem dX11_lamp_75 : decode cX11_lamp 75 = .ok (.ifCond .eq 21, 3) := by decide +kernel
theorem dX11_lamp_78 : decode cX11_lamp 78 = .ok (.aload_n 0, 1) := by decide +kernel
theorem dX11_lamp_79 : decode cX11_lamp 79 = .ok (.getfield 40, 3) := by decide +kernel
theorem dX11_lamp_82 : decode cX11_lamp 82 = .ok (.getfield 154, 3) := by decide +kernel
theorem dX11_lamp_85 : decode cX11_lamp 85 = .ok (.iload_n 1, 1) := by decide +kernel
theorem dX11_lamp_86 : decode cX11_lamp 86 = .ok (.invokestatic 148, 3) := by decide +kernel
theorem dX11_lamp_89 : decode cX11_lamp 89 = .ok (.ifCond .ne 7, 3) := by decide +kernel
theorem dX11_lamp_92 : decode cX11_lamp 92 = .ok (.iconst 1, 1) := by decide +kernel
theorem dX11_lamp_93 : decode cX11_lamp 93 = .ok (.goto 4, 3) := by decide +kernel
theorem dX11_lamp_96 : decode cX11_lamp 96 = .ok (.iconst 0, 1) := by decide +kernel
theorem dX11_lamp_97 : decode cX11_lamp 97 = .ok (.ireturn, 1) := by decide +kernel
theorem dX11_lamp_98 : decode cX11_lamp 98 = .ok (.aload_n 0, 1) := by decide +kernel
theorem dX11_lamp_99 : decode cX11_lamp 99 = .ok (.getfield 40, 3) := by decide +kernel
theorem dX11_lamp_102 : decode cX11_lamp 102 = .ok (.getfield 154, 3) := by decide +kernel
theorem dX11_lamp_105 : decode cX11_lamp 105 = .ok (.iload_n 1, 1) := by decide +kernel
theorem dX11_lamp_106 : decode cX11_lamp 106 = .ok (.invokestatic 148, 3) := by decide +kernel
theorem dX11_lamp_109 : decode cX11_lamp 109 = .ok (.ifCond .eq 7, 3) := by decide +kernel
theorem dX11_lamp_112 : decode cX11_lamp 112 = .ok (.iconst 1, 1) := by decide +kernel
theorem dX11_lamp_113 : decode cX11_lamp 113 = .ok (.goto 4, 3) := by decide +kernel
theorem dX11_lamp_116 : decode cX11_lamp 116 = .ok (.iconst 0, 1) := by decide +kernel
theorem dX11_lamp_117 : decode cX11_lamp 117 = .ok (.ireturn, 1) := by decide +kernel
theorem dX11_lamp_118 : decode cX11_lamp 118 = .ok (.iconst (-1), 1) := by decide +kernel
theorem dX11_lamp_119 : decode cX11_lamp 119 = .ok (.ireturn, 1) := by decide +kernel
theorem dX11_person_0 : decode cX11_person 0 = .ok (.aload_n 0, 1) := by decide +kernel
theorem dX11_person_1 : decode cX11_person 1 = .ok (.getfield 16, 3) := by decide +kernel
theorem dX11_person_4 : decode cX11_person 4 = .ok (.getfield 157, 3) := by decide +kernel
theorem dX11_person_7 : decode cX11_person 7 = .ok (.iload_n 1, 1) := by decide +kernel
theorem dX11_person_8 : decode cX11_person 8 = .ok (.invokevirtual 126, 3) := by decide +kernel
theorem dX11_person_11 : decode cX11_person 11 = .ok (.ifCond .ne 5, 3) := by decide +kernel
theorem dX11_person_14 : decode cX11_person 14 = .ok (.iconst (-1), 1) := by decide +kernel
theorem dX11_person_15 : decode cX11_person 15 = .ok (.ireturn, 1) := by decide +kernel
theorem dX11_person_16 : decode cX11_person 16 = .ok (.iload_n 2, 1) := by decide +kernel
theorem dX11_person_17 : decode cX11_person 17 = .ok (.lookupswitch 57 #[(0, 27), (1, 37)], 27) := by decide +kernel
theorem dX11_person_44 : decode cX11_person 44 = .ok (.aload_n 0, 1) := by decide +kernel
theorem dX11_person_45 : decode cX11_person 45 = .ok (.getfield 40, 3) := by decide +kernel
theorem dX11_person_48 : decode cX11_person 48 = .ok (.getfield 160, 3) := by decide +kernel
theorem dX11_person_51 : decode cX11_person 51 = .ok (.iload_n 1, 1) := by decide +kernel
theorem dX11_person_52 : decode cX11_person 52 = .ok (.iaload, 1) := by decide +kernel
theorem dX11_person_53 : decode cX11_person 53 = .ok (.ireturn, 1) := by decide +kernel
theorem dX11_person_54 : decode cX11_person 54 = .ok (.aload_n 0, 1) := by decide +kernel
theorem dX11_person_55 : decode cX11_person 55 = .ok (.getfield 40, 3) := by decide +kernel
theorem dX11_person_58 : decode cX11_person 58 = .ok (.getfield 163, 3) := by decide +kernel
theorem dX11_person_61 : decode cX11_person 61 = .ok (.iload_n 1, 1) := by decide +kernel
theorem dX11_person_62 : decode cX11_person 62 = .ok (.invokestatic 148, 3) := by decide +kernel
theorem dX11_person_65 : decode cX11_person 65 = .ok (.ifCond .eq 7, 3) := by decide +kernel
theorem dX11_person_68 : decode cX11_person 68 = .ok (.iconst 1, 1) := by decide +kernel
theorem dX11_person_69 : decode cX11_person 69 = .ok (.goto 4, 3) := by decide +kernel
theorem dX11_person_72 : decode cX11_person 72 = .ok (.iconst 0, 1) := by decide +kernel
theorem dX11_person_73 : decode cX11_person 73 = .ok (.ireturn, 1) := by decide +kernel
theorem dX11_person_74 : decode cX11_person 74 = .ok (.iconst (-1), 1) := by decide +kernel
theorem dX11_person_75 : decode cX11_person 75 = .ok (.ireturn, 1) := by decide +kernel
theorem dX11_shade_0 : decode cX11_shade 0 = .ok (.aload_n 0, 1) := by decide +kernel
theorem dX11_shade_1 : decode cX11_shade 1 = .ok (.getfield 16, 3) := by decide +kernel
theorem dX11_shade_4 : decode cX11_shade 4 = .ok (.getfield 111, 3) := by decide +kernel
theorem dX11_shade_7 : decode cX11_shade 7 = .ok (.iload_n 1, 1) := by decide +kernel
theorem dX11_shade_8 : decode cX11_shade 8 = .ok (.invokevirtual 126, 3) := by decide +kernel
theorem dX11_shade_11 : decode cX11_shade 11 = .ok (.ifCond .eq 10, 3) := by decide +kernel
theorem dX11_shade_14 : decode cX11_shade 14 = .ok (.iload_n 2, 1) := by decide +kernel
theorem dX11_shade_15 : decode cX11_shade 15 = .ok (.invokestatic 166, 3) := by decide +kernel
theorem dX11_shade_18 : decode cX11_shade 18 = .ok (.ifCond .ne 6, 3) := by decide +kernel
theorem dX11_shade_21 : decode cX11_shade 21 = .ok (.ldc 169, 2) := by decide +kernel
theorem dX11_shade_23 : decode cX11_shade 23 = .ok (.ireturn, 1) := by decide +kernel
theorem dX11_shade_24 : decode cX11_shade 24 = .ok (.aload_n 0, 1) := by decide +kernel
theorem dX11_shade_25 : decode cX11_shade 25 = .ok (.getfield 40, 3) := by decide +kernel
theorem dX11_shade_28 : decode cX11_shade 28 = .ok (.getfield 170, 3) := by decide +kernel
theorem dX11_shade_31 : decode cX11_shade 31 = .ok (.iload_n 2, 1) := by decide +kernel
theorem dX11_shade_32 : decode cX11_shade 32 = .ok (.iadd, 1) := by decide +kernel
theorem dX11_shade_33 : decode cX11_shade 33 = .ok (.istore_n 3, 1) := by decide +kernel
theorem dX11_shade_34 : decode cX11_shade 34 = .ok (.aload_n 0, 1) := by decide +kernel
theorem dX11_shade_35 : decode cX11_shade 35 = .ok (.getfield 16, 3) := by decide +kernel
theorem dX11_shade_38 : decode cX11_shade 38 = .ok (.getfield 173, 3) := by decide +kernel
theorem dX11_shade_41 : decode cX11_shade 41 = .ok (.aload_n 0, 1) := by decide +kernel
theorem dX11_shade_42 : decode cX11_shade 42 = .ok (.getfield 16, 3) := by decide +kernel
theorem dX11_shade_45 : decode cX11_shade 45 = .ok (.getfield 111, 3) := by decide +kernel
theorem dX11_shade_48 : decode cX11_shade 48 = .ok (.getfield 134, 3) := by decide +kernel
theorem dX11_shade_51 : decode cX11_shade 51 = .ok (.iload_n 1, 1) := by decide +kernel
theorem dX11_shade_52 : decode cX11_shade 52 = .ok (.iaload, 1) := by decide +kernel
theorem dX11_shade_53 : decode cX11_shade 53 = .ok (.iload_n 3, 1) := by decide +kernel
theorem dX11_shade_54 : decode cX11_shade 54 = .ok (.bipush 24, 2) := by decide +kernel
theorem dX11_shade_56 : decode cX11_shade 56 = .ok (.irem, 1) := by decide +kernel
theorem dX11_shade_57 : decode cX11_shade 57 = .ok (.iload_n 3, 1) := by decide +kernel
theorem dX11_shade_58 : decode cX11_shade 58 = .ok (.bipush 24, 2) := by decide +kernel
theorem dX11_shade_60 : decode cX11_shade 60 = .ok (.idiv, 1) := by decide +kernel
theorem dX11_shade_61 : decode cX11_shade 61 = .ok (.invokevirtual 177, 3) := by decide +kernel
theorem dX11_shade_64 : decode cX11_shade 64 = .ok (.ireturn, 1) := by decide +kernel
theorem dX11_shadow_0 : decode cX11_shadow 0 = .ok (.aload_n 0, 1) := by decide +kernel
theorem dX11_shadow_1 : decode cX11_shadow 1 = .ok (.getfield 16, 3) := by decide +kernel
theorem dX11_shadow_4 : decode cX11_shadow 4 = .ok (.getfield 111, 3) := by decide +kernel
theorem dX11_shadow_7 : decode cX11_shadow 7 = .ok (.iload_n 1, 1) := by decide +kernel
theorem dX11_shadow_8 : decode cX11_shadow 8 = .ok (.invokevirtual 126, 3) := by decide +kernel
theorem dX11_shadow_11 : decode cX11_shadow 11 = .ok (.ifCond .eq 10, 3) := by decide +kernel
theorem dX11_shadow_14 : decode cX11_shadow 14 = .ok (.iload_n 2, 1) := by decide +kernel
theorem dX11_shadow_15 : decode cX11_shadow 15 = .ok (.invokestatic 166, 3) := by decide +kernel
theorem dX11_shadow_18 : decode cX11_shadow 18 = .ok (.ifCond .ne 5, 3) := by decide +kernel
theorem dX11_shadow_21 : decode cX11_shadow 21 = .ok (.lconst 0, 1) := by decide +kernel
theorem dX11_shadow_22 : decode cX11_shadow 22 = .ok (.lreturn, 1) := by decide +kernel
theorem dX11_shadow_23 : decode cX11_shadow 23 = .ok (.aload_n 0, 1) := by decide +kernel
theorem dX11_shadow_24 : decode cX11_shadow 24 = .ok (.getfield 70, 3) := by decide +kernel
theorem dX11_shadow_27 : decode cX11_shadow 27 = .ok (.aload_n 0, 1) := by decide +kernel
theorem dX11_shadow_28 : decode cX11_shadow 28 = .ok (.getfield 40, 3) := by decide +kernel
theorem dX11_shadow_31 : decode cX11_shadow 31 = .ok (.invokevirtual 183, 3) := by decide +kernel
theorem dX11_shadow_34 : decode cX11_shadow 34 = .ok (.aload_n 0, 1) := by decide +kernel
theorem dX11_shadow_35 : decode cX11_shadow 35 = .ok (.getfield 70, 3) := by decide +kernel
theorem dX11_shadow_38 : decode cX11_shadow 38 = .ok (.iload_n 1, 1) := by decide +kernel
theorem dX11_shadow_39 : decode cX11_shadow 39 = .ok (.iload_n 2, 1) := by decide +kernel
theorem dX11_shadow_40 : decode cX11_shadow 40 = .ok (.invokevirtual 187, 3) := by decide +kernel
theorem dX11_shadow_43 : decode cX11_shadow 43 = .ok (.lreturn, 1) := by decide +kernel
theorem dX11_shades_0 : decode cX11_shades 0 = .ok (.iload_n 1, 1) := by decide +kernel
theorem dX11_shades_1 : decode cX11_shades 1 = .ok (.invokestatic 166, 3) := by decide +kernel
theorem dX11_shades_4 : decode cX11_shades 4 = .ok (.ifCond .ne 5, 3) := by decide +kernel
theorem dX11_shades_7 : decode cX11_shades 7 = .ok (.lconst 0, 1) := by decide +kernel
theorem dX11_shades_8 : decode cX11_shades 8 = .ok (.lreturn, 1) := by decide +kernel
theorem dX11_shades_9 : decode cX11_shades 9 = .ok (.aload_n 0, 1) := by decide +kernel
theorem dX11_shades_10 : decode cX11_shades 10 = .ok (.getfield 70, 3) := by decide +kernel
theorem dX11_shades_13 : decode cX11_shades 13 = .ok (.aload_n 0, 1) := by decide +kernel
theorem dX11_shades_14 : decode cX11_shades 14 = .ok (.getfield 40, 3) := by decide +kernel
theorem dX11_shades_17 : decode cX11_shades 17 = .ok (.invokevirtual 183, 3) := by decide +kernel
theorem dX11_shades_20 : decode cX11_shades 20 = .ok (.iload_n 2, 1) := by decide +kernel
theorem dX11_shades_21 : decode cX11_shades 21 = .ok (.ifCond .eq 14, 3) := by decide +kernel
theorem dX11_shades_24 : decode cX11_shades 24 = .ok (.aload_n 0, 1) := by decide +kernel
theorem dX11_shades_25 : decode cX11_shades 25 = .ok (.getfield 70, 3) := by decide +kernel
theorem dX11_shades_28 : decode cX11_shades 28 = .ok (.iload_n 1, 1) := by decide +kernel
theorem dX11_shades_29 : decode cX11_shades 29 = .ok (.invokevirtual 191, 3) := by decide +kernel
theorem dX11_shades_32 : decode cX11_shades 32 = .ok (.goto 4, 3) := by decide +kernel
theorem dX11_shades_35 : decode cX11_shades 35 = .ok (.iconst (-1), 1) := by decide +kernel
theorem dX11_shades_36 : decode cX11_shades 36 = .ok (.istore_n 3, 1) := by decide +kernel
theorem dX11_shades_37 : decode cX11_shades 37 = .ok (.lconst 0, 1) := by decide +kernel
theorem dX11_shades_38 : decode cX11_shades 38 = .ok (.lstore 4, 2) := by decide +kernel
theorem dX11_shades_40 : decode cX11_shades 40 = .ok (.iconst 0, 1) := by decide +kernel
theorem dX11_shades_41 : decode cX11_shades 41 = .ok (.istore 6, 2) := by decide +kernel
theorem dX11_shades_43 : decode cX11_shades 43 = .ok (.iload 6, 2) := by decide +kernel
theorem dX11_shades_45 : decode cX11_shades 45 = .ok (.aload_n 0, 1) := by decide +kernel
theorem dX11_shades_46 : decode cX11_shades 46 = .ok (.getfield 16, 3) := by decide +kernel
theorem dX11_shades_49 : decode cX11_shades 49 = .ok (.getfield 111, 3) := by decide +kernel
theorem dX11_shades_52 : decode cX11_shades 52 = .ok (.getfield 115, 3) := by decide +kernel
theorem dX11_shades_55 : decode cX11_shades 55 = .ok (.if_icmp .ge 33, 3) := by decide +kernel
theorem dX11_shades_58 : decode cX11_shades 58 = .ok (.iload_n 3, 1) := by decide +kernel
theorem dX11_shades_59 : decode cX11_shades 59 = .ok (.iload 6, 2) := by decide +kernel
theorem dX11_shades_61 : decode cX11_shades 61 = .ok (.invokestatic 148, 3) := by decide +kernel
theorem dX11_shades_64 : decode cX11_shades 64 = .ok (.ifCond .eq 18, 3) := by decide +kernel
theorem dX11_shades_67 : decode cX11_shades 67 = .ok (.lload 4, 2) := by decide +kernel
theorem dX11_shades_69 : decode cX11_shades 69 = .ok (.aload_n 0, 1) := by decide +kernel
theorem dX11_shades_70 : decode cX11_shades 70 = .ok (.getfield 70, 3) := by decide +kernel
theorem dX11_shades_73 : decode cX11_shades 73 = .ok (.iload 6, 2) := by decide +kernel
theorem dX11_shades_75 : decode cX11_shades 75 = .ok (.iload_n 1, 1) := by decide +kernel
theorem dX11_shades_76 : decode cX11_shades 76 = .ok (.invokevirtual 187, 3) := by decide +kernel
theorem dX11_shades_79 : decode cX11_shades 79 = .ok (.lor, 1) := by decide +kernel
theorem dX11_shades_80 : decode cX11_shades 80 = .ok (.lstore 4, 2) := by decide +kernel
theorem dX11_shades_82 : decode cX11_shades 82 = .ok (.iinc 6 1, 3) := by decide +kernel
theorem dX11_shades_85 : decode cX11_shades 85 = .ok (.goto (-42), 3) := by decide +kernel
theorem dX11_shades_88 : decode cX11_shades 88 = .ok (.lload 4, 2) := by decide +kernel
theorem dX11_shades_90 : decode cX11_shades 90 = .ok (.lreturn, 1) := by decide +kernel
theorem dX11_moves_0 : decode cX11_moves 0 = .ok (.aload_n 0, 1) := by decide +kernel
theorem dX11_moves_1 : decode cX11_moves 1 = .ok (.getfield 16, 3) := by decide +kernel
theorem dX11_moves_4 : decode cX11_moves 4 = .ok (.iload_n 1, 1) := by decide +kernel
theorem dX11_moves_5 : decode cX11_moves 5 = .ok (.invokevirtual 195, 3) := by decide +kernel
theorem dX11_moves_8 : decode cX11_moves 8 = .ok (.ifCond .eq 10, 3) := by decide +kernel
theorem dX11_moves_11 : decode cX11_moves 11 = .ok (.iload_n 2, 1) := by decide +kernel
theorem dX11_moves_12 : decode cX11_moves 12 = .ok (.invokestatic 166, 3) := by decide +kernel
theorem dX11_moves_15 : decode cX11_moves 15 = .ok (.ifCond .ne 5, 3) := by decide +kernel
theorem dX11_moves_18 : decode cX11_moves 18 = .ok (.lconst 0, 1) := by decide +kernel
theorem dX11_moves_19 : decode cX11_moves 19 = .ok (.lreturn, 1) := by decide +kernel
theorem dX11_moves_20 : decode cX11_moves 20 = .ok (.aload_n 0, 1) := by decide +kernel
theorem dX11_moves_21 : decode cX11_moves 21 = .ok (.getfield 70, 3) := by decide +kernel
theorem dX11_moves_24 : decode cX11_moves 24 = .ok (.aload_n 0, 1) := by decide +kernel
theorem dX11_moves_25 : decode cX11_moves 25 = .ok (.getfield 40, 3) := by decide +kernel
theorem dX11_moves_28 : decode cX11_moves 28 = .ok (.invokevirtual 183, 3) := by decide +kernel
theorem dX11_moves_31 : decode cX11_moves 31 = .ok (.aload_n 0, 1) := by decide +kernel
theorem dX11_moves_32 : decode cX11_moves 32 = .ok (.getfield 70, 3) := by decide +kernel
theorem dX11_moves_35 : decode cX11_moves 35 = .ok (.lconst 1, 1) := by decide +kernel
theorem dX11_moves_36 : decode cX11_moves 36 = .ok (.iload_n 1, 1) := by decide +kernel
theorem dX11_moves_37 : decode cX11_moves 37 = .ok (.lshl, 1) := by decide +kernel
theorem dX11_moves_38 : decode cX11_moves 38 = .ok (.iload_n 2, 1) := by decide +kernel
theorem dX11_moves_39 : decode cX11_moves 39 = .ok (.iconst 0, 1) := by decide +kernel
theorem dX11_moves_40 : decode cX11_moves 40 = .ok (.invokevirtual 198, 3) := by decide +kernel
theorem dX11_moves_43 : decode cX11_moves 43 = .ok (.lreturn, 1) := by decide +kernel
theorem dX11_go_0 : decode cX11_go 0 = .ok (.aload_n 0, 1) := by decide +kernel
theorem dX11_go_1 : decode cX11_go 1 = .ok (.getfield 16, 3) := by decide +kernel
theorem dX11_go_4 : decode cX11_go 4 = .ok (.getfield 157, 3) := by decide +kernel
theorem dX11_go_7 : decode cX11_go 7 = .ok (.iload_n 1, 1) := by decide +kernel
theorem dX11_go_8 : decode cX11_go 8 = .ok (.invokevirtual 126, 3) := by decide +kernel
theorem dX11_go_11 : decode cX11_go 11 = .ok (.ifCond .eq 28, 3) := by decide +kernel
theorem dX11_go_14 : decode cX11_go 14 = .ok (.aload_n 0, 1) := by decide +kernel
theorem dX11_go_15 : decode cX11_go 15 = .ok (.getfield 16, 3) := by decide +kernel
theorem dX11_go_18 : decode cX11_go 18 = .ok (.iload_n 2, 1) := by decide +kernel
theorem dX11_go_19 : decode cX11_go 19 = .ok (.invokevirtual 195, 3) := by decide +kernel
theorem dX11_go_22 : decode cX11_go 22 = .ok (.ifCond .eq 17, 3) := by decide +kernel
theorem dX11_go_25 : decode cX11_go 25 = .ok (.aload_n 0, 1) := by decide +kernel
theorem dX11_go_26 : decode cX11_go 26 = .ok (.getfield 40, 3) := by decide +kernel
theorem dX11_go_29 : decode cX11_go 29 = .ok (.getfield 163, 3) := by decide +kernel
theorem dX11_go_32 : decode cX11_go 32 = .ok (.iload_n 1, 1) := by decide +kernel
theorem dX11_go_33 : decode cX11_go 33 = .ok (.invokestatic 148, 3) := by decide +kernel
theorem dX11_go_36 : decode cX11_go 36 = .ok (.ifCond .eq 5, 3) := by decide +kernel
theorem dX11_go_39 : decode cX11_go 39 = .ok (.iconst (-1), 1) := by decide +kernel
theorem dX11_go_40 : decode cX11_go 40 = .ok (.ireturn, 1) := by decide +kernel
theorem dX11_go_41 : decode cX11_go 41 = .ok (.aload_n 0, 1) := by decide +kernel
theorem dX11_go_42 : decode cX11_go 42 = .ok (.getfield 70, 3) := by decide +kernel
theorem dX11_go_45 : decode cX11_go 45 = .ok (.aload_n 0, 1) := by decide +kernel
theorem dX11_go_46 : decode cX11_go 46 = .ok (.getfield 40, 3) := by decide +kernel
theorem dX11_go_49 : decode cX11_go 49 = .ok (.invokevirtual 183, 3) := by decide +kernel
theorem dX11_go_52 : decode cX11_go 52 = .ok (.aload_n 0, 1) := by decide +kernel
theorem dX11_go_53 : decode cX11_go 53 = .ok (.getfield 40, 3) := by decide +kernel
theorem dX11_go_56 : decode cX11_go 56 = .ok (.getfield 160, 3) := by decide +kernel
theorem dX11_go_59 : decode cX11_go 59 = .ok (.iload_n 1, 1) := by decide +kernel
theorem dX11_go_60 : decode cX11_go 60 = .ok (.iaload, 1) := by decide +kernel
theorem dX11_go_61 : decode cX11_go 61 = .ok (.istore_n 3, 1) := by decide +kernel
theorem dX11_go_62 : decode cX11_go 62 = .ok (.aload_n 0, 1) := by decide +kernel
theorem dX11_go_63 : decode cX11_go 63 = .ok (.getfield 70, 3) := by decide +kernel
theorem dX11_go_66 : decode cX11_go 66 = .ok (.lconst 1, 1) := by decide +kernel
theorem dX11_go_67 : decode cX11_go 67 = .ok (.iload_n 3, 1) := by decide +kernel
theorem dX11_go_68 : decode cX11_go 68 = .ok (.lshl, 1) := by decide +kernel
theorem dX11_go_69 : decode cX11_go 69 = .ok (.iconst 0, 1) := by decide +kernel
theorem dX11_go_70 : decode cX11_go 70 = .ok (.iconst 0, 1) := by decide +kernel
theorem dX11_go_71 : decode cX11_go 71 = .ok (.invokevirtual 198, 3) := by decide +kernel
theorem dX11_go_74 : decode cX11_go 74 = .ok (.iload_n 2, 1) := by decide +kernel
theorem dX11_go_75 : decode cX11_go 75 = .ok (.lushr, 1) := by decide +kernel
theorem dX11_go_76 : decode cX11_go 76 = .ok (.lconst 1, 1) := by decide +kernel
theorem dX11_go_77 : decode cX11_go 77 = .ok (.land, 1) := by decide +kernel
theorem dX11_go_78 : decode cX11_go 78 = .ok (.lconst 0, 1) := by decide +kernel
theorem dX11_go_79 : decode cX11_go 79 = .ok (.lcmp, 1) := by decide +kernel
theorem dX11_go_80 : decode cX11_go 80 = .ok (.ifCond .ne 5, 3) := by decide +kernel
theorem dX11_go_83 : decode cX11_go 83 = .ok (.iconst (-1), 1) := by decide +kernel
theorem dX11_go_84 : decode cX11_go 84 = .ok (.ireturn, 1) := by decide +kernel
theorem dX11_go_85 : decode cX11_go 85 = .ok (.aload_n 0, 1) := by decide +kernel
theorem dX11_go_86 : decode cX11_go 86 = .ok (.getfield 40, 3) := by decide +kernel
theorem dX11_go_89 : decode cX11_go 89 = .ok (.getfield 160, 3) := by decide +kernel
theorem dX11_go_92 : decode cX11_go 92 = .ok (.iload_n 1, 1) := by decide +kernel
theorem dX11_go_93 : decode cX11_go 93 = .ok (.iload_n 2, 1) := by decide +kernel
theorem dX11_go_94 : decode cX11_go 94 = .ok (.iastore, 1) := by decide +kernel
theorem dX11_go_95 : decode cX11_go 95 = .ok (.aload_n 0, 1) := by decide +kernel
theorem dX11_go_96 : decode cX11_go 96 = .ok (.getfield 40, 3) := by decide +kernel
theorem dX11_go_99 : decode cX11_go 99 = .ok (.dup, 1) := by decide +kernel
theorem dX11_go_100 : decode cX11_go 100 = .ok (.getfield 163, 3) := by decide +kernel
theorem dX11_go_103 : decode cX11_go 103 = .ok (.iconst 1, 1) := by decide +kernel
theorem dX11_go_104 : decode cX11_go 104 = .ok (.iload_n 1, 1) := by decide +kernel
theorem dX11_go_105 : decode cX11_go 105 = .ok (.ishl, 1) := by decide +kernel
theorem dX11_go_106 : decode cX11_go 106 = .ok (.ior, 1) := by decide +kernel
theorem dX11_go_107 : decode cX11_go 107 = .ok (.putfield 163, 3) := by decide +kernel
theorem dX11_go_110 : decode cX11_go 110 = .ok (.aload_n 0, 1) := by decide +kernel
theorem dX11_go_111 : decode cX11_go 111 = .ok (.getfield 51, 3) := by decide +kernel
theorem dX11_go_114 : decode cX11_go 114 = .ok (.aload_n 0, 1) := by decide +kernel
theorem dX11_go_115 : decode cX11_go 115 = .ok (.getfield 40, 3) := by decide +kernel
theorem dX11_go_118 : decode cX11_go 118 = .ok (.invokevirtual 55, 3) := by decide +kernel
theorem dX11_go_121 : decode cX11_go 121 = .ok (.invokevirtual 202, 3) := by decide +kernel
theorem dX11_go_124 : decode cX11_go 124 = .ok (.iload_n 2, 1) := by decide +kernel
theorem dX11_go_125 : decode cX11_go 125 = .ok (.iload_n 3, 1) := by decide +kernel
theorem dX11_go_126 : decode cX11_go 126 = .ok (.if_icmp .ne 5, 3) := by decide +kernel
theorem dX11_go_129 : decode cX11_go 129 = .ok (.iconst 0, 1) := by decide +kernel
theorem dX11_go_130 : decode cX11_go 130 = .ok (.ireturn, 1) := by decide +kernel
theorem dX11_go_131 : decode cX11_go 131 = .ok (.aload_n 0, 1) := by decide +kernel
theorem dX11_go_132 : decode cX11_go 132 = .ok (.getfield 16, 3) := by decide +kernel
theorem dX11_go_135 : decode cX11_go 135 = .ok (.lconst 1, 1) := by decide +kernel
theorem dX11_go_136 : decode cX11_go 136 = .ok (.iload_n 3, 1) := by decide +kernel
theorem dX11_go_137 : decode cX11_go 137 = .ok (.lshl, 1) := by decide +kernel
theorem dX11_go_138 : decode cX11_go 138 = .ok (.invokevirtual 205, 3) := by decide +kernel
theorem dX11_go_141 : decode cX11_go 141 = .ok (.iload_n 2, 1) := by decide +kernel
theorem dX11_go_142 : decode cX11_go 142 = .ok (.lushr, 1) := by decide +kernel
theorem dX11_go_143 : decode cX11_go 143 = .ok (.lconst 1, 1) := by decide +kernel
theorem dX11_go_144 : decode cX11_go 144 = .ok (.land, 1) := by decide +kernel
theorem dX11_go_145 : decode cX11_go 145 = .ok (.lconst 0, 1) := by decide +kernel
theorem dX11_go_146 : decode cX11_go 146 = .ok (.lcmp, 1) := by decide +kernel
theorem dX11_go_147 : decode cX11_go 147 = .ok (.ifCond .eq 7, 3) := by decide +kernel
theorem dX11_go_150 : decode cX11_go 150 = .ok (.iconst 1, 1) := by decide +kernel
theorem dX11_go_151 : decode cX11_go 151 = .ok (.goto 4, 3) := by decide +kernel
theorem dX11_go_154 : decode cX11_go 154 = .ok (.iconst 2, 1) := by decide +kernel
theorem dX11_go_155 : decode cX11_go 155 = .ok (.ireturn, 1) := by decide +kernel
theorem dX11_hour_0 : decode cX11_hour 0 = .ok (.aload_n 0, 1) := by decide +kernel
theorem dX11_hour_1 : decode cX11_hour 1 = .ok (.getfield 40, 3) := by decide +kernel
theorem dX11_hour_4 : decode cX11_hour 4 = .ok (.getfield 170, 3) := by decide +kernel
theorem dX11_hour_7 : decode cX11_hour 7 = .ok (.sipush 2000, 3) := by decide +kernel
theorem dX11_hour_10 : decode cX11_hour 10 = .ok (.if_icmp .lt 5, 3) := by decide +kernel
theorem dX11_hour_13 : decode cX11_hour 13 = .ok (.iconst (-1), 1) := by decide +kernel
theorem dX11_hour_14 : decode cX11_hour 14 = .ok (.ireturn, 1) := by decide +kernel
theorem dX11_hour_15 : decode cX11_hour 15 = .ok (.aload_n 0, 1) := by decide +kernel
theorem dX11_hour_16 : decode cX11_hour 16 = .ok (.getfield 40, 3) := by decide +kernel
theorem dX11_hour_19 : decode cX11_hour 19 = .ok (.dup, 1) := by decide +kernel
theorem dX11_hour_20 : decode cX11_hour 20 = .ok (.getfield 170, 3) := by decide +kernel
theorem dX11_hour_23 : decode cX11_hour 23 = .ok (.iconst 1, 1) := by decide +kernel
theorem dX11_hour_24 : decode cX11_hour 24 = .ok (.iadd, 1) := by decide +kernel
theorem dX11_hour_25 : decode cX11_hour 25 = .ok (.putfield 170, 3) := by decide +kernel
theorem dX11_hour_28 : decode cX11_hour 28 = .ok (.aload_n 0, 1) := by decide +kernel
theorem dX11_hour_29 : decode cX11_hour 29 = .ok (.getfield 40, 3) := by decide +kernel
theorem dX11_hour_32 : decode cX11_hour 32 = .ok (.iconst 0, 1) := by decide +kernel
theorem dX11_hour_33 : decode cX11_hour 33 = .ok (.putfield 163, 3) := by decide +kernel
theorem dX11_hour_36 : decode cX11_hour 36 = .ok (.aload_n 0, 1) := by decide +kernel
theorem dX11_hour_37 : decode cX11_hour 37 = .ok (.getfield 51, 3) := by decide +kernel
theorem dX11_hour_40 : decode cX11_hour 40 = .ok (.aload_n 0, 1) := by decide +kernel
theorem dX11_hour_41 : decode cX11_hour 41 = .ok (.getfield 40, 3) := by decide +kernel
theorem dX11_hour_44 : decode cX11_hour 44 = .ok (.invokevirtual 55, 3) := by decide +kernel
theorem dX11_hour_47 : decode cX11_hour 47 = .ok (.invokevirtual 202, 3) := by decide +kernel
theorem dX11_hour_50 : decode cX11_hour 50 = .ok (.aload_n 0, 1) := by decide +kernel
theorem dX11_hour_51 : decode cX11_hour 51 = .ok (.getfield 40, 3) := by decide +kernel
theorem dX11_hour_54 : decode cX11_hour 54 = .ok (.getfield 170, 3) := by decide +kernel
theorem dX11_hour_57 : decode cX11_hour 57 = .ok (.ireturn, 1) := by decide +kernel
theorem dX11_shut_0 : decode cX11_shut 0 = .ok (.aload_n 0, 1) := by decide +kernel
theorem dX11_shut_1 : decode cX11_shut 1 = .ok (.getfield 16, 3) := by decide +kernel
theorem dX11_shut_4 : decode cX11_shut 4 = .ok (.getfield 111, 3) := by decide +kernel
theorem dX11_shut_7 : decode cX11_shut 7 = .ok (.iload_n 1, 1) := by decide +kernel
theorem dX11_shut_8 : decode cX11_shut 8 = .ok (.invokevirtual 126, 3) := by decide +kernel
theorem dX11_shut_11 : decode cX11_shut 11 = .ok (.ifCond .ne 5, 3) := by decide +kernel
theorem dX11_shut_14 : decode cX11_shut 14 = .ok (.iconst (-1), 1) := by decide +kernel
theorem dX11_shut_15 : decode cX11_shut 15 = .ok (.ireturn, 1) := by decide +kernel
theorem dX11_shut_16 : decode cX11_shut 16 = .ok (.aload_n 0, 1) := by decide +kernel
theorem dX11_shut_17 : decode cX11_shut 17 = .ok (.getfield 40, 3) := by decide +kernel
theorem dX11_shut_20 : decode cX11_shut 20 = .ok (.dup, 1) := by decide +kernel
theorem dX11_shut_21 : decode cX11_shut 21 = .ok (.getfield 145, 3) := by decide +kernel
theorem dX11_shut_24 : decode cX11_shut 24 = .ok (.iconst 1, 1) := by decide +kernel
theorem dX11_shut_25 : decode cX11_shut 25 = .ok (.iload_n 1, 1) := by decide +kernel
theorem dX11_shut_26 : decode cX11_shut 26 = .ok (.ishl, 1) := by decide +kernel
theorem dX11_shut_27 : decode cX11_shut 27 = .ok (.ixor, 1) := by decide +kernel
theorem dX11_shut_28 : decode cX11_shut 28 = .ok (.putfield 145, 3) := by decide +kernel
theorem dX11_shut_31 : decode cX11_shut 31 = .ok (.aload_n 0, 1) := by decide +kernel
theorem dX11_shut_32 : decode cX11_shut 32 = .ok (.getfield 51, 3) := by decide +kernel
theorem dX11_shut_35 : decode cX11_shut 35 = .ok (.aload_n 0, 1) := by decide +kernel
theorem dX11_shut_36 : decode cX11_shut 36 = .ok (.getfield 40, 3) := by decide +kernel
theorem dX11_shut_39 : decode cX11_shut 39 = .ok (.invokevirtual 55, 3) := by decide +kernel
theorem dX11_shut_42 : decode cX11_shut 42 = .ok (.invokevirtual 202, 3) := by decide +kernel
theorem dX11_shut_45 : decode cX11_shut 45 = .ok (.aload_n 0, 1) := by decide +kernel
theorem dX11_shut_46 : decode cX11_shut 46 = .ok (.getfield 40, 3) := by decide +kernel
theorem dX11_shut_49 : decode cX11_shut 49 = .ok (.getfield 145, 3) := by decide +kernel
theorem dX11_shut_52 : decode cX11_shut 52 = .ok (.iload_n 1, 1) := by decide +kernel
theorem dX11_shut_53 : decode cX11_shut 53 = .ok (.iushr, 1) := by decide +kernel
theorem dX11_shut_54 : decode cX11_shut 54 = .ok (.iconst 1, 1) := by decide +kernel
theorem dX11_shut_55 : decode cX11_shut 55 = .ok (.iand, 1) := by decide +kernel
theorem dX11_shut_56 : decode cX11_shut 56 = .ok (.ireturn, 1) := by decide +kernel
theorem dX11_out_0 : decode cX11_out 0 = .ok (.aload_n 0, 1) := by decide +kernel
theorem dX11_out_1 : decode cX11_out 1 = .ok (.getfield 16, 3) := by decide +kernel
theorem dX11_out_4 : decode cX11_out 4 = .ok (.getfield 151, 3) := by decide +kernel
theorem dX11_out_7 : decode cX11_out 7 = .ok (.iload_n 1, 1) := by decide +kernel
theorem dX11_out_8 : decode cX11_out 8 = .ok (.invokevirtual 126, 3) := by decide +kernel
theorem dX11_out_11 : decode cX11_out 11 = .ok (.ifCond .ne 5, 3) := by decide +kernel
theorem dX11_out_14 : decode cX11_out 14 = .ok (.iconst (-1), 1) := by decide +kernel
theorem dX11_out_15 : decode cX11_out 15 = .ok (.ireturn, 1) := by decide +kernel
theorem dX11_out_16 : decode cX11_out 16 = .ok (.aload_n 0, 1) := by decide +kernel
theorem dX11_out_17 : decode cX11_out 17 = .ok (.getfield 40, 3) := by decide +kernel
theorem dX11_out_20 : decode cX11_out 20 = .ok (.dup, 1) := by decide +kernel
theorem dX11_out_21 : decode cX11_out 21 = .ok (.getfield 154, 3) := by decide +kernel
theorem dX11_out_24 : decode cX11_out 24 = .ok (.iconst 1, 1) := by decide +kernel
theorem dX11_out_25 : decode cX11_out 25 = .ok (.iload_n 1, 1) := by decide +kernel
theorem dX11_out_26 : decode cX11_out 26 = .ok (.ishl, 1) := by decide +kernel
theorem dX11_out_27 : decode cX11_out 27 = .ok (.ixor, 1) := by decide +kernel
theorem dX11_out_28 : decode cX11_out 28 = .ok (.putfield 154, 3) := by decide +kernel
theorem dX11_out_31 : decode cX11_out 31 = .ok (.aload_n 0, 1) := by decide +kernel
theorem dX11_out_32 : decode cX11_out 32 = .ok (.getfield 51, 3) := by decide +kernel
theorem dX11_out_35 : decode cX11_out 35 = .ok (.aload_n 0, 1) := by decide +kernel
theorem dX11_out_36 : decode cX11_out 36 = .ok (.getfield 40, 3) := by decide +kernel
theorem dX11_out_39 : decode cX11_out 39 = .ok (.invokevirtual 55, 3) := by decide +kernel
theorem dX11_out_42 : decode cX11_out 42 = .ok (.invokevirtual 202, 3) := by decide +kernel
theorem dX11_out_45 : decode cX11_out 45 = .ok (.aload_n 0, 1) := by decide +kernel
theorem dX11_out_46 : decode cX11_out 46 = .ok (.getfield 40, 3) := by decide +kernel
theorem dX11_out_49 : decode cX11_out 49 = .ok (.getfield 154, 3) := by decide +kernel
theorem dX11_out_52 : decode cX11_out 52 = .ok (.iload_n 1, 1) := by decide +kernel
theorem dX11_out_53 : decode cX11_out 53 = .ok (.iushr, 1) := by decide +kernel
theorem dX11_out_54 : decode cX11_out 54 = .ok (.iconst 1, 1) := by decide +kernel
theorem dX11_out_55 : decode cX11_out 55 = .ok (.iand, 1) := by decide +kernel
theorem dX11_out_56 : decode cX11_out 56 = .ok (.ireturn, 1) := by decide +kernel
theorem dX11_eclipse_0 : decode cX11_eclipse 0 = .ok (.aload_n 0, 1) := by decide +kernel
theorem dX11_eclipse_1 : decode cX11_eclipse 1 = .ok (.getfield 40, 3) := by decide +kernel
theorem dX11_eclipse_4 : decode cX11_eclipse 4 = .ok (.aload_n 0, 1) := by decide +kernel
theorem dX11_eclipse_5 : decode cX11_eclipse 5 = .ok (.getfield 40, 3) := by decide +kernel
theorem dX11_eclipse_8 : decode cX11_eclipse 8 = .ok (.getfield 209, 3) := by decide +kernel
theorem dX11_eclipse_11 : decode cX11_eclipse 11 = .ok (.ifCond .ne 7, 3) := by decide +kernel
theorem dX11_eclipse_14 : decode cX11_eclipse 14 = .ok (.iconst 1, 1) := by decide +kernel
theorem dX11_eclipse_15 : decode cX11_eclipse 15 = .ok (.goto 4, 3) := by decide +kernel
theorem dX11_eclipse_18 : decode cX11_eclipse 18 = .ok (.iconst 0, 1) := by decide +kernel
theorem dX11_eclipse_19 : decode cX11_eclipse 19 = .ok (.putfield 209, 3) := by decide +kernel
theorem dX11_eclipse_22 : decode cX11_eclipse 22 = .ok (.aload_n 0, 1) := by decide +kernel
theorem dX11_eclipse_23 : decode cX11_eclipse 23 = .ok (.getfield 51, 3) := by decide +kernel
theorem dX11_eclipse_26 : decode cX11_eclipse 26 = .ok (.aload_n 0, 1) := by decide +kernel
theorem dX11_eclipse_27 : decode cX11_eclipse 27 = .ok (.getfield 40, 3) := by decide +kernel
theorem dX11_eclipse_30 : decode cX11_eclipse 30 = .ok (.invokevirtual 55, 3) := by decide +kernel
theorem dX11_eclipse_33 : decode cX11_eclipse 33 = .ok (.invokevirtual 202, 3) := by decide +kernel
theorem dX11_eclipse_36 : decode cX11_eclipse 36 = .ok (.aload_n 0, 1) := by decide +kernel
theorem dX11_eclipse_37 : decode cX11_eclipse 37 = .ok (.getfield 40, 3) := by decide +kernel
theorem dX11_eclipse_40 : decode cX11_eclipse 40 = .ok (.getfield 209, 3) := by decide +kernel
theorem dX11_eclipse_43 : decode cX11_eclipse 43 = .ok (.ireturn, 1) := by decide +kernel
theorem dX11_undo_0 : decode cX11_undo 0 = .ok (.aload_n 0, 1) := by decide +kernel
theorem dX11_undo_1 : decode cX11_undo 1 = .ok (.getfield 51, 3) := by decide +kernel
theorem dX11_undo_4 : decode cX11_undo 4 = .ok (.invokevirtual 213, 3) := by decide +kernel
theorem dX11_undo_7 : decode cX11_undo 7 = .ok (.ifCond .ne 5, 3) := by decide +kernel
theorem dX11_undo_10 : decode cX11_undo 10 = .ok (.iconst 0, 1) := by decide +kernel
theorem dX11_undo_11 : decode cX11_undo 11 = .ok (.ireturn, 1) := by decide +kernel
theorem dX11_undo_12 : decode cX11_undo 12 = .ok (.aload_n 0, 1) := by decide +kernel
theorem dX11_undo_13 : decode cX11_undo 13 = .ok (.getfield 40, 3) := by decide +kernel
theorem dX11_undo_16 : decode cX11_undo 16 = .ok (.aload_n 0, 1) := by decide +kernel
theorem dX11_undo_17 : decode cX11_undo 17 = .ok (.getfield 51, 3) := by decide +kernel
theorem dX11_undo_20 : decode cX11_undo 20 = .ok (.invokevirtual 217, 3) := by decide +kernel
theorem dX11_undo_23 : decode cX11_undo 23 = .ok (.invokevirtual 220, 3) := by decide +kernel
theorem dX11_undo_26 : decode cX11_undo 26 = .ok (.iconst 1, 1) := by decide +kernel
theorem dX11_undo_27 : decode cX11_undo 27 = .ok (.ireturn, 1) := by decide +kernel
theorem dX11_redo_0 : decode cX11_redo 0 = .ok (.aload_n 0, 1) := by decide +kernel
theorem dX11_redo_1 : decode cX11_redo 1 = .ok (.getfield 51, 3) := by decide +kernel
theorem dX11_redo_4 : decode cX11_redo 4 = .ok (.invokevirtual 223, 3) := by decide +kernel
theorem dX11_redo_7 : decode cX11_redo 7 = .ok (.ifCond .ne 5, 3) := by decide +kernel
theorem dX11_redo_10 : decode cX11_redo 10 = .ok (.iconst 0, 1) := by decide +kernel
theorem dX11_redo_11 : decode cX11_redo 11 = .ok (.ireturn, 1) := by decide +kernel
theorem dX11_redo_12 : decode cX11_redo 12 = .ok (.aload_n 0, 1) := by decide +kernel
theorem dX11_redo_13 : decode cX11_redo 13 = .ok (.getfield 40, 3) := by decide +kernel
theorem dX11_redo_16 : decode cX11_redo 16 = .ok (.aload_n 0, 1) := by decide +kernel
theorem dX11_redo_17 : decode cX11_redo 17 = .ok (.getfield 51, 3) := by decide +kernel
theorem dX11_redo_20 : decode cX11_redo 20 = .ok (.invokevirtual 217, 3) := by decide +kernel
theorem dX11_redo_23 : decode cX11_redo 23 = .ok (.invokevirtual 220, 3) := by decide +kernel
theorem dX11_redo_26 : decode cX11_redo 26 = .ok (.iconst 1, 1) := by decide +kernel
theorem dX11_redo_27 : decode cX11_redo 27 = .ok (.ireturn, 1) := by decide +kernel
theorem dX11_soonest_0 : decode cX11_soonest 0 = .ok (.aload_n 0, 1) := by decide +kernel
theorem dX11_soonest_1 : decode cX11_soonest 1 = .ok (.getfield 79, 3) := by decide +kernel
theorem dX11_soonest_4 : decode cX11_soonest 4 = .ok (.invokevirtual 108, 3) := by decide +kernel
theorem dX11_soonest_7 : decode cX11_soonest 7 = .ok (.aload_n 0, 1) := by decide +kernel
theorem dX11_soonest_8 : decode cX11_soonest 8 = .ok (.getfield 16, 3) := by decide +kernel
theorem dX11_soonest_11 : decode cX11_soonest 11 = .ok (.iload_n 1, 1) := by decide +kernel
theorem dX11_soonest_12 : decode cX11_soonest 12 = .ok (.invokevirtual 195, 3) := by decide +kernel
theorem dX11_soonest_15 : decode cX11_soonest 15 = .ok (.ifCond .eq 14, 3) := by decide +kernel
theorem dX11_soonest_18 : decode cX11_soonest 18 = .ok (.aload_n 0, 1) := by decide +kernel
theorem dX11_soonest_19 : decode cX11_soonest 19 = .ok (.getfield 16, 3) := by decide +kernel
theorem dX11_soonest_22 : decode cX11_soonest 22 = .ok (.iload_n 2, 1) := by decide +kernel
theorem dX11_soonest_23 : decode cX11_soonest 23 = .ok (.invokevirtual 195, 3) := by decide +kernel
theorem dX11_soonest_26 : decode cX11_soonest 26 = .ok (.ifCond .ne 5, 3) := by decide +kernel
theorem dX11_soonest_29 : decode cX11_soonest 29 = .ok (.iconst (-1), 1) := by decide +kernel
theorem dX11_soonest_30 : decode cX11_soonest 30 = .ok (.ireturn, 1) := by decide +kernel
theorem dX11_soonest_31 : decode cX11_soonest 31 = .ok (.aload_n 0, 1) := by decide +kernel
theorem dX11_soonest_32 : decode cX11_soonest 32 = .ok (.getfield 70, 3) := by decide +kernel
theorem dX11_soonest_35 : decode cX11_soonest 35 = .ok (.aload_n 0, 1) := by decide +kernel
theorem dX11_soonest_36 : decode cX11_soonest 36 = .ok (.getfield 40, 3) := by decide +kernel
theorem dX11_soonest_39 : decode cX11_soonest 39 = .ok (.invokevirtual 183, 3) := by decide +kernel
theorem dX11_soonest_42 : decode cX11_soonest 42 = .ok (.aload_n 0, 1) := by decide +kernel
theorem dX11_soonest_43 : decode cX11_soonest 43 = .ok (.getfield 79, 3) := by decide +kernel
theorem dX11_soonest_46 : decode cX11_soonest 46 = .ok (.iload_n 1, 1) := by decide +kernel
theorem dX11_soonest_47 : decode cX11_soonest 47 = .ok (.iload_n 2, 1) := by decide +kernel
theorem dX11_soonest_48 : decode cX11_soonest 48 = .ok (.invokevirtual 226, 3) := by decide +kernel
theorem dX11_soonest_51 : decode cX11_soonest 51 = .ok (.ireturn, 1) := by decide +kernel
theorem dX11_reach_0 : decode cX11_reach 0 = .ok (.aload_n 0, 1) := by decide +kernel
theorem dX11_reach_1 : decode cX11_reach 1 = .ok (.getfield 16, 3) := by decide +kernel
theorem dX11_reach_4 : decode cX11_reach 4 = .ok (.iload_n 1, 1) := by decide +kernel
theorem dX11_reach_5 : decode cX11_reach 5 = .ok (.invokevirtual 195, 3) := by decide +kernel
theorem dX11_reach_8 : decode cX11_reach 8 = .ok (.ifCond .eq 10, 3) := by decide +kernel
theorem dX11_reach_11 : decode cX11_reach 11 = .ok (.iload_n 2, 1) := by decide +kernel
theorem dX11_reach_12 : decode cX11_reach 12 = .ok (.invokestatic 166, 3) := by decide +kernel
theorem dX11_reach_15 : decode cX11_reach 15 = .ok (.ifCond .ne 5, 3) := by decide +kernel
theorem dX11_reach_18 : decode cX11_reach 18 = .ok (.lconst 0, 1) := by decide +kernel
theorem dX11_reach_19 : decode cX11_reach 19 = .ok (.lreturn, 1) := by decide +kernel
theorem dX11_reach_20 : decode cX11_reach 20 = .ok (.aload_n 0, 1) := by decide +kernel
theorem dX11_reach_21 : decode cX11_reach 21 = .ok (.getfield 70, 3) := by decide +kernel
theorem dX11_reach_24 : decode cX11_reach 24 = .ok (.aload_n 0, 1) := by decide +kernel
theorem dX11_reach_25 : decode cX11_reach 25 = .ok (.getfield 40, 3) := by decide +kernel
theorem dX11_reach_28 : decode cX11_reach 28 = .ok (.invokevirtual 183, 3) := by decide +kernel
theorem dX11_reach_31 : decode cX11_reach 31 = .ok (.aload_n 0, 1) := by decide +kernel
theorem dX11_reach_32 : decode cX11_reach 32 = .ok (.getfield 79, 3) := by decide +kernel
theorem dX11_reach_35 : decode cX11_reach 35 = .ok (.lconst 1, 1) := by decide +kernel
theorem dX11_reach_36 : decode cX11_reach 36 = .ok (.iload_n 1, 1) := by decide +kernel
theorem dX11_reach_37 : decode cX11_reach 37 = .ok (.lshl, 1) := by decide +kernel
theorem dX11_reach_38 : decode cX11_reach 38 = .ok (.iload_n 2, 1) := by decide +kernel
theorem dX11_reach_39 : decode cX11_reach 39 = .ok (.invokevirtual 230, 3) := by decide +kernel
theorem dX11_reach_42 : decode cX11_reach 42 = .ok (.lreturn, 1) := by decide +kernel
theorem dX11_meet_0 : decode cX11_meet 0 = .ok (.aload_n 0, 1) := by decide +kernel
theorem dX11_meet_1 : decode cX11_meet 1 = .ok (.getfield 16, 3) := by decide +kernel
theorem dX11_meet_4 : decode cX11_meet 4 = .ok (.getfield 157, 3) := by decide +kernel
theorem dX11_meet_7 : decode cX11_meet 7 = .ok (.iload_n 1, 1) := by decide +kernel
theorem dX11_meet_8 : decode cX11_meet 8 = .ok (.invokevirtual 126, 3) := by decide +kernel
theorem dX11_meet_11 : decode cX11_meet 11 = .ok (.ifCond .eq 29, 3) := by decide +kernel
theorem dX11_meet_14 : decode cX11_meet 14 = .ok (.aload_n 0, 1) := by decide +kernel
theorem dX11_meet_15 : decode cX11_meet 15 = .ok (.getfield 16, 3) := by decide +kernel
theorem dX11_meet_18 : decode cX11_meet 18 = .ok (.getfield 157, 3) := by decide +kernel
theorem dX11_meet_21 : decode cX11_meet 21 = .ok (.iload_n 2, 1) := by decide +kernel
theorem dX11_meet_22 : decode cX11_meet 22 = .ok (.invokevirtual 126, 3) := by decide +kernel
theorem dX11_meet_25 : decode cX11_meet 25 = .ok (.ifCond .eq 15, 3) := by decide +kernel
theorem dX11_meet_28 : decode cX11_meet 28 = .ok (.iload_n 1, 1) := by decide +kernel
theorem dX11_meet_29 : decode cX11_meet 29 = .ok (.iload_n 2, 1) := by decide +kernel
theorem dX11_meet_30 : decode cX11_meet 30 = .ok (.if_icmp .eq 10, 3) := by decide +kernel
theorem dX11_meet_33 : decode cX11_meet 33 = .ok (.iload_n 3, 1) := by decide +kernel
theorem dX11_meet_34 : decode cX11_meet 34 = .ok (.invokestatic 234, 3) := by decide +kernel
theorem dX11_meet_37 : decode cX11_meet 37 = .ok (.ifCond .ne 5, 3) := by decide +kernel
theorem dX11_meet_40 : decode cX11_meet 40 = .ok (.iconst (-1), 1) := by decide +kernel
theorem dX11_meet_41 : decode cX11_meet 41 = .ok (.ireturn, 1) := by decide +kernel
theorem dX11_meet_42 : decode cX11_meet 42 = .ok (.aload_n 0, 1) := by decide +kernel
theorem dX11_meet_43 : decode cX11_meet 43 = .ok (.getfield 70, 3) := by decide +kernel
theorem dX11_meet_46 : decode cX11_meet 46 = .ok (.aload_n 0, 1) := by decide +kernel
theorem dX11_meet_47 : decode cX11_meet 47 = .ok (.getfield 40, 3) := by decide +kernel
theorem dX11_meet_50 : decode cX11_meet 50 = .ok (.invokevirtual 183, 3) := by decide +kernel
theorem dX11_meet_53 : decode cX11_meet 53 = .ok (.aload_n 0, 1) := by decide +kernel
theorem dX11_meet_54 : decode cX11_meet 54 = .ok (.getfield 79, 3) := by decide +kernel
theorem dX11_meet_57 : decode cX11_meet 57 = .ok (.aload_n 0, 1) := by decide +kernel
theorem dX11_meet_58 : decode cX11_meet 58 = .ok (.getfield 40, 3) := by decide +kernel
theorem dX11_meet_61 : decode cX11_meet 61 = .ok (.getfield 160, 3) := by decide +kernel
theorem dX11_meet_64 : decode cX11_meet 64 = .ok (.iload_n 1, 1) := by decide +kernel
theorem dX11_meet_65 : decode cX11_meet 65 = .ok (.iaload, 1) := by decide +kernel
theorem dX11_meet_66 : decode cX11_meet 66 = .ok (.aload_n 0, 1) := by decide +kernel
theorem dX11_meet_67 : decode cX11_meet 67 = .ok (.getfield 40, 3) := by decide +kernel
theorem dX11_meet_70 : decode cX11_meet 70 = .ok (.getfield 160, 3) := by decide +kernel
theorem dX11_meet_73 : decode cX11_meet 73 = .ok (.iload_n 2, 1) := by decide +kernel
theorem dX11_meet_74 : decode cX11_meet 74 = .ok (.iaload, 1) := by decide +kernel
theorem dX11_meet_75 : decode cX11_meet 75 = .ok (.invokevirtual 237, 3) := by decide +kernel
theorem dX11_meet_78 : decode cX11_meet 78 = .ok (.ifCond .ne 5, 3) := by decide +kernel
theorem dX11_meet_81 : decode cX11_meet 81 = .ok (.iconst (-1), 1) := by decide +kernel
theorem dX11_meet_82 : decode cX11_meet 82 = .ok (.ireturn, 1) := by decide +kernel
theorem dX11_meet_83 : decode cX11_meet 83 = .ok (.iload_n 3, 1) := by decide +kernel
theorem dX11_meet_84 : decode cX11_meet 84 = .ok (.ifCond .ne 13, 3) := by decide +kernel
theorem dX11_meet_87 : decode cX11_meet 87 = .ok (.aload_n 0, 1) := by decide +kernel
theorem dX11_meet_88 : decode cX11_meet 88 = .ok (.getfield 79, 3) := by decide +kernel
theorem dX11_meet_91 : decode cX11_meet 91 = .ok (.getfield 240, 3) := by decide +kernel
theorem dX11_meet_94 : decode cX11_meet 94 = .ok (.goto 10, 3) := by decide +kernel
theorem dX11_meet_97 : decode cX11_meet 97 = .ok (.aload_n 0, 1) := by decide +kernel
theorem dX11_meet_98 : decode cX11_meet 98 = .ok (.getfield 79, 3) := by decide +kernel
theorem dX11_meet_101 : decode cX11_meet 101 = .ok (.getfield 243, 3) := by decide +kernel
theorem dX11_meet_104 : decode cX11_meet 104 = .ok (.ireturn, 1) := by decide +kernel
theorem dX11_barred_0 : decode cX11_barred 0 = .ok (.aload_n 0, 1) := by decide +kernel
theorem dX11_barred_1 : decode cX11_barred 1 = .ok (.getfield 16, 3) := by decide +kernel
theorem dX11_barred_4 : decode cX11_barred 4 = .ok (.iload_n 1, 1) := by decide +kernel
theorem dX11_barred_5 : decode cX11_barred 5 = .ok (.invokevirtual 195, 3) := by decide +kernel
theorem dX11_barred_8 : decode cX11_barred 8 = .ok (.ifCond .eq 10, 3) := by decide +kernel
theorem dX11_barred_11 : decode cX11_barred 11 = .ok (.iload_n 2, 1) := by decide +kernel
theorem dX11_barred_12 : decode cX11_barred 12 = .ok (.invokestatic 166, 3) := by decide +kernel
theorem dX11_barred_15 : decode cX11_barred 15 = .ok (.ifCond .ne 5, 3) := by decide +kernel
theorem dX11_barred_18 : decode cX11_barred 18 = .ok (.lconst 0, 1) := by decide +kernel
theorem dX11_barred_19 : decode cX11_barred 19 = .ok (.lreturn, 1) := by decide +kernel
theorem dX11_barred_20 : decode cX11_barred 20 = .ok (.aload_n 0, 1) := by decide +kernel
theorem dX11_barred_21 : decode cX11_barred 21 = .ok (.getfield 70, 3) := by decide +kernel
theorem dX11_barred_24 : decode cX11_barred 24 = .ok (.aload_n 0, 1) := by decide +kernel
theorem dX11_barred_25 : decode cX11_barred 25 = .ok (.getfield 40, 3) := by decide +kernel
theorem dX11_barred_28 : decode cX11_barred 28 = .ok (.invokevirtual 183, 3) := by decide +kernel
theorem dX11_barred_31 : decode cX11_barred 31 = .ok (.aload_n 0, 1) := by decide +kernel
theorem dX11_barred_32 : decode cX11_barred 32 = .ok (.getfield 16, 3) := by decide +kernel
theorem dX11_barred_35 : decode cX11_barred 35 = .ok (.getfield 246, 3) := by decide +kernel
theorem dX11_barred_38 : decode cX11_barred 38 = .ok (.aload_n 0, 1) := by decide +kernel
theorem dX11_barred_39 : decode cX11_barred 39 = .ok (.getfield 79, 3) := by decide +kernel
theorem dX11_barred_42 : decode cX11_barred 42 = .ok (.lconst 1, 1) := by decide +kernel
theorem dX11_barred_43 : decode cX11_barred 43 = .ok (.iload_n 1, 1) := by decide +kernel
theorem dX11_barred_44 : decode cX11_barred 44 = .ok (.lshl, 1) := by decide +kernel
theorem dX11_barred_45 : decode cX11_barred 45 = .ok (.iload_n 2, 1) := by decide +kernel
theorem dX11_barred_46 : decode cX11_barred 46 = .ok (.invokevirtual 250, 3) := by decide +kernel
theorem dX11_barred_49 : decode cX11_barred 49 = .ok (.ldc2_w 253, 3) := by decide +kernel
theorem dX11_barred_52 : decode cX11_barred 52 = .ok (.lxor, 1) := by decide +kernel
theorem dX11_barred_53 : decode cX11_barred 53 = .ok (.land, 1) := by decide +kernel
theorem dX11_barred_54 : decode cX11_barred 54 = .ok (.lreturn, 1) := by decide +kernel
theorem dX11_longest_0 : decode cX11_longest 0 = .ok (.aload_n 0, 1) := by decide +kernel
theorem dX11_longest_1 : decode cX11_longest 1 = .ok (.getfield 16, 3) := by decide +kernel
theorem dX11_longest_4 : decode cX11_longest 4 = .ok (.getfield 111, 3) := by decide +kernel
theorem dX11_longest_7 : decode cX11_longest 7 = .ok (.iload_n 1, 1) := by decide +kernel
theorem dX11_longest_8 : decode cX11_longest 8 = .ok (.invokevirtual 126, 3) := by decide +kernel
theorem dX11_longest_11 : decode cX11_longest 11 = .ok (.ifCond .eq 10, 3) := by decide +kernel
theorem dX11_longest_14 : decode cX11_longest 14 = .ok (.iload_n 2, 1) := by decide +kernel
theorem dX11_longest_15 : decode cX11_longest 15 = .ok (.invokestatic 234, 3) := by decide +kernel
theorem dX11_longest_18 : decode cX11_longest 18 = .ok (.ifCond .ne 5, 3) := by decide +kernel
theorem dX11_longest_21 : decode cX11_longest 21 = .ok (.iconst (-1), 1) := by decide +kernel
theorem dX11_longest_22 : decode cX11_longest 22 = .ok (.ireturn, 1) := by decide +kernel
theorem dX11_longest_23 : decode cX11_longest 23 = .ok (.aload_n 0, 1) := by decide +kernel
theorem dX11_longest_24 : decode cX11_longest 24 = .ok (.getfield 70, 3) := by decide +kernel
theorem dX11_longest_27 : decode cX11_longest 27 = .ok (.aload_n 0, 1) := by decide +kernel
theorem dX11_longest_28 : decode cX11_longest 28 = .ok (.getfield 40, 3) := by decide +kernel
theorem dX11_longest_31 : decode cX11_longest 31 = .ok (.invokevirtual 183, 3) := by decide +kernel
theorem dX11_longest_34 : decode cX11_longest 34 = .ok (.iconst 0, 1) := by decide +kernel
theorem dX11_longest_35 : decode cX11_longest 35 = .ok (.istore_n 3, 1) := by decide +kernel
theorem dX11_longest_36 : decode cX11_longest 36 = .ok (.iconst 0, 1) := by decide +kernel
theorem dX11_longest_37 : decode cX11_longest 37 = .ok (.istore 4, 2) := by decide +kernel
theorem dX11_longest_39 : decode cX11_longest 39 = .ok (.iconst 0, 1) := by decide +kernel
theorem dX11_longest_40 : decode cX11_longest 40 = .ok (.istore 5, 2) := by decide +kernel
theorem dX11_longest_42 : decode cX11_longest 42 = .ok (.iload 5, 2) := by decide +kernel
theorem dX11_longest_44 : decode cX11_longest 44 = .ok (.bipush 24, 2) := by decide +kernel
theorem dX11_longest_46 : decode cX11_longest 46 = .ok (.if_icmp .ge 38, 3) := by decide +kernel
theorem dX11_longest_49 : decode cX11_longest 49 = .ok (.aload_n 0, 1) := by decide +kernel
theorem dX11_longest_50 : decode cX11_longest 50 = .ok (.getfield 70, 3) := by decide +kernel
theorem dX11_longest_53 : decode cX11_longest 53 = .ok (.iload_n 1, 1) := by decide +kernel
theorem dX11_longest_54 : decode cX11_longest 54 = .ok (.iload 5, 2) := by decide +kernel
theorem dX11_longest_56 : decode cX11_longest 56 = .ok (.invokevirtual 187, 3) := by decide +kernel
theorem dX11_longest_59 : decode cX11_longest 59 = .ok (.invokestatic 255, 3) := by decide +kernel
theorem dX11_longest_62 : decode cX11_longest 62 = .ok (.istore 6, 2) := by decide +kernel
theorem dX11_longest_64 : decode cX11_longest 64 = .ok (.iload 6, 2) := by decide +kernel
theorem dX11_longest_66 : decode cX11_longest 66 = .ok (.iload 4, 2) := by decide +kernel
theorem dX11_longest_68 : decode cX11_longest 68 = .ok (.if_icmp .le 10, 3) := by decide +kernel
theorem dX11_longest_71 : decode cX11_longest 71 = .ok (.iload 6, 2) := by decide +kernel
theorem dX11_longest_73 : decode cX11_longest 73 = .ok (.istore 4, 2) := by decide +kernel
theorem dX11_longest_75 : decode cX11_longest 75 = .ok (.iload 5, 2) := by decide +kernel
theorem dX11_longest_77 : decode cX11_longest 77 = .ok (.istore_n 3, 1) := by decide +kernel
theorem dX11_longest_78 : decode cX11_longest 78 = .ok (.iinc 5 1, 3) := by decide +kernel
theorem dX11_longest_81 : decode cX11_longest 81 = .ok (.goto (-39), 3) := by decide +kernel
theorem dX11_longest_84 : decode cX11_longest 84 = .ok (.iload_n 2, 1) := by decide +kernel
theorem dX11_longest_85 : decode cX11_longest 85 = .ok (.ifCond .ne 7, 3) := by decide +kernel
theorem dX11_longest_88 : decode cX11_longest 88 = .ok (.iload_n 3, 1) := by decide +kernel
theorem dX11_longest_89 : decode cX11_longest 89 = .ok (.goto 5, 3) := by decide +kernel
theorem dX11_longest_92 : decode cX11_longest 92 = .ok (.iload 4, 2) := by decide +kernel
theorem dX11_longest_94 : decode cX11_longest 94 = .ok (.ireturn, 1) := by decide +kernel
theorem dX11_cross_0 : decode cX11_cross 0 = .ok (.aload_n 0, 1) := by decide +kernel
theorem dX11_cross_1 : decode cX11_cross 1 = .ok (.getfield 16, 3) := by decide +kernel
theorem dX11_cross_4 : decode cX11_cross 4 = .ok (.getfield 111, 3) := by decide +kernel
theorem dX11_cross_7 : decode cX11_cross 7 = .ok (.iload_n 1, 1) := by decide +kernel
theorem dX11_cross_8 : decode cX11_cross 8 = .ok (.invokevirtual 126, 3) := by decide +kernel
theorem dX11_cross_11 : decode cX11_cross 11 = .ok (.ifCond .eq 29, 3) := by decide +kernel
theorem dX11_cross_14 : decode cX11_cross 14 = .ok (.aload_n 0, 1) := by decide +kernel
theorem dX11_cross_15 : decode cX11_cross 15 = .ok (.getfield 16, 3) := by decide +kernel
theorem dX11_cross_18 : decode cX11_cross 18 = .ok (.getfield 111, 3) := by decide +kernel
theorem dX11_cross_21 : decode cX11_cross 21 = .ok (.iload_n 2, 1) := by decide +kernel
theorem dX11_cross_22 : decode cX11_cross 22 = .ok (.invokevirtual 126, 3) := by decide +kernel
theorem dX11_cross_25 : decode cX11_cross 25 = .ok (.ifCond .eq 15, 3) := by decide +kernel
theorem dX11_cross_28 : decode cX11_cross 28 = .ok (.iload_n 1, 1) := by decide +kernel
theorem dX11_cross_29 : decode cX11_cross 29 = .ok (.iload_n 2, 1) := by decide +kernel
theorem dX11_cross_30 : decode cX11_cross 30 = .ok (.if_icmp .eq 10, 3) := by decide +kernel
theorem dX11_cross_33 : decode cX11_cross 33 = .ok (.iload_n 3, 1) := by decide +kernel
theorem dX11_cross_34 : decode cX11_cross 34 = .ok (.invokestatic 234, 3) := by decide +kernel
theorem dX11_cross_37 : decode cX11_cross 37 = .ok (.ifCond .ne 5, 3) := by decide +kernel
theorem dX11_cross_40 : decode cX11_cross 40 = .ok (.iconst (-1), 1) := by decide +kernel
theorem dX11_cross_41 : decode cX11_cross 41 = .ok (.ireturn, 1) := by decide +kernel
theorem dX11_cross_42 : decode cX11_cross 42 = .ok (.aload_n 0, 1) := by decide +kernel
theorem dX11_cross_43 : decode cX11_cross 43 = .ok (.getfield 70, 3) := by decide +kernel
theorem dX11_cross_46 : decode cX11_cross 46 = .ok (.aload_n 0, 1) := by decide +kernel
theorem dX11_cross_47 : decode cX11_cross 47 = .ok (.getfield 40, 3) := by decide +kernel
theorem dX11_cross_50 : decode cX11_cross 50 = .ok (.invokevirtual 183, 3) := by decide +kernel
theorem dX11_cross_53 : decode cX11_cross 53 = .ok (.iconst 0, 1) := by decide +kernel
theorem dX11_cross_54 : decode cX11_cross 54 = .ok (.istore 4, 2) := by decide +kernel
theorem dX11_cross_56 : decode cX11_cross 56 = .ok (.iload 4, 2) := by decide +kernel
theorem dX11_cross_58 : decode cX11_cross 58 = .ok (.bipush 48, 2) := by decide +kernel
theorem dX11_cross_60 : decode cX11_cross 60 = .ok (.if_icmp .gt 83, 3) := by decide +kernel
theorem dX11_cross_63 : decode cX11_cross 63 = .ok (.aload_n 0, 1) := by decide +kernel
theorem dX11_cross_64 : decode cX11_cross 64 = .ok (.getfield 70, 3) := by decide +kernel
theorem dX11_cross_67 : decode cX11_cross 67 = .ok (.iload 4, 2) := by decide +kernel
theorem dX11_cross_69 : decode cX11_cross 69 = .ok (.invokevirtual 191, 3) := by decide +kernel
theorem dX11_cross_72 : decode cX11_cross 72 = .ok (.istore 5, 2) := by decide +kernel
theorem dX11_cross_74 : decode cX11_cross 74 = .ok (.iload 5, 2) := by decide +kernel
theorem dX11_cross_76 : decode cX11_cross 76 = .ok (.iload_n 1, 1) := by decide +kernel
theorem dX11_cross_77 : decode cX11_cross 77 = .ok (.invokestatic 148, 3) := by decide +kernel
theorem dX11_cross_80 : decode cX11_cross 80 = .ok (.ifCond .eq 57, 3) := by decide +kernel
theorem dX11_cross_83 : decode cX11_cross 83 = .ok (.iload 5, 2) := by decide +kernel
theorem dX11_cross_85 : decode cX11_cross 85 = .ok (.iload_n 2, 1) := by decide +kernel
theorem dX11_cross_86 : decode cX11_cross 86 = .ok (.invokestatic 148, 3) := by decide +kernel
theorem dX11_cross_89 : decode cX11_cross 89 = .ok (.ifCond .eq 48, 3) := by decide +kernel
theorem dX11_cross_92 : decode cX11_cross 92 = .ok (.aload_n 0, 1) := by decide +kernel
theorem dX11_cross_93 : decode cX11_cross 93 = .ok (.getfield 70, 3) := by decide +kernel
theorem dX11_cross_96 : decode cX11_cross 96 = .ok (.iload_n 1, 1) := by decide +kernel
theorem dX11_cross_97 : decode cX11_cross 97 = .ok (.iload 4, 2) := by decide +kernel
theorem dX11_cross_99 : decode cX11_cross 99 = .ok (.invokevirtual 187, 3) := by decide +kernel
theorem dX11_cross_102 : decode cX11_cross 102 = .ok (.aload_n 0, 1) := by decide +kernel
theorem dX11_cross_103 : decode cX11_cross 103 = .ok (.getfield 70, 3) := by decide +kernel
theorem dX11_cross_106 : decode cX11_cross 106 = .ok (.iload_n 2, 1) := by decide +kernel
theorem dX11_cross_107 : decode cX11_cross 107 = .ok (.iload 4, 2) := by decide +kernel
theorem dX11_cross_109 : decode cX11_cross 109 = .ok (.invokevirtual 187, 3) := by decide +kernel
theorem dX11_cross_112 : decode cX11_cross 112 = .ok (.land, 1) := by decide +kernel
theorem dX11_cross_113 : decode cX11_cross 113 = .ok (.lstore 6, 2) := by decide +kernel
theorem dX11_cross_115 : decode cX11_cross 115 = .ok (.lload 6, 2) := by decide +kernel
theorem dX11_cross_117 : decode cX11_cross 117 = .ok (.lconst 0, 1) := by decide +kernel
theorem dX11_cross_118 : decode cX11_cross 118 = .ok (.lcmp, 1) := by decide +kernel
theorem dX11_cross_119 : decode cX11_cross 119 = .ok (.ifCond .eq 18, 3) := by decide +kernel
theorem dX11_cross_122 : decode cX11_cross 122 = .ok (.iload_n 3, 1) := by decide +kernel
theorem dX11_cross_123 : decode cX11_cross 123 = .ok (.ifCond .ne 8, 3) := by decide +kernel
theorem dX11_cross_126 : decode cX11_cross 126 = .ok (.iload 4, 2) := by decide +kernel
theorem dX11_cross_128 : decode cX11_cross 128 = .ok (.goto 8, 3) := by decide +kernel
theorem dX11_cross_131 : decode cX11_cross 131 = .ok (.lload 6, 2) := by decide +kernel
theorem dX11_cross_133 : decode cX11_cross 133 = .ok (.invokestatic 261, 3) := by decide +kernel
theorem dX11_cross_136 : decode cX11_cross 136 = .ok (.ireturn, 1) := by decide +kernel
theorem dX11_cross_137 : decode cX11_cross 137 = .ok (.iinc 4 1, 3) := by decide +kernel
theorem dX11_cross_140 : decode cX11_cross 140 = .ok (.goto (-84), 3) := by decide +kernel
theorem dX11_cross_143 : decode cX11_cross 143 = .ok (.iconst (-1), 1) := by decide +kernel
theorem dX11_cross_144 : decode cX11_cross 144 = .ok (.ireturn, 1) := by decide +kernel
theorem dX11_rooms_0 : decode cX11_rooms 0 = .ok (.iload_n 1, 1) := by decide +kernel
theorem dX11_rooms_1 : decode cX11_rooms 1 = .ok (.invokestatic 166, 3) := by decide +kernel
theorem dX11_rooms_4 : decode cX11_rooms 4 = .ok (.ifCond .ne 5, 3) := by decide +kernel
theorem dX11_rooms_7 : decode cX11_rooms 7 = .ok (.iconst (-1), 1) := by decide +kernel
theorem dX11_rooms_8 : decode cX11_rooms 8 = .ok (.ireturn, 1) := by decide +kernel
theorem dX11_rooms_9 : decode cX11_rooms 9 = .ok (.aload_n 0, 1) := by decide +kernel
theorem dX11_rooms_10 : decode cX11_rooms 10 = .ok (.getfield 70, 3) := by decide +kernel
theorem dX11_rooms_13 : decode cX11_rooms 13 = .ok (.aload_n 0, 1) := by decide +kernel
theorem dX11_rooms_14 : decode cX11_rooms 14 = .ok (.getfield 40, 3) := by decide +kernel
theorem dX11_rooms_17 : decode cX11_rooms 17 = .ok (.invokevirtual 183, 3) := by decide +kernel
theorem dX11_rooms_20 : decode cX11_rooms 20 = .ok (.aload_n 0, 1) := by decide +kernel
theorem dX11_rooms_21 : decode cX11_rooms 21 = .ok (.getfield 79, 3) := by decide +kernel
theorem dX11_rooms_24 : decode cX11_rooms 24 = .ok (.iload_n 1, 1) := by decide +kernel
theorem dX11_rooms_25 : decode cX11_rooms 25 = .ok (.invokevirtual 264, 3) := by decide +kernel
theorem dX11_rooms_28 : decode cX11_rooms 28 = .ok (.ireturn, 1) := by decide +kernel
theorem dX11_hears_0 : decode cX11_hears 0 = .ok (.aload_n 0, 1) := by decide +kernel
theorem dX11_hears_1 : decode cX11_hears 1 = .ok (.getfield 16, 3) := by decide +kernel
theorem dX11_hears_4 : decode cX11_hears 4 = .ok (.iload_n 1, 1) := by decide +kernel
theorem dX11_hears_5 : decode cX11_hears 5 = .ok (.invokevirtual 195, 3) := by decide +kernel
theorem dX11_hears_8 : decode cX11_hears 8 = .ok (.ifCond .eq 21, 3) := by decide +kernel
theorem dX11_hears_11 : decode cX11_hears 11 = .ok (.aload_n 0, 1) := by decide +kernel
theorem dX11_hears_12 : decode cX11_hears 12 = .ok (.getfield 16, 3) := by decide +kernel
theorem dX11_hears_15 : decode cX11_hears 15 = .ok (.iload_n 2, 1) := by decide +kernel
theorem dX11_hears_16 : decode cX11_hears 16 = .ok (.invokevirtual 195, 3) := by decide +kernel
theorem dX11_hears_19 : decode cX11_hears 19 = .ok (.ifCond .eq 10, 3) := by decide +kernel
theorem dX11_hears_22 : decode cX11_hears 22 = .ok (.iload_n 3, 1) := by decide +kernel
theorem dX11_hears_23 : decode cX11_hears 23 = .ok (.invokestatic 166, 3) := by decide +kernel
theorem dX11_hears_26 : decode cX11_hears 26 = .ok (.ifCond .ne 5, 3) := by decide +kernel
theorem dX11_hears_29 : decode cX11_hears 29 = .ok (.iconst (-1), 1) := by decide +kernel
theorem dX11_hears_30 : decode cX11_hears 30 = .ok (.ireturn, 1) := by decide +kernel
theorem dX11_hears_31 : decode cX11_hears 31 = .ok (.aload_n 0, 1) := by decide +kernel
theorem dX11_hears_32 : decode cX11_hears 32 = .ok (.getfield 70, 3) := by decide +kernel
theorem dX11_hears_35 : decode cX11_hears 35 = .ok (.aload_n 0, 1) := by decide +kernel
theorem dX11_hears_36 : decode cX11_hears 36 = .ok (.getfield 40, 3) := by decide +kernel
theorem dX11_hears_39 : decode cX11_hears 39 = .ok (.invokevirtual 183, 3) := by decide +kernel
theorem dX11_hears_42 : decode cX11_hears 42 = .ok (.aload_n 0, 1) := by decide +kernel
theorem dX11_hears_43 : decode cX11_hears 43 = .ok (.getfield 79, 3) := by decide +kernel
theorem dX11_hears_46 : decode cX11_hears 46 = .ok (.lconst 1, 1) := by decide +kernel
theorem dX11_hears_47 : decode cX11_hears 47 = .ok (.iload_n 1, 1) := by decide +kernel
theorem dX11_hears_48 : decode cX11_hears 48 = .ok (.lshl, 1) := by decide +kernel
theorem dX11_hears_49 : decode cX11_hears 49 = .ok (.iload_n 3, 1) := by decide +kernel
theorem dX11_hears_50 : decode cX11_hears 50 = .ok (.invokevirtual 267, 3) := by decide +kernel
theorem dX11_hears_53 : decode cX11_hears 53 = .ok (.iload_n 2, 1) := by decide +kernel
theorem dX11_hears_54 : decode cX11_hears 54 = .ok (.lushr, 1) := by decide +kernel
theorem dX11_hears_55 : decode cX11_hears 55 = .ok (.lconst 1, 1) := by decide +kernel
theorem dX11_hears_56 : decode cX11_hears 56 = .ok (.land, 1) := by decide +kernel
theorem dX11_hears_57 : decode cX11_hears 57 = .ok (.lconst 0, 1) := by decide +kernel
theorem dX11_hears_58 : decode cX11_hears 58 = .ok (.lcmp, 1) := by decide +kernel
theorem dX11_hears_59 : decode cX11_hears 59 = .ok (.ifCond .eq 7, 3) := by decide +kernel
theorem dX11_hears_62 : decode cX11_hears 62 = .ok (.iconst 1, 1) := by decide +kernel
theorem dX11_hears_63 : decode cX11_hears 63 = .ok (.goto 4, 3) := by decide +kernel
theorem dX11_hears_66 : decode cX11_hears 66 = .ok (.iconst 0, 1) := by decide +kernel
theorem dX11_hears_67 : decode cX11_hears 67 = .ok (.ireturn, 1) := by decide +kernel
theorem dX11_keep_0 : decode cX11_keep 0 = .ok (.aload_n 0, 1) := by decide +kernel
theorem dX11_keep_1 : decode cX11_keep 1 = .ok (.iload_n 1, 1) := by decide +kernel
theorem dX11_keep_2 : decode cX11_keep 2 = .ok (.iload_n 2, 1) := by decide +kernel
theorem dX11_keep_3 : decode cX11_keep 3 = .ok (.iload_n 3, 1) := by decide +kernel
theorem dX11_keep_4 : decode cX11_keep 4 = .ok (.bipush 24, 2) := by decide +kernel
theorem dX11_keep_6 : decode cX11_keep 6 = .ok (.invokevirtual 270, 3) := by decide +kernel
theorem dX11_keep_9 : decode cX11_keep 9 = .ok (.ifCond .eq 11, 3) := by decide +kernel
theorem dX11_keep_12 : decode cX11_keep 12 = .ok (.iload 4, 2) := by decide +kernel
theorem dX11_keep_14 : decode cX11_keep 14 = .ok (.invokestatic 234, 3) := by decide +kernel
theorem dX11_keep_17 : decode cX11_keep 17 = .ok (.ifCond .ne 5, 3) := by decide +kernel
theorem dX11_keep_20 : decode cX11_keep 20 = .ok (.iconst (-1), 1) := by decide +kernel
theorem dX11_keep_21 : decode cX11_keep 21 = .ok (.ireturn, 1) := by decide +kernel
theorem dX11_keep_22 : decode cX11_keep 22 = .ok (.aload_n 0, 1) := by decide +kernel
theorem dX11_keep_23 : decode cX11_keep 23 = .ok (.getfield 70, 3) := by decide +kernel
theorem dX11_keep_26 : decode cX11_keep 26 = .ok (.aload_n 0, 1) := by decide +kernel
theorem dX11_keep_27 : decode cX11_keep 27 = .ok (.getfield 40, 3) := by decide +kernel
theorem dX11_keep_30 : decode cX11_keep 30 = .ok (.invokevirtual 183, 3) := by decide +kernel
theorem dX11_keep_33 : decode cX11_keep 33 = .ok (.aload_n 0, 1) := by decide +kernel
theorem dX11_keep_34 : decode cX11_keep 34 = .ok (.getfield 79, 3) := by decide +kernel
theorem dX11_keep_37 : decode cX11_keep 37 = .ok (.iload_n 1, 1) := by decide +kernel
theorem dX11_keep_38 : decode cX11_keep 38 = .ok (.iload_n 2, 1) := by decide +kernel
theorem dX11_keep_39 : decode cX11_keep 39 = .ok (.iload_n 3, 1) := by decide +kernel
theorem dX11_keep_40 : decode cX11_keep 40 = .ok (.invokevirtual 274, 3) := by decide +kernel
theorem dX11_keep_43 : decode cX11_keep 43 = .ok (.iload 4, 2) := by decide +kernel
theorem dX11_keep_45 : decode cX11_keep 45 = .ok (.invokestatic 277, 3) := by decide +kernel
theorem dX11_keep_48 : decode cX11_keep 48 = .ok (.ireturn, 1) := by decide +kernel
theorem dX11_free_0 : decode cX11_free 0 = .ok (.aload_n 0, 1) := by decide +kernel
theorem dX11_free_1 : decode cX11_free 1 = .ok (.iload_n 1, 1) := by decide +kernel
theorem dX11_free_2 : decode cX11_free 2 = .ok (.iload_n 2, 1) := by decide +kernel
theorem dX11_free_3 : decode cX11_free 3 = .ok (.iload_n 3, 1) := by decide +kernel
theorem dX11_free_4 : decode cX11_free 4 = .ok (.bipush 24, 2) := by decide +kernel
theorem dX11_free_6 : decode cX11_free 6 = .ok (.invokevirtual 270, 3) := by decide +kernel
theorem dX11_free_9 : decode cX11_free 9 = .ok (.ifCond .eq 11, 3) := by decide +kernel
theorem dX11_free_12 : decode cX11_free 12 = .ok (.iload 4, 2) := by decide +kernel
theorem dX11_free_14 : decode cX11_free 14 = .ok (.invokestatic 234, 3) := by decide +kernel
theorem dX11_free_17 : decode cX11_free 17 = .ok (.ifCond .ne 5, 3) := by decide +kernel
theorem dX11_free_20 : decode cX11_free 20 = .ok (.iconst (-1), 1) := by decide +kernel
theorem dX11_free_21 : decode cX11_free 21 = .ok (.ireturn, 1) := by decide +kernel
theorem dX11_free_22 : decode cX11_free 22 = .ok (.aload_n 0, 1) := by decide +kernel
theorem dX11_free_23 : decode cX11_free 23 = .ok (.getfield 70, 3) := by decide +kernel
theorem dX11_free_26 : decode cX11_free 26 = .ok (.aload_n 0, 1) := by decide +kernel
theorem dX11_free_27 : decode cX11_free 27 = .ok (.getfield 40, 3) := by decide +kernel
theorem dX11_free_30 : decode cX11_free 30 = .ok (.invokevirtual 183, 3) := by decide +kernel
theorem dX11_free_33 : decode cX11_free 33 = .ok (.aload_n 0, 1) := by decide +kernel
theorem dX11_free_34 : decode cX11_free 34 = .ok (.getfield 79, 3) := by decide +kernel
theorem dX11_free_37 : decode cX11_free 37 = .ok (.iload_n 1, 1) := by decide +kernel
theorem dX11_free_38 : decode cX11_free 38 = .ok (.iload_n 2, 1) := by decide +kernel
theorem dX11_free_39 : decode cX11_free 39 = .ok (.iload_n 3, 1) := by decide +kernel
theorem dX11_free_40 : decode cX11_free 40 = .ok (.invokevirtual 280, 3) := by decide +kernel
theorem dX11_free_43 : decode cX11_free 43 = .ok (.iload 4, 2) := by decide +kernel
theorem dX11_free_45 : decode cX11_free 45 = .ok (.invokestatic 277, 3) := by decide +kernel
theorem dX11_free_48 : decode cX11_free 48 = .ok (.ireturn, 1) := by decide +kernel
theorem dX11_surest_0 : decode cX11_surest 0 = .ok (.aload_n 0, 1) := by decide +kernel
theorem dX11_surest_1 : decode cX11_surest 1 = .ok (.iload_n 1, 1) := by decide +kernel
theorem dX11_surest_2 : decode cX11_surest 2 = .ok (.iload_n 2, 1) := by decide +kernel
theorem dX11_surest_3 : decode cX11_surest 3 = .ok (.iload_n 3, 1) := by decide +kernel
theorem dX11_surest_4 : decode cX11_surest 4 = .ok (.bipush 8, 2) := by decide +kernel
theorem dX11_surest_6 : decode cX11_surest 6 = .ok (.invokevirtual 270, 3) := by decide +kernel
theorem dX11_surest_9 : decode cX11_surest 9 = .ok (.ifCond .eq 11, 3) := by decide +kernel
theorem dX11_surest_12 : decode cX11_surest 12 = .ok (.iload 4, 2) := by decide +kernel
theorem dX11_surest_14 : decode cX11_surest 14 = .ok (.invokestatic 234, 3) := by decide +kernel
theorem dX11_surest_17 : decode cX11_surest 17 = .ok (.ifCond .ne 7, 3) := by decide +kernel
theorem dX11_surest_20 : decode cX11_surest 20 = .ok (.ldc2_w 253, 3) := by decide +kernel
theorem dX11_surest_23 : decode cX11_surest 23 = .ok (.lreturn, 1) := by decide +kernel
theorem dX11_surest_24 : decode cX11_surest 24 = .ok (.aload_n 0, 1) := by decide +kernel
theorem dX11_surest_25 : decode cX11_surest 25 = .ok (.getfield 70, 3) := by decide +kernel
theorem dX11_surest_28 : decode cX11_surest 28 = .ok (.aload_n 0, 1) := by decide +kernel
theorem dX11_surest_29 : decode cX11_surest 29 = .ok (.getfield 40, 3) := by decide +kernel
theorem dX11_surest_32 : decode cX11_surest 32 = .ok (.invokevirtual 183, 3) := by decide +kernel
theorem dX11_surest_35 : decode cX11_surest 35 = .ok (.aload_n 0, 1) := by decide +kernel
theorem dX11_surest_36 : decode cX11_surest 36 = .ok (.getfield 79, 3) := by decide +kernel
theorem dX11_surest_39 : decode cX11_surest 39 = .ok (.iload_n 1, 1) := by decide +kernel
theorem dX11_surest_40 : decode cX11_surest 40 = .ok (.iload_n 2, 1) := by decide +kernel
theorem dX11_surest_41 : decode cX11_surest 41 = .ok (.iload_n 3, 1) := by decide +kernel
theorem dX11_surest_42 : decode cX11_surest 42 = .ok (.invokevirtual 283, 3) := by decide +kernel
theorem dX11_surest_45 : decode cX11_surest 45 = .ok (.iload 4, 2) := by decide +kernel
theorem dX11_surest_47 : decode cX11_surest 47 = .ok (.ifCond .ne 13, 3) := by decide +kernel
theorem dX11_surest_50 : decode cX11_surest 50 = .ok (.aload_n 0, 1) := by decide +kernel
theorem dX11_surest_51 : decode cX11_surest 51 = .ok (.getfield 79, 3) := by decide +kernel
theorem dX11_surest_54 : decode cX11_surest 54 = .ok (.getfield 287, 3) := by decide +kernel
theorem dX11_surest_57 : decode cX11_surest 57 = .ok (.goto 10, 3) := by decide +kernel
theorem dX11_surest_60 : decode cX11_surest 60 = .ok (.aload_n 0, 1) := by decide +kernel
theorem dX11_surest_61 : decode cX11_surest 61 = .ok (.getfield 79, 3) := by decide +kernel
theorem dX11_surest_64 : decode cX11_surest 64 = .ok (.getfield 290, 3) := by decide +kernel
theorem dX11_surest_67 : decode cX11_surest 67 = .ok (.lreturn, 1) := by decide +kernel
theorem dX11_dates_0 : decode cX11_dates 0 = .ok (.aload_n 0, 1) := by decide +kernel
theorem dX11_dates_1 : decode cX11_dates 1 = .ok (.iload_n 1, 1) := by decide +kernel
theorem dX11_dates_2 : decode cX11_dates 2 = .ok (.iload_n 2, 1) := by decide +kernel
theorem dX11_dates_3 : decode cX11_dates 3 = .ok (.iload_n 3, 1) := by decide +kernel
theorem dX11_dates_4 : decode cX11_dates 4 = .ok (.bipush 24, 2) := by decide +kernel
theorem dX11_dates_6 : decode cX11_dates 6 = .ok (.invokevirtual 270, 3) := by decide +kernel
theorem dX11_dates_9 : decode cX11_dates 9 = .ok (.ifCond .ne 5, 3) := by decide +kernel
theorem dX11_dates_12 : decode cX11_dates 12 = .ok (.iconst (-1), 1) := by decide +kernel
theorem dX11_dates_13 : decode cX11_dates 13 = .ok (.ireturn, 1) := by decide +kernel
theorem dX11_dates_14 : decode cX11_dates 14 = .ok (.iload 4, 2) := by decide +kernel
theorem dX11_dates_16 : decode cX11_dates 16 = .ok (.ifCond .lt 9, 3) := by decide +kernel
theorem dX11_dates_19 : decode cX11_dates 19 = .ok (.iload 4, 2) := by decide +kernel
theorem dX11_dates_21 : decode cX11_dates 21 = .ok (.iconst 2, 1) := by decide +kernel
theorem dX11_dates_22 : decode cX11_dates 22 = .ok (.if_icmp .le 5, 3) := by decide +kernel
theorem dX11_dates_25 : decode cX11_dates 25 = .ok (.iconst (-1), 1) := by decide +kernel
theorem dX11_dates_26 : decode cX11_dates 26 = .ok (.ireturn, 1) := by decide +kernel
theorem dX11_dates_27 : decode cX11_dates 27 = .ok (.aload_n 0, 1) := by decide +kernel
theorem dX11_dates_28 : decode cX11_dates 28 = .ok (.getfield 70, 3) := by decide +kernel
theorem dX11_dates_31 : decode cX11_dates 31 = .ok (.aload_n 0, 1) := by decide +kernel
theorem dX11_dates_32 : decode cX11_dates 32 = .ok (.getfield 40, 3) := by decide +kernel
theorem dX11_dates_35 : decode cX11_dates 35 = .ok (.invokevirtual 183, 3) := by decide +kernel
theorem dX11_dates_38 : decode cX11_dates 38 = .ok (.aload_n 0, 1) := by decide +kernel
theorem dX11_dates_39 : decode cX11_dates 39 = .ok (.getfield 79, 3) := by decide +kernel
theorem dX11_dates_42 : decode cX11_dates 42 = .ok (.iload_n 1, 1) := by decide +kernel
theorem dX11_dates_43 : decode cX11_dates 43 = .ok (.iload_n 2, 1) := by decide +kernel
theorem dX11_dates_44 : decode cX11_dates 44 = .ok (.iload_n 3, 1) := by decide +kernel
theorem dX11_dates_45 : decode cX11_dates 45 = .ok (.iload 4, 2) := by decide +kernel
theorem dX11_dates_47 : decode cX11_dates 47 = .ok (.invokevirtual 293, 3) := by decide +kernel
theorem dX11_dates_50 : decode cX11_dates 50 = .ok (.ireturn, 1) := by decide +kernel
theorem dX11_lies_0 : decode cX11_lies 0 = .ok (.iload_n 1, 1) := by decide +kernel
theorem dX11_lies_1 : decode cX11_lies 1 = .ok (.ifCond .lt 26, 3) := by decide +kernel
theorem dX11_lies_4 : decode cX11_lies 4 = .ok (.iload_n 1, 1) := by decide +kernel
theorem dX11_lies_5 : decode cX11_lies 5 = .ok (.aload_n 0, 1) := by decide +kernel
theorem dX11_lies_6 : decode cX11_lies 6 = .ok (.getfield 79, 3) := by decide +kernel
theorem dX11_lies_9 : decode cX11_lies 9 = .ok (.getfield 297, 3) := by decide +kernel
theorem dX11_lies_12 : decode cX11_lies 12 = .ok (.if_icmp .ge 15, 3) := by decide +kernel
theorem dX11_lies_15 : decode cX11_lies 15 = .ok (.aload_n 0, 1) := by decide +kernel
theorem dX11_lies_16 : decode cX11_lies 16 = .ok (.getfield 79, 3) := by decide +kernel
theorem dX11_lies_19 : decode cX11_lies 19 = .ok (.getfield 300, 3) := by decide +kernel
theorem dX11_lies_22 : decode cX11_lies 22 = .ok (.iload_n 1, 1) := by decide +kernel
theorem dX11_lies_23 : decode cX11_lies 23 = .ok (.iaload, 1) := by decide +kernel
theorem dX11_lies_24 : decode cX11_lies 24 = .ok (.goto 4, 3) := by decide +kernel
theorem dX11_lies_27 : decode cX11_lies 27 = .ok (.iconst (-1), 1) := by decide +kernel
theorem dX11_lies_28 : decode cX11_lies 28 = .ok (.ireturn, 1) := by decide +kernel
theorem dX11_look_0 : decode cX11_look 0 = .ok (.iload_n 1, 1) := by decide +kernel
theorem dX11_look_1 : decode cX11_look 1 = .ok (.ifCond .lt 20, 3) := by decide +kernel
theorem dX11_look_4 : decode cX11_look 4 = .ok (.iload_n 1, 1) := by decide +kernel
theorem dX11_look_5 : decode cX11_look 5 = .ok (.bipush 24, 2) := by decide +kernel
theorem dX11_look_7 : decode cX11_look 7 = .ok (.if_icmp .ge 14, 3) := by decide +kernel
theorem dX11_look_10 : decode cX11_look 10 = .ok (.aload_n 0, 1) := by decide +kernel
theorem dX11_look_11 : decode cX11_look 11 = .ok (.getfield 16, 3) := by decide +kernel
theorem dX11_look_14 : decode cX11_look 14 = .ok (.iload_n 2, 1) := by decide +kernel
theorem dX11_look_15 : decode cX11_look 15 = .ok (.invokevirtual 195, 3) := by decide +kernel
theorem dX11_look_18 : decode cX11_look 18 = .ok (.ifCond .ne 5, 3) := by decide +kernel
theorem dX11_look_21 : decode cX11_look 21 = .ok (.iconst (-1), 1) := by decide +kernel
theorem dX11_look_22 : decode cX11_look 22 = .ok (.ireturn, 1) := by decide +kernel
theorem dX11_look_23 : decode cX11_look 23 = .ok (.aload_n 0, 1) := by decide +kernel
theorem dX11_look_24 : decode cX11_look 24 = .ok (.getfield 86, 3) := by decide +kernel
theorem dX11_look_27 : decode cX11_look 27 = .ok (.iload_n 1, 1) := by decide +kernel
theorem dX11_look_28 : decode cX11_look 28 = .ok (.iload_n 2, 1) := by decide +kernel
theorem dX11_look_29 : decode cX11_look 29 = .ok (.iload_n 3, 1) := by decide +kernel
theorem dX11_look_30 : decode cX11_look 30 = .ok (.invokevirtual 303, 3) := by decide +kernel
theorem dX11_look_33 : decode cX11_look 33 = .ok (.ireturn, 1) := by decide +kernel
theorem dX11_untell_0 : decode cX11_untell 0 = .ok (.aload_n 0, 1) := by decide +kernel
theorem dX11_untell_1 : decode cX11_untell 1 = .ok (.getfield 86, 3) := by decide +kernel
theorem dX11_untell_4 : decode cX11_untell 4 = .ok (.iload_n 1, 1) := by decide +kernel
theorem dX11_untell_5 : decode cX11_untell 5 = .ok (.invokevirtual 307, 3) := by decide +kernel
theorem dX11_untell_8 : decode cX11_untell 8 = .ok (.ireturn, 1) := by decide +kernel
theorem dX11_later_0 : decode cX11_later 0 = .ok (.iload_n 1, 1) := by decide +kernel
theorem dX11_later_1 : decode cX11_later 1 = .ok (.ifCond .lt 25, 3) := by decide +kernel
theorem dX11_later_4 : decode cX11_later 4 = .ok (.iload_n 1, 1) := by decide +kernel
theorem dX11_later_5 : decode cX11_later 5 = .ok (.sipush 1000, 3) := by decide +kernel
theorem dX11_later_8 : decode cX11_later 8 = .ok (.if_icmp .gt 18, 3) := by decide +kernel
theorem dX11_later_11 : decode cX11_later 11 = .ok (.aload_n 0, 1) := by decide +kernel
theorem dX11_later_12 : decode cX11_later 12 = .ok (.getfield 86, 3) := by decide +kernel
theorem dX11_later_15 : decode cX11_later 15 = .ok (.getfield 310, 3) := by decide +kernel
theorem dX11_later_18 : decode cX11_later 18 = .ok (.iload_n 1, 1) := by decide +kernel
theorem dX11_later_19 : decode cX11_later 19 = .ok (.iadd, 1) := by decide +kernel
theorem dX11_later_20 : decode cX11_later 20 = .ok (.ldc_w 313, 3) := by decide +kernel
theorem dX11_later_23 : decode cX11_later 23 = .ok (.if_icmp .le 5, 3) := by decide +kernel
theorem dX11_later_26 : decode cX11_later 26 = .ok (.iconst (-1), 1) := by decide +kernel
theorem dX11_later_27 : decode cX11_later 27 = .ok (.ireturn, 1) := by decide +kernel
theorem dX11_later_28 : decode cX11_later 28 = .ok (.aload_n 0, 1) := by decide +kernel
theorem dX11_later_29 : decode cX11_later 29 = .ok (.getfield 86, 3) := by decide +kernel
theorem dX11_later_32 : decode cX11_later 32 = .ok (.dup, 1) := by decide +kernel
theorem dX11_later_33 : decode cX11_later 33 = .ok (.getfield 310, 3) := by decide +kernel
theorem dX11_later_36 : decode cX11_later 36 = .ok (.iload_n 1, 1) := by decide +kernel
theorem dX11_later_37 : decode cX11_later 37 = .ok (.iadd, 1) := by decide +kernel
theorem dX11_later_38 : decode cX11_later 38 = .ok (.putfield 310, 3) := by decide +kernel
theorem dX11_later_41 : decode cX11_later 41 = .ok (.aload_n 0, 1) := by decide +kernel
theorem dX11_later_42 : decode cX11_later 42 = .ok (.getfield 86, 3) := by decide +kernel
theorem dX11_later_45 : decode cX11_later 45 = .ok (.getfield 310, 3) := by decide +kernel
theorem dX11_later_48 : decode cX11_later 48 = .ok (.ireturn, 1) := by decide +kernel
theorem dX11_fit_0 : decode cX11_fit 0 = .ok (.aload_n 0, 1) := by decide +kernel
theorem dX11_fit_1 : decode cX11_fit 1 = .ok (.getfield 86, 3) := by decide +kernel
theorem dX11_fit_4 : decode cX11_fit 4 = .ok (.aload_n 0, 1) := by decide +kernel
theorem dX11_fit_5 : decode cX11_fit 5 = .ok (.getfield 16, 3) := by decide +kernel
theorem dX11_fit_8 : decode cX11_fit 8 = .ok (.iload_n 1, 1) := by decide +kernel
theorem dX11_fit_9 : decode cX11_fit 9 = .ok (.invokevirtual 314, 3) := by decide +kernel
theorem dX11_fit_12 : decode cX11_fit 12 = .ok (.ireturn, 1) := by decide +kernel
theorem dX11_places_0 : decode cX11_places 0 = .ok (.aload_n 0, 1) := by decide +kernel
theorem dX11_places_1 : decode cX11_places 1 = .ok (.getfield 86, 3) := by decide +kernel
theorem dX11_places_4 : decode cX11_places 4 = .ok (.aload_n 0, 1) := by decide +kernel
theorem dX11_places_5 : decode cX11_places 5 = .ok (.getfield 16, 3) := by decide +kernel
theorem dX11_places_8 : decode cX11_places 8 = .ok (.iload_n 1, 1) := by decide +kernel
theorem dX11_places_9 : decode cX11_places 9 = .ok (.invokevirtual 314, 3) := by decide +kernel
theorem dX11_places_12 : decode cX11_places 12 = .ok (.pop, 1) := by decide +kernel
theorem dX11_places_13 : decode cX11_places 13 = .ok (.aload_n 0, 1) := by decide +kernel
theorem dX11_places_14 : decode cX11_places 14 = .ok (.getfield 86, 3) := by decide +kernel
theorem dX11_places_17 : decode cX11_places 17 = .ok (.invokevirtual 318, 3) := by decide +kernel
theorem dX11_places_20 : decode cX11_places 20 = .ok (.lreturn, 1) := by decide +kernel
theorem dX11_heights_0 : decode cX11_heights 0 = .ok (.aload_n 0, 1) := by decide +kernel
theorem dX11_heights_1 : decode cX11_heights 1 = .ok (.getfield 86, 3) := by decide +kernel
theorem dX11_heights_4 : decode cX11_heights 4 = .ok (.aload_n 0, 1) := by decide +kernel
theorem dX11_heights_5 : decode cX11_heights 5 = .ok (.getfield 16, 3) := by decide +kernel
theorem dX11_heights_8 : decode cX11_heights 8 = .ok (.iload_n 1, 1) := by decide +kernel
theorem dX11_heights_9 : decode cX11_heights 9 = .ok (.invokevirtual 314, 3) := by decide +kernel
theorem dX11_heights_12 : decode cX11_heights 12 = .ok (.pop, 1) := by decide +kernel
theorem dX11_heights_13 : decode cX11_heights 13 = .ok (.aload_n 0, 1) := by decide +kernel
theorem dX11_heights_14 : decode cX11_heights 14 = .ok (.getfield 86, 3) := by decide +kernel
theorem dX11_heights_17 : decode cX11_heights 17 = .ok (.invokevirtual 321, 3) := by decide +kernel
theorem dX11_heights_20 : decode cX11_heights 20 = .ok (.ireturn, 1) := by decide +kernel
theorem dX11_ask_0 : decode cX11_ask 0 = .ok (.iload_n 1, 1) := by decide +kernel
theorem dX11_ask_1 : decode cX11_ask 1 = .ok (.invokestatic 234, 3) := by decide +kernel
theorem dX11_ask_4 : decode cX11_ask 4 = .ok (.ifCond .eq 18, 3) := by decide +kernel
theorem dX11_ask_7 : decode cX11_ask 7 = .ok (.aload_n 0, 1) := by decide +kernel
theorem dX11_ask_8 : decode cX11_ask 8 = .ok (.getfield 86, 3) := by decide +kernel
theorem dX11_ask_11 : decode cX11_ask 11 = .ok (.aload_n 0, 1) := by decide +kernel
theorem dX11_ask_12 : decode cX11_ask 12 = .ok (.getfield 16, 3) := by decide +kernel
theorem dX11_ask_15 : decode cX11_ask 15 = .ok (.iload_n 2, 1) := by decide +kernel
theorem dX11_ask_16 : decode cX11_ask 16 = .ok (.invokevirtual 314, 3) := by decide +kernel
theorem dX11_ask_19 : decode cX11_ask 19 = .ok (.ifCond .ne 5, 3) := by decide +kernel
theorem dX11_ask_22 : decode cX11_ask 22 = .ok (.iconst (-1), 1) := by decide +kernel
theorem dX11_ask_23 : decode cX11_ask 23 = .ok (.ireturn, 1) := by decide +kernel
theorem dX11_ask_24 : decode cX11_ask 24 = .ok (.aload_n 0, 1) := by decide +kernel
theorem dX11_ask_25 : decode cX11_ask 25 = .ok (.getfield 86, 3) := by decide +kernel
theorem dX11_ask_28 : decode cX11_ask 28 = .ok (.aload_n 0, 1) := by decide +kernel
theorem dX11_ask_29 : decode cX11_ask 29 = .ok (.getfield 16, 3) := by decide +kernel
theorem dX11_ask_32 : decode cX11_ask 32 = .ok (.invokevirtual 324, 3) := by decide +kernel
theorem dX11_ask_35 : decode cX11_ask 35 = .ok (.iload_n 1, 1) := by decide +kernel
theorem dX11_ask_36 : decode cX11_ask 36 = .ok (.ifCond .ne 13, 3) := by decide +kernel
theorem dX11_ask_39 : decode cX11_ask 39 = .ok (.aload_n 0, 1) := by decide +kernel
theorem dX11_ask_40 : decode cX11_ask 40 = .ok (.getfield 86, 3) := by decide +kernel
theorem dX11_ask_43 : decode cX11_ask 43 = .ok (.getfield 327, 3) := by decide +kernel
theorem dX11_ask_46 : decode cX11_ask 46 = .ok (.goto 10, 3) := by decide +kernel
theorem dX11_ask_49 : decode cX11_ask 49 = .ok (.aload_n 0, 1) := by decide +kernel
theorem dX11_ask_50 : decode cX11_ask 50 = .ok (.getfield 86, 3) := by decide +kernel
theorem dX11_ask_53 : decode cX11_ask 53 = .ok (.getfield 330, 3) := by decide +kernel
theorem dX11_ask_56 : decode cX11_ask 56 = .ok (.ireturn, 1) := by decide +kernel
theorem dX11_image_0 : decode cX11_image 0 = .ok (.iload_n 1, 1) := by decide +kernel
theorem dX11_image_1 : decode cX11_image 1 = .ok (.ifCond .lt 12, 3) := by decide +kernel
theorem dX11_image_4 : decode cX11_image 4 = .ok (.iload_n 1, 1) := by decide +kernel
theorem dX11_image_5 : decode cX11_image 5 = .ok (.aload_n 0, 1) := by decide +kernel
theorem dX11_image_6 : decode cX11_image 6 = .ok (.getfield 62, 3) := by decide +kernel
theorem dX11_image_9 : decode cX11_image 9 = .ok (.arraylength, 1) := by decide +kernel
theorem dX11_image_10 : decode cX11_image 10 = .ok (.if_icmp .lt 5, 3) := by decide +kernel
theorem dX11_image_13 : decode cX11_image 13 = .ok (.iconst (-1), 1) := by decide +kernel
theorem dX11_image_14 : decode cX11_image 14 = .ok (.ireturn, 1) := by decide +kernel
theorem dX11_image_15 : decode cX11_image 15 = .ok (.aload_n 0, 1) := by decide +kernel
theorem dX11_image_16 : decode cX11_image 16 = .ok (.getfield 62, 3) := by decide +kernel
theorem dX11_image_19 : decode cX11_image 19 = .ok (.iload_n 1, 1) := by decide +kernel
theorem dX11_image_20 : decode cX11_image 20 = .ok (.aload_n 0, 1) := by decide +kernel
theorem dX11_image_21 : decode cX11_image 21 = .ok (.getfield 40, 3) := by decide +kernel
theorem dX11_image_24 : decode cX11_image 24 = .ok (.invokevirtual 55, 3) := by decide +kernel
theorem dX11_image_27 : decode cX11_image 27 = .ok (.lastore, 1) := by decide +kernel
theorem dX11_image_28 : decode cX11_image 28 = .ok (.aload_n 0, 1) := by decide +kernel
theorem dX11_image_29 : decode cX11_image 29 = .ok (.dup, 1) := by decide +kernel
theorem dX11_image_30 : decode cX11_image 30 = .ok (.getfield 102, 3) := by decide +kernel
theorem dX11_image_33 : decode cX11_image 33 = .ok (.iconst 1, 1) := by decide +kernel
theorem dX11_image_34 : decode cX11_image 34 = .ok (.iload_n 1, 1) := by decide +kernel
theorem dX11_image_35 : decode cX11_image 35 = .ok (.ishl, 1) := by decide +kernel
theorem dX11_image_36 : decode cX11_image 36 = .ok (.ior, 1) := by decide +kernel
theorem dX11_image_37 : decode cX11_image 37 = .ok (.putfield 102, 3) := by decide +kernel
theorem dX11_image_40 : decode cX11_image 40 = .ok (.aload_n 0, 1) := by decide +kernel
theorem dX11_image_41 : decode cX11_image 41 = .ok (.getfield 40, 3) := by decide +kernel
theorem dX11_image_44 : decode cX11_image 44 = .ok (.getfield 170, 3) := by decide +kernel
theorem dX11_image_47 : decode cX11_image 47 = .ok (.ireturn, 1) := by decide +kernel
theorem dX11_back_0 : decode cX11_back 0 = .ok (.iload_n 1, 1) := by decide +kernel
theorem dX11_back_1 : decode cX11_back 1 = .ok (.ifCond .lt 23, 3) := by decide +kernel
theorem dX11_back_4 : decode cX11_back 4 = .ok (.iload_n 1, 1) := by decide +kernel
theorem dX11_back_5 : decode cX11_back 5 = .ok (.aload_n 0, 1) := by decide +kernel
theorem dX11_back_6 : decode cX11_back 6 = .ok (.getfield 62, 3) := by decide +kernel
theorem dX11_back_9 : decode cX11_back 9 = .ok (.arraylength, 1) := by decide +kernel
theorem dX11_back_10 : decode cX11_back 10 = .ok (.if_icmp .ge 14, 3) := by decide +kernel
theorem dX11_back_13 : decode cX11_back 13 = .ok (.aload_n 0, 1) := by decide +kernel
theorem dX11_back_14 : decode cX11_back 14 = .ok (.getfield 102, 3) := by decide +kernel
theorem dX11_back_17 : decode cX11_back 17 = .ok (.iload_n 1, 1) := by decide +kernel
theorem dX11_back_18 : decode cX11_back 18 = .ok (.invokestatic 148, 3) := by decide +kernel
theorem dX11_back_21 : decode cX11_back 21 = .ok (.ifCond .ne 5, 3) := by decide +kernel
theorem dX11_back_24 : decode cX11_back 24 = .ok (.iconst (-1), 1) := by decide +kernel
theorem dX11_back_25 : decode cX11_back 25 = .ok (.ireturn, 1) := by decide +kernel
theorem dX11_back_26 : decode cX11_back 26 = .ok (.aload_n 0, 1) := by decide +kernel
theorem dX11_back_27 : decode cX11_back 27 = .ok (.getfield 40, 3) := by decide +kernel
theorem dX11_back_30 : decode cX11_back 30 = .ok (.aload_n 0, 1) := by decide +kernel
theorem dX11_back_31 : decode cX11_back 31 = .ok (.getfield 62, 3) := by decide +kernel
theorem dX11_back_34 : decode cX11_back 34 = .ok (.iload_n 1, 1) := by decide +kernel
theorem dX11_back_35 : decode cX11_back 35 = .ok (.laload, 1) := by decide +kernel
theorem dX11_back_36 : decode cX11_back 36 = .ok (.invokevirtual 220, 3) := by decide +kernel
theorem dX11_back_39 : decode cX11_back 39 = .ok (.aload_n 0, 1) := by decide +kernel
theorem dX11_back_40 : decode cX11_back 40 = .ok (.getfield 51, 3) := by decide +kernel
theorem dX11_back_43 : decode cX11_back 43 = .ok (.aload_n 0, 1) := by decide +kernel
theorem dX11_back_44 : decode cX11_back 44 = .ok (.getfield 62, 3) := by decide +kernel
theorem dX11_back_47 : decode cX11_back 47 = .ok (.iload_n 1, 1) := by decide +kernel
theorem dX11_back_48 : decode cX11_back 48 = .ok (.laload, 1) := by decide +kernel
theorem dX11_back_49 : decode cX11_back 49 = .ok (.invokevirtual 59, 3) := by decide +kernel
theorem dX11_back_52 : decode cX11_back 52 = .ok (.aload_n 0, 1) := by decide +kernel
theorem dX11_back_53 : decode cX11_back 53 = .ok (.getfield 40, 3) := by decide +kernel
theorem dX11_back_56 : decode cX11_back 56 = .ok (.getfield 170, 3) := by decide +kernel
theorem dX11_back_59 : decode cX11_back 59 = .ok (.ireturn, 1) := by decide +kernel
theorem dX11_about_0 : decode cX11_about 0 = .ok (.iload_n 1, 1) := by decide +kernel
theorem dX11_about_1 : decode cX11_about 1 = .ok (.tableswitch 250 0 16 #[83, 94, 105, 116, 127, 135, 143, 151, 162, 170, 186, 194, 210, 218, 226, 231, 242], 83) := by decide +kernel
theorem dX11_about_84 : decode cX11_about 84 = .ok (.aload_n 0, 1) := by decide +kernel
theorem dX11_about_85 : decode cX11_about 85 = .ok (.getfield 16, 3) := by decide +kernel
theorem dX11_about_88 : decode cX11_about 88 = .ok (.getfield 111, 3) := by decide +kernel
theorem dX11_about_91 : decode cX11_about 91 = .ok (.getfield 115, 3) := by decide +kernel
theorem dX11_about_94 : decode cX11_about 94 = .ok (.ireturn, 1) := by decide +kernel
theorem dX11_about_95 : decode cX11_about 95 = .ok (.aload_n 0, 1) := by decide +kernel
theorem dX11_about_96 : decode cX11_about 96 = .ok (.getfield 16, 3) := by decide +kernel
theorem dX11_about_99 : decode cX11_about 99 = .ok (.getfield 151, 3) := by decide +kernel
theorem dX11_about_102 : decode cX11_about 102 = .ok (.getfield 115, 3) := by decide +kernel
theorem dX11_about_105 : decode cX11_about 105 = .ok (.ireturn, 1) := by decide +kernel
theorem dX11_about_106 : decode cX11_about 106 = .ok (.aload_n 0, 1) := by decide +kernel
theorem dX11_about_107 : decode cX11_about 107 = .ok (.getfield 16, 3) := by decide +kernel
theorem dX11_about_110 : decode cX11_about 110 = .ok (.getfield 157, 3) := by decide +kernel
theorem dX11_about_113 : decode cX11_about 113 = .ok (.getfield 115, 3) := by decide +kernel
theorem dX11_about_116 : decode cX11_about 116 = .ok (.ireturn, 1) := by decide +kernel
theorem dX11_about_117 : decode cX11_about 117 = .ok (.aload_n 0, 1) := by decide +kernel
theorem dX11_about_118 : decode cX11_about 118 = .ok (.getfield 16, 3) := by decide +kernel
theorem dX11_about_121 : decode cX11_about 121 = .ok (.getfield 333, 3) := by decide +kernel
theorem dX11_about_124 : decode cX11_about 124 = .ok (.invokestatic 255, 3) := by decide +kernel
theorem dX11_about_127 : decode cX11_about 127 = .ok (.ireturn, 1) := by decide +kernel
theorem dX11_about_128 : decode cX11_about 128 = .ok (.aload_n 0, 1) := by decide +kernel
theorem dX11_about_129 : decode cX11_about 129 = .ok (.getfield 16, 3) := by decide +kernel
theorem dX11_about_132 : decode cX11_about 132 = .ok (.getfield 336, 3) := by decide +kernel
theorem dX11_about_135 : decode cX11_about 135 = .ok (.ireturn, 1) := by decide +kernel
theorem dX11_about_136 : decode cX11_about 136 = .ok (.aload_n 0, 1) := by decide +kernel
theorem dX11_about_137 : decode cX11_about 137 = .ok (.getfield 16, 3) := by decide +kernel
theorem dX11_about_140 : decode cX11_about 140 = .ok (.getfield 339, 3) := by decide +kernel
theorem dX11_about_143 : decode cX11_about 143 = .ok (.ireturn, 1) := by decide +kernel
theorem dX11_about_144 : decode cX11_about 144 = .ok (.aload_n 0, 1) := by decide +kernel
theorem dX11_about_145 : decode cX11_about 145 = .ok (.getfield 40, 3) := by decide +kernel
theorem dX11_about_148 : decode cX11_about 148 = .ok (.invokevirtual 137, 3) := by decide +kernel
theorem dX11_about_151 : decode cX11_about 151 = .ok (.ireturn, 1) := by decide +kernel
theorem dX11_about_152 : decode cX11_about 152 = .ok (.aload_n 0, 1) := by decide +kernel
theorem dX11_about_153 : decode cX11_about 153 = .ok (.getfield 40, 3) := by decide +kernel
theorem dX11_about_156 : decode cX11_about 156 = .ok (.getfield 170, 3) := by decide +kernel
theorem dX11_about_159 : decode cX11_about 159 = .ok (.bipush 24, 2) := by decide +kernel
theorem dX11_about_161 : decode cX11_about 161 = .ok (.idiv, 1) := by decide +kernel
theorem dX11_about_162 : decode cX11_about 162 = .ok (.ireturn, 1) := by decide +kernel
theorem dX11_about_163 : decode cX11_about 163 = .ok (.aload_n 0, 1) := by decide +kernel
theorem dX11_about_164 : decode cX11_about 164 = .ok (.getfield 40, 3) := by decide +kernel
theorem dX11_about_167 : decode cX11_about 167 = .ok (.getfield 170, 3) := by decide +kernel
theorem dX11_about_170 : decode cX11_about 170 = .ok (.ireturn, 1) := by decide +kernel
theorem dX11_about_171 : decode cX11_about 171 = .ok (.aload_n 0, 1) := by decide +kernel
theorem dX11_about_172 : decode cX11_about 172 = .ok (.getfield 40, 3) := by decide +kernel
theorem dX11_about_175 : decode cX11_about 175 = .ok (.getfield 209, 3) := by decide +kernel
theorem dX11_about_178 : decode cX11_about 178 = .ok (.ifCond .eq 7, 3) := by decide +kernel
theorem dX11_about_181 : decode cX11_about 181 = .ok (.iconst 1, 1) := by decide +kernel
theorem dX11_about_182 : decode cX11_about 182 = .ok (.goto 4, 3) := by decide +kernel
theorem dX11_about_185 : decode cX11_about 185 = .ok (.iconst 0, 1) := by decide +kernel
theorem dX11_about_186 : decode cX11_about 186 = .ok (.ireturn, 1) := by decide +kernel
theorem dX11_about_187 : decode cX11_about 187 = .ok (.aload_n 0, 1) := by decide +kernel
theorem dX11_about_188 : decode cX11_about 188 = .ok (.getfield 51, 3) := by decide +kernel
theorem dX11_about_191 : decode cX11_about 191 = .ok (.getfield 342, 3) := by decide +kernel
theorem dX11_about_194 : decode cX11_about 194 = .ok (.ireturn, 1) := by decide +kernel
theorem dX11_about_195 : decode cX11_about 195 = .ok (.aload_n 0, 1) := by decide +kernel
theorem dX11_about_196 : decode cX11_about 196 = .ok (.getfield 51, 3) := by decide +kernel
theorem dX11_about_199 : decode cX11_about 199 = .ok (.getfield 345, 3) := by decide +kernel
theorem dX11_about_202 : decode cX11_about 202 = .ok (.aload_n 0, 1) := by decide +kernel
theorem dX11_about_203 : decode cX11_about 203 = .ok (.getfield 51, 3) := by decide +kernel
theorem dX11_about_206 : decode cX11_about 206 = .ok (.getfield 342, 3) := by decide +kernel
theorem dX11_about_209 : decode cX11_about 209 = .ok (.isub, 1) := by decide +kernel
theorem dX11_about_210 : decode cX11_about 210 = .ok (.ireturn, 1) := by decide +kernel
theorem dX11_about_211 : decode cX11_about 211 = .ok (.aload_n 0, 1) := by decide +kernel
theorem dX11_about_212 : decode cX11_about 212 = .ok (.getfield 86, 3) := by decide +kernel
theorem dX11_about_215 : decode cX11_about 215 = .ok (.getfield 348, 3) := by decide +kernel
theorem dX11_about_218 : decode cX11_about 218 = .ok (.ireturn, 1) := by decide +kernel
theorem dX11_about_219 : decode cX11_about 219 = .ok (.aload_n 0, 1) := by decide +kernel
theorem dX11_about_220 : decode cX11_about 220 = .ok (.getfield 86, 3) := by decide +kernel
theorem dX11_about_223 : decode cX11_about 223 = .ok (.getfield 310, 3) := by decide +kernel
theorem dX11_about_226 : decode cX11_about 226 = .ok (.ireturn, 1) := by decide +kernel
theorem dX11_about_227 : decode cX11_about 227 = .ok (.aload_n 0, 1) := by decide +kernel
theorem dX11_about_228 : decode cX11_about 228 = .ok (.getfield 90, 3) := by decide +kernel
theorem dX11_about_231 : decode cX11_about 231 = .ok (.ireturn, 1) := by decide +kernel
theorem dX11_about_232 : decode cX11_about 232 = .ok (.aload_n 0, 1) := by decide +kernel
theorem dX11_about_233 : decode cX11_about 233 = .ok (.getfield 16, 3) := by decide +kernel
theorem dX11_about_236 : decode cX11_about 236 = .ok (.getfield 173, 3) := by decide +kernel
theorem dX11_about_239 : decode cX11_about 239 = .ok (.getfield 349, 3) := by decide +kernel
theorem dX11_about_242 : decode cX11_about 242 = .ok (.ireturn, 1) := by decide +kernel
theorem dX11_about_243 : decode cX11_about 243 = .ok (.aload_n 0, 1) := by decide +kernel
theorem dX11_about_244 : decode cX11_about 244 = .ok (.getfield 79, 3) := by decide +kernel
theorem dX11_about_247 : decode cX11_about 247 = .ok (.getfield 297, 3) := by decide +kernel
theorem dX11_about_250 : decode cX11_about 250 = .ok (.ireturn, 1) := by decide +kernel
theorem dX11_about_251 : decode cX11_about 251 = .ok (.iconst (-1), 1) := by decide +kernel
theorem dX11_about_252 : decode cX11_about 252 = .ok (.ireturn, 1) := by decide +kernel
theorem dX11_isJourney_0 : decode cX11_isJourney 0 = .ok (.aload_n 0, 1) := by decide +kernel
theorem dX11_isJourney_1 : decode cX11_isJourney 1 = .ok (.getfield 16, 3) := by decide +kernel
theorem dX11_isJourney_4 : decode cX11_isJourney 4 = .ok (.iload_n 1, 1) := by decide +kernel
theorem dX11_isJourney_5 : decode cX11_isJourney 5 = .ok (.invokevirtual 195, 3) := by decide +kernel
theorem dX11_isJourney_8 : decode cX11_isJourney 8 = .ok (.ifCond .eq 29, 3) := by decide +kernel
theorem dX11_isJourney_11 : decode cX11_isJourney 11 = .ok (.aload_n 0, 1) := by decide +kernel
theorem dX11_isJourney_12 : decode cX11_isJourney 12 = .ok (.getfield 16, 3) := by decide +kernel
theorem dX11_isJourney_15 : decode cX11_isJourney 15 = .ok (.iload_n 2, 1) := by decide +kernel
theorem dX11_isJourney_16 : decode cX11_isJourney 16 = .ok (.invokevirtual 195, 3) := by decide +kernel
theorem dX11_isJourney_19 : decode cX11_isJourney 19 = .ok (.ifCond .eq 18, 3) := by decide +kernel
theorem dX11_isJourney_22 : decode cX11_isJourney 22 = .ok (.iload_n 3, 1) := by decide +kernel
theorem dX11_isJourney_23 : decode cX11_isJourney 23 = .ok (.iconst 1, 1) := by decide +kernel
theorem dX11_isJourney_24 : decode cX11_isJourney 24 = .ok (.if_icmp .lt 13, 3) := by decide +kernel
theorem dX11_isJourney_27 : decode cX11_isJourney 27 = .ok (.iload_n 3, 1) := by decide +kernel
theorem dX11_isJourney_28 : decode cX11_isJourney 28 = .ok (.iload 4, 2) := by decide +kernel
theorem dX11_isJourney_30 : decode cX11_isJourney 30 = .ok (.if_icmp .gt 7, 3) := by decide +kernel
theorem dX11_isJourney_33 : decode cX11_isJourney 33 = .ok (.iconst 1, 1) := by decide +kernel
theorem dX11_isJourney_34 : decode cX11_isJourney 34 = .ok (.goto 4, 3) := by decide +kernel
theorem dX11_isJourney_37 : decode cX11_isJourney 37 = .ok (.iconst 0, 1) := by decide +kernel
theorem dX11_isJourney_38 : decode cX11_isJourney 38 = .ok (.ireturn, 1) := by decide +kernel
theorem dX11_toldAs_0 : decode cX11_toldAs 0 = .ok (.iload_n 0, 1) := by decide +kernel
theorem dX11_toldAs_1 : decode cX11_toldAs 1 = .ok (.iconst (-1), 1) := by decide +kernel
theorem dX11_toldAs_2 : decode cX11_toldAs 2 = .ok (.if_icmp .ne 5, 3) := by decide +kernel
theorem dX11_toldAs_5 : decode cX11_toldAs 5 = .ok (.iconst (-1), 1) := by decide +kernel
theorem dX11_toldAs_6 : decode cX11_toldAs 6 = .ok (.ireturn, 1) := by decide +kernel
theorem dX11_toldAs_7 : decode cX11_toldAs 7 = .ok (.iload_n 1, 1) := by decide +kernel
theorem dX11_toldAs_8 : decode cX11_toldAs 8 = .ok (.ifCond .ne 10, 3) := by decide +kernel
theorem dX11_toldAs_11 : decode cX11_toldAs 11 = .ok (.iload_n 0, 1) := by decide +kernel
theorem dX11_toldAs_12 : decode cX11_toldAs 12 = .ok (.invokestatic 352, 3) := by decide +kernel
theorem dX11_toldAs_15 : decode cX11_toldAs 15 = .ok (.goto 4, 3) := by decide +kernel
theorem dX11_toldAs_18 : decode cX11_toldAs 18 = .ok (.iload_n 0, 1) := by decide +kernel
theorem dX11_toldAs_19 : decode cX11_toldAs 19 = .ok (.ireturn, 1) := by decide +kernel
theorem dX11_isAhead_0 : decode cX11_isAhead 0 = .ok (.iload_n 0, 1) := by decide +kernel
theorem dX11_isAhead_1 : decode cX11_isAhead 1 = .ok (.ifCond .lt 13, 3) := by decide +kernel
theorem dX11_isAhead_4 : decode cX11_isAhead 4 = .ok (.iload_n 0, 1) := by decide +kernel
theorem dX11_isAhead_5 : decode cX11_isAhead 5 = .ok (.bipush 48, 2) := by decide +kernel
theorem dX11_isAhead_7 : decode cX11_isAhead 7 = .ok (.if_icmp .gt 7, 3) := by decide +kernel
theorem dX11_isAhead_10 : decode cX11_isAhead 10 = .ok (.iconst 1, 1) := by decide +kernel
theorem dX11_isAhead_11 : decode cX11_isAhead 11 = .ok (.goto 4, 3) := by decide +kernel
theorem dX11_isAhead_14 : decode cX11_isAhead 14 = .ok (.iconst 0, 1) := by decide +kernel
theorem dX11_isAhead_15 : decode cX11_isAhead 15 = .ok (.ireturn, 1) := by decide +kernel
theorem dX11_isChoice_0 : decode cX11_isChoice 0 = .ok (.iload_n 0, 1) := by decide +kernel
theorem dX11_isChoice_1 : decode cX11_isChoice 1 = .ok (.ifCond .eq 8, 3) := by decide +kernel
theorem dX11_isChoice_4 : decode cX11_isChoice 4 = .ok (.iload_n 0, 1) := by decide +kernel
theorem dX11_isChoice_5 : decode cX11_isChoice 5 = .ok (.iconst 1, 1) := by decide +kernel
theorem dX11_isChoice_6 : decode cX11_isChoice 6 = .ok (.if_icmp .ne 7, 3) := by decide +kernel
theorem dX11_isChoice_9 : decode cX11_isChoice 9 = .ok (.iconst 1, 1) := by decide +kernel
theorem dX11_isChoice_10 : decode cX11_isChoice 10 = .ok (.goto 4, 3) := by decide +kernel
theorem dX11_isChoice_13 : decode cX11_isChoice 13 = .ok (.iconst 0, 1) := by decide +kernel
theorem dX11_isChoice_14 : decode cX11_isChoice 14 = .ok (.ireturn, 1) := by decide +kernel
theorem dX11_isBit_0 : decode cX11_isBit 0 = .ok (.iload_n 0, 1) := by decide +kernel
theorem dX11_isBit_1 : decode cX11_isBit 1 = .ok (.iload_n 1, 1) := by decide +kernel
theorem dX11_isBit_2 : decode cX11_isBit 2 = .ok (.iushr, 1) := by decide +kernel
theorem dX11_isBit_3 : decode cX11_isBit 3 = .ok (.iconst 1, 1) := by decide +kernel
theorem dX11_isBit_4 : decode cX11_isBit 4 = .ok (.iand, 1) := by decide +kernel
theorem dX11_isBit_5 : decode cX11_isBit 5 = .ok (.ifCond .eq 7, 3) := by decide +kernel
theorem dX11_isBit_8 : decode cX11_isBit 8 = .ok (.iconst 1, 1) := by decide +kernel
theorem dX11_isBit_9 : decode cX11_isBit 9 = .ok (.goto 4, 3) := by decide +kernel
theorem dX11_isBit_12 : decode cX11_isBit 12 = .ok (.iconst 0, 1) := by decide +kernel
theorem dX11_isBit_13 : decode cX11_isBit 13 = .ok (.ireturn, 1) := by decide +kernel
theorem dX12_init_0 : decode cX12_init 0 = .ok (.aload_n 0, 1) := by decide +kernel
theorem dX12_init_1 : decode cX12_init 1 = .ok (.invokespecial 1, 3) := by decide +kernel
theorem dX12_init_4 : decode cX12_init 4 = .ok (.aload_n 0, 1) := by decide +kernel
theorem dX12_init_5 : decode cX12_init 5 = .ok (.sipush 1600, 3) := by decide +kernel
theorem dX12_init_8 : decode cX12_init 8 = .ok (.newarray .int, 2) := by decide +kernel
theorem dX12_init_10 : decode cX12_init 10 = .ok (.putfield 7, 3) := by decide +kernel
theorem dX12_init_13 : decode cX12_init 13 = .ok (.aload_n 0, 1) := by decide +kernel
theorem dX12_init_14 : decode cX12_init 14 = .ok (.iconst (-1), 1) := by decide +kernel
theorem dX12_init_15 : decode cX12_init 15 = .ok (.putfield 13, 3) := by decide +kernel
theorem dX12_init_18 : decode cX12_init 18 = .ok (.aload_n 0, 1) := by decide +kernel
theorem dX12_init_19 : decode cX12_init 19 = .ok (.bipush 16, 2) := by decide +kernel
theorem dX12_init_21 : decode cX12_init 21 = .ok (.newarray .long, 2) := by decide +kernel
theorem dX12_init_23 : decode cX12_init 23 = .ok (.putfield 17, 3) := by decide +kernel
theorem dX12_init_26 : decode cX12_init 26 = .ok (.aload_n 0, 1) := by decide +kernel
theorem dX12_init_27 : decode cX12_init 27 = .ok (.sipush 320, 3) := by decide +kernel
theorem dX12_init_30 : decode cX12_init 30 = .ok (.newarray .int, 2) := by decide +kernel
theorem dX12_init_32 : decode cX12_init 32 = .ok (.putfield 21, 3) := by decide +kernel
theorem dX12_init_35 : decode cX12_init 35 = .ok (.aload_n 0, 1) := by decide +kernel
theorem dX12_init_36 : decode cX12_init 36 = .ok (.sipush 320, 3) := by decide +kernel
theorem dX12_init_39 : decode cX12_init 39 = .ok (.newarray .int, 2) := by decide +kernel
theorem dX12_init_41 : decode cX12_init 41 = .ok (.putfield 24, 3) := by decide +kernel
theorem dX12_init_44 : decode cX12_init 44 = .ok (.aload_n 0, 1) := by decide +kernel
theorem dX12_init_45 : decode cX12_init 45 = .ok (.sipush 320, 3) := by decide +kernel
theorem dX12_init_48 : decode cX12_init 48 = .ok (.newarray .int, 2) := by decide +kernel
theorem dX12_init_50 : decode cX12_init 50 = .ok (.putfield 27, 3) := by decide +kernel
theorem dX12_init_53 : decode cX12_init 53 = .ok (.aload_n 0, 1) := by decide +kernel
theorem dX12_init_54 : decode cX12_init 54 = .ok (.sipush 320, 3) := by decide +kernel
theorem dX12_init_57 : decode cX12_init 57 = .ok (.newarray .int, 2) := by decide +kernel
theorem dX12_init_59 : decode cX12_init 59 = .ok (.putfield 30, 3) := by decide +kernel
theorem dX12_init_62 : decode cX12_init 62 = .ok (.aload_n 0, 1) := by decide +kernel
theorem dX12_init_63 : decode cX12_init 63 = .ok (.sipush 160, 3) := by decide +kernel
theorem dX12_init_66 : decode cX12_init 66 = .ok (.newarray .int, 2) := by decide +kernel
theorem dX12_init_68 : decode cX12_init 68 = .ok (.putfield 33, 3) := by decide +kernel
theorem dX12_init_71 : decode cX12_init 71 = .ok (.aload_n 0, 1) := by decide +kernel
theorem dX12_init_72 : decode cX12_init 72 = .ok (.bipush 64, 2) := by decide +kernel
theorem dX12_init_74 : decode cX12_init 74 = .ok (.newarray .int, 2) := by decide +kernel
theorem dX12_init_76 : decode cX12_init 76 = .ok (.putfield 36, 3) := by decide +kernel
theorem dX12_init_79 : decode cX12_init 79 = .ok (.aload_n 0, 1) := by decide +kernel
theorem dX12_init_80 : decode cX12_init 80 = .ok (.iconst 3, 1) := by decide +kernel
theorem dX12_init_81 : decode cX12_init 81 = .ok (.newarray .int, 2) := by decide +kernel
theorem dX12_init_83 : decode cX12_init 83 = .ok (.putfield 39, 3) := by decide +kernel
theorem dX12_init_86 : decode cX12_init 86 = .ok (.aload_n 0, 1) := by decide +kernel
theorem dX12_init_87 : decode cX12_init 87 = .ok (.bipush 8, 2) := by decide +kernel
theorem dX12_init_89 : decode cX12_init 89 = .ok (.newarray .int, 2) := by decide +kernel
theorem dX12_init_91 : decode cX12_init 91 = .ok (.putfield 42, 3) := by decide +kernel
theorem dX12_init_94 : decode cX12_init 94 = .ok (.aload_n 0, 1) := by decide +kernel
theorem dX12_init_95 : decode cX12_init 95 = .ok (.bipush 8, 2) := by decide +kernel
theorem dX12_init_97 : decode cX12_init 97 = .ok (.newarray .int, 2) := by decide +kernel
theorem dX12_init_99 : decode cX12_init 99 = .ok (.putfield 45, 3) := by decide +kernel
theorem dX12_init_102 : decode cX12_init 102 = .ok (.aload_n 0, 1) := by decide +kernel
theorem dX12_init_103 : decode cX12_init 103 = .ok (.bipush 8, 2) := by decide +kernel
theorem dX12_init_105 : decode cX12_init 105 = .ok (.newarray .int, 2) := by decide +kernel
theorem dX12_init_107 : decode cX12_init 107 = .ok (.putfield 48, 3) := by decide +kernel
theorem dX12_init_110 : decode cX12_init 110 = .ok (.aload_n 0, 1) := by decide +kernel
theorem dX12_init_111 : decode cX12_init 111 = .ok (.bipush 8, 2) := by decide +kernel
theorem dX12_init_113 : decode cX12_init 113 = .ok (.newarray .int, 2) := by decide +kernel
theorem dX12_init_115 : decode cX12_init 115 = .ok (.putfield 51, 3) := by decide +kernel
theorem dX12_init_118 : decode cX12_init 118 = .ok (.aload_n 0, 1) := by decide +kernel
theorem dX12_init_119 : decode cX12_init 119 = .ok (.iconst 4, 1) := by decide +kernel
theorem dX12_init_120 : decode cX12_init 120 = .ok (.newarray .int, 2) := by decide +kernel
theorem dX12_init_122 : decode cX12_init 122 = .ok (.putfield 54, 3) := by decide +kernel
theorem dX12_init_125 : decode cX12_init 125 = .ok (.aload_n 0, 1) := by decide +kernel
theorem dX12_init_126 : decode cX12_init 126 = .ok (.iconst 4, 1) := by decide +kernel
theorem dX12_init_127 : decode cX12_init 127 = .ok (.newarray .int, 2) := by decide +kernel
theorem dX12_init_129 : decode cX12_init 129 = .ok (.putfield 57, 3) := by decide +kernel
theorem dX12_init_132 : decode cX12_init 132 = .ok (.aload_n 0, 1) := by decide +kernel
theorem dX12_init_133 : decode cX12_init 133 = .ok (.iconst 4, 1) := by decide +kernel
theorem dX12_init_134 : decode cX12_init 134 = .ok (.newarray .int, 2) := by decide +kernel
theorem dX12_init_136 : decode cX12_init 136 = .ok (.putfield 60, 3) := by decide +kernel
theorem dX12_init_139 : decode cX12_init 139 = .ok (.aload_n 0, 1) := by decide +kernel
theorem dX12_init_140 : decode cX12_init 140 = .ok (.iconst 4, 1) := by decide +kernel
theorem dX12_init_141 : decode cX12_init 141 = .ok (.newarray .int, 2) := by decide +kernel
theorem dX12_init_143 : decode cX12_init 143 = .ok (.putfield 63, 3) := by decide +kernel
theorem dX12_init_146 : decode cX12_init 146 = .ok (.aload_n 0, 1) := by decide +kernel
theorem dX12_init_147 : decode cX12_init 147 = .ok (.bipush 8, 2) := by decide +kernel
theorem dX12_init_149 : decode cX12_init 149 = .ok (.newarray .int, 2) := by decide +kernel
theorem dX12_init_151 : decode cX12_init 151 = .ok (.putfield 66, 3) := by decide +kernel
theorem dX12_init_154 : decode cX12_init 154 = .ok (.aload_n 0, 1) := by decide +kernel
theorem dX12_init_155 : decode cX12_init 155 = .ok (.bipush 8, 2) := by decide +kernel
theorem dX12_init_157 : decode cX12_init 157 = .ok (.newarray .int, 2) := by decide +kernel
theorem dX12_init_159 : decode cX12_init 159 = .ok (.putfield 69, 3) := by decide +kernel
theorem dX12_init_162 : decode cX12_init 162 = .ok (.aload_n 0, 1) := by decide +kernel
theorem dX12_init_163 : decode cX12_init 163 = .ok (.bipush 8, 2) := by decide +kernel
theorem dX12_init_165 : decode cX12_init 165 = .ok (.newarray .int, 2) := by decide +kernel
theorem dX12_init_167 : decode cX12_init 167 = .ok (.putfield 72, 3) := by decide +kernel
theorem dX12_init_170 : decode cX12_init 170 = .ok (.aload_n 0, 1) := by decide +kernel
theorem dX12_init_171 : decode cX12_init 171 = .ok (.bipush 8, 2) := by decide +kernel
theorem dX12_init_173 : decode cX12_init 173 = .ok (.newarray .int, 2) := by decide +kernel
theorem dX12_init_175 : decode cX12_init 175 = .ok (.putfield 75, 3) := by decide +kernel
theorem dX12_init_178 : decode cX12_init 178 = .ok (.aload_n 0, 1) := by decide +kernel
theorem dX12_init_179 : decode cX12_init 179 = .ok (.iconst 4, 1) := by decide +kernel
theorem dX12_init_180 : decode cX12_init 180 = .ok (.newarray .int, 2) := by decide +kernel
theorem dX12_init_182 : decode cX12_init 182 = .ok (.putfield 78, 3) := by decide +kernel
theorem dX12_init_185 : decode cX12_init 185 = .ok (.aload_n 0, 1) := by decide +kernel
theorem dX12_init_186 : decode cX12_init 186 = .ok (.iconst 4, 1) := by decide +kernel
theorem dX12_init_187 : decode cX12_init 187 = .ok (.newarray .int, 2) := by decide +kernel
theorem dX12_init_189 : decode cX12_init 189 = .ok (.putfield 81, 3) := by decide +kernel
theorem dX12_init_192 : decode cX12_init 192 = .ok (.aload_n 0, 1) := by decide +kernel
theorem dX12_init_193 : decode cX12_init 193 = .ok (.iconst 4, 1) := by decide +kernel
theorem dX12_init_194 : decode cX12_init 194 = .ok (.newarray .int, 2) := by decide +kernel
theorem dX12_init_196 : decode cX12_init 196 = .ok (.putfield 84, 3) := by decide +kernel
theorem dX12_init_199 : decode cX12_init 199 = .ok (.aload_n 0, 1) := by decide +kernel
theorem dX12_init_200 : decode cX12_init 200 = .ok (.iconst 4, 1) := by decide +kernel
theorem dX12_init_201 : decode cX12_init 201 = .ok (.newarray .int, 2) := by decide +kernel
theorem dX12_init_203 : decode cX12_init 203 = .ok (.putfield 87, 3) := by decide +kernel
theorem dX12_init_206 : decode cX12_init 206 = .ok (.aload_n 0, 1) := by decide +kernel
theorem dX12_init_207 : decode cX12_init 207 = .ok (.bipush 6, 2) := by decide +kernel
theorem dX12_init_209 : decode cX12_init 209 = .ok (.putfield 90, 3) := by decide +kernel
theorem dX12_init_212 : decode cX12_init 212 = .ok (.aload_n 0, 1) := by decide +kernel
theorem dX12_init_213 : decode cX12_init 213 = .ok (.bipush 6, 2) := by decide +kernel
theorem dX12_init_215 : decode cX12_init 215 = .ok (.putfield 93, 3) := by decide +kernel
theorem dX12_init_218 : decode cX12_init 218 = .ok (.aload_n 0, 1) := by decide +kernel
theorem dX12_init_219 : decode cX12_init 219 = .ok (.bipush 10, 2) := by decide +kernel
theorem dX12_init_221 : decode cX12_init 221 = .ok (.newarray .int, 2) := by decide +kernel
theorem dX12_init_223 : decode cX12_init 223 = .ok (.putfield 96, 3) := by decide +kernel
theorem dX12_init_226 : decode cX12_init 226 = .ok (.aload_n 0, 1) := by decide +kernel
theorem dX12_init_227 : decode cX12_init 227 = .ok (.bipush 8, 2) := by decide +kernel
theorem dX12_init_229 : decode cX12_init 229 = .ok (.newarray .long, 2) := by decide +kernel
theorem dX12_init_231 : decode cX12_init 231 = .ok (.putfield 99, 3) := by decide +kernel
theorem dX12_init_234 : decode cX12_init 234 = .ok (.aload_n 0, 1) := by decide +kernel
theorem dX12_init_235 : decode cX12_init 235 = .ok (.sipush 3136, 3) := by decide +kernel
theorem dX12_init_238 : decode cX12_init 238 = .ok (.newarray .long, 2) := by decide +kernel
theorem dX12_init_240 : decode cX12_init 240 = .ok (.putfield 102, 3) := by decide +kernel
theorem dX12_init_243 : decode cX12_init 243 = .ok (.aload_n 0, 1) := by decide +kernel
theorem dX12_init_244 : decode cX12_init 244 = .ok (.sipush 400, 3) := by decide +kernel
theorem dX12_init_247 : decode cX12_init 247 = .ok (.newarray .int, 2) := by decide +kernel
theorem dX12_init_249 : decode cX12_init 249 = .ok (.putfield 105, 3) := by decide +kernel
theorem dX12_init_252 : decode cX12_init 252 = .ok (.aload_n 0, 1) := by decide +kernel
theorem dX12_init_253 : decode cX12_init 253 = .ok (.bipush 48, 2) := by decide +kernel
theorem dX12_init_255 : decode cX12_init 255 = .ok (.newarray .int, 2) := by decide +kernel
theorem dX12_init_257 : decode cX12_init 257 = .ok (.putfield 108, 3) := by decide +kernel
theorem dX12_init_260 : decode cX12_init 260 = .ok (.aload_n 0, 1) := by decide +kernel
theorem dX12_init_261 : decode cX12_init 261 = .ok (.bipush 49, 2) := by decide +kernel
theorem dX12_init_263 : decode cX12_init 263 = .ok (.newarray .long, 2) := by decide +kernel
theorem dX12_init_265 : decode cX12_init 265 = .ok (.putfield 111, 3) := by decide +kernel
theorem dX12_init_268 : decode cX12_init 268 = .ok (.aload_n 0, 1) := by decide +kernel
theorem dX12_init_269 : decode cX12_init 269 = .ok (.bipush 64, 2) := by decide +kernel
theorem dX12_init_271 : decode cX12_init 271 = .ok (.newarray .int, 2) := by decide +kernel
theorem dX12_init_273 : decode cX12_init 273 = .ok (.putfield 114, 3) := by decide +kernel
theorem dX12_init_276 : decode cX12_init 276 = .ok (.aload_n 0, 1) := by decide +kernel
theorem dX12_init_277 : decode cX12_init 277 = .ok (.bipush 64, 2) := by decide +kernel
theorem dX12_init_279 : decode cX12_init 279 = .ok (.newarray .long, 2) := by decide +kernel
theorem dX12_init_281 : decode cX12_init 281 = .ok (.putfield 117, 3) := by decide +kernel
theorem dX12_init_284 : decode cX12_init 284 = .ok (.aload_n 0, 1) := by decide +kernel
theorem dX12_init_285 : decode cX12_init 285 = .ok (.bipush 64, 2) := by decide +kernel
theorem dX12_init_287 : decode cX12_init 287 = .ok (.newarray .long, 2) := by decide +kernel
theorem dX12_init_289 : decode cX12_init 289 = .ok (.putfield 120, 3) := by decide +kernel
theorem dX12_init_292 : decode cX12_init 292 = .ok (.aload_n 0, 1) := by decide +kernel
theorem dX12_init_293 : decode cX12_init 293 = .ok (.bipush 30, 2) := by decide +kernel
theorem dX12_init_295 : decode cX12_init 295 = .ok (.newarray .int, 2) := by decide +kernel
theorem dX12_init_297 : decode cX12_init 297 = .ok (.putfield 123, 3) := by decide +kernel
theorem dX12_init_300 : decode cX12_init 300 = .ok (.aload_n 0, 1) := by decide +kernel
theorem dX12_init_301 : decode cX12_init 301 = .ok (.bipush 30, 2) := by decide +kernel
theorem dX12_init_303 : decode cX12_init 303 = .ok (.newarray .int, 2) := by decide +kernel
theorem dX12_init_305 : decode cX12_init 305 = .ok (.putfield 126, 3) := by decide +kernel
theorem dX12_init_308 : decode cX12_init 308 = .ok (.aload_n 0, 1) := by decide +kernel
theorem dX12_init_309 : decode cX12_init 309 = .ok (.bipush 30, 2) := by decide +kernel
theorem dX12_init_311 : decode cX12_init 311 = .ok (.newarray .int, 2) := by decide +kernel
theorem dX12_init_313 : decode cX12_init 313 = .ok (.putfield 129, 3) := by decide +kernel
theorem dX12_init_316 : decode cX12_init 316 = .ok (.aload_n 0, 1) := by decide +kernel
theorem dX12_init_317 : decode cX12_init 317 = .ok (.bipush 30, 2) := by decide +kernel
theorem dX12_init_319 : decode cX12_init 319 = .ok (.newarray .int, 2) := by decide +kernel
theorem dX12_init_321 : decode cX12_init 321 = .ok (.putfield 132, 3) := by decide +kernel
theorem dX12_init_324 : decode cX12_init 324 = .ok (.aload_n 0, 1) := by decide +kernel
theorem dX12_init_325 : decode cX12_init 325 = .ok (.bipush 30, 2) := by decide +kernel
theorem dX12_init_327 : decode cX12_init 327 = .ok (.newarray .boolean, 2) := by decide +kernel
theorem dX12_init_329 : decode cX12_init 329 = .ok (.putfield 135, 3) := by decide +kernel
theorem dX12_init_332 : decode cX12_init 332 = .ok (.aload_n 0, 1) := by decide +kernel
theorem dX12_init_333 : decode cX12_init 333 = .ok (.iconst 5, 1) := by decide +kernel
theorem dX12_init_334 : decode cX12_init 334 = .ok (.newarray .long, 2) := by decide +kernel
theorem dX12_init_336 : decode cX12_init 336 = .ok (.putfield 139, 3) := by decide +kernel
theorem dX12_init_339 : decode cX12_init 339 = .ok (.aload_n 0, 1) := by decide +kernel
theorem dX12_init_340 : decode cX12_init 340 = .ok (.iconst 3, 1) := by decide +kernel
theorem dX12_init_341 : decode cX12_init 341 = .ok (.newarray .boolean, 2) := by decide +kernel
theorem dX12_init_343 : decode cX12_init 343 = .ok (.putfield 142, 3) := by decide +kernel
theorem dX12_init_346 : decode cX12_init 346 = .ok (.aload_n 0, 1) := by decide +kernel
theorem dX12_init_347 : decode cX12_init 347 = .ok (.bipush 30, 2) := by decide +kernel
theorem dX12_init_349 : decode cX12_init 349 = .ok (.newarray .int, 2) := by decide +kernel
theorem dX12_init_351 : decode cX12_init 351 = .ok (.putfield 145, 3) := by decide +kernel
theorem dX12_init_354 : decode cX12_init 354 = .ok (.return_, 1) := by decide +kernel
theorem dX12_feed_0 : decode cX12_feed 0 = .ok (.aload_n 0, 1) := by decide +kernel
theorem dX12_feed_1 : decode cX12_feed 1 = .ok (.getfield 148, 3) := by decide +kernel
theorem dX12_feed_4 : decode cX12_feed 4 = .ok (.bipush 20, 2) := by decide +kernel
theorem dX12_feed_6 : decode cX12_feed 6 = .ok (.iadd, 1) := by decide +kernel
theorem dX12_feed_7 : decode cX12_feed 7 = .ok (.sipush 1600, 3) := by decide +kernel
theorem dX12_feed_10 : decode cX12_feed 10 = .ok (.if_icmp .le 5, 3) := by decide +kernel
theorem dX12_feed_13 : decode cX12_feed 13 = .ok (.iconst (-1), 1) := by decide +kernel
theorem dX12_feed_14 : decode cX12_feed 14 = .ok (.ireturn, 1) := by decide +kernel
theorem dX12_feed_15 : decode cX12_feed 15 = .ok (.aload_n 0, 1) := by decide +kernel
theorem dX12_feed_16 : decode cX12_feed 16 = .ok (.iload_n 1, 1) := by decide +kernel
theorem dX12_feed_17 : decode cX12_feed 17 = .ok (.invokevirtual 151, 3) := by decide +kernel
theorem dX12_feed_20 : decode cX12_feed 20 = .ok (.aload_n 0, 1) := by decide +kernel
theorem dX12_feed_21 : decode cX12_feed 21 = .ok (.iload_n 2, 1) := by decide +kernel
theorem dX12_feed_22 : decode cX12_feed 22 = .ok (.invokevirtual 151, 3) := by decide +kernel
theorem dX12_feed_25 : decode cX12_feed 25 = .ok (.aload_n 0, 1) := by decide +kernel
theorem dX12_feed_26 : decode cX12_feed 26 = .ok (.iload_n 3, 1) := by decide +kernel
theorem dX12_feed_27 : decode cX12_feed 27 = .ok (.invokevirtual 151, 3) := by decide +kernel
theorem dX12_feed_30 : decode cX12_feed 30 = .ok (.aload_n 0, 1) := by decide +kernel
theorem dX12_feed_31 : decode cX12_feed 31 = .ok (.iload 4, 2) := by decide +kernel
theorem dX12_feed_33 : decode cX12_feed 33 = .ok (.invokevirtual 151, 3) := by decide +kernel
theorem dX12_feed_36 : decode cX12_feed 36 = .ok (.aload_n 0, 1) := by decide +kernel
theorem dX12_feed_37 : decode cX12_feed 37 = .ok (.iload 5, 2) := by decide +kernel
theorem dX12_feed_39 : decode cX12_feed 39 = .ok (.invokevirtual 151, 3) := by decide +kernel
theorem dX12_feed_42 : decode cX12_feed 42 = .ok (.aload_n 0, 1) := by decide +kernel
theorem dX12_feed_43 : decode cX12_feed 43 = .ok (.getfield 148, 3) := by decide +kernel
theorem dX12_feed_46 : decode cX12_feed 46 = .ok (.ireturn, 1) := by decide +kernel
theorem dX12_four_0 : decode cX12_four 0 = .ok (.bipush 24, 2) := by decide +kernel
theorem dX12_four_2 : decode cX12_four 2 = .ok (.istore_n 2, 1) := by decide +kernel
theorem dX12_four_3 : decode cX12_four 3 = .ok (.iload_n 2, 1) := by decide +kernel
theorem dX12_four_4 : decode cX12_four 4 = .ok (.ifCond .lt 35, 3) := by decide +kernel
theorem dX12_four_7 : decode cX12_four 7 = .ok (.aload_n 0, 1) := by decide +kernel
theorem dX12_four_8 : decode cX12_four 8 = .ok (.getfield 7, 3) := by decide +kernel
theorem dX12_four_11 : decode cX12_four 11 = .ok (.aload_n 0, 1) := by decide +kernel
theorem dX12_four_12 : decode cX12_four 12 = .ok (.getfield 148, 3) := by decide +kernel
theorem dX12_four_15 : decode cX12_four 15 = .ok (.iload_n 1, 1) := by decide +kernel
theorem dX12_four_16 : decode cX12_four 16 = .ok (.iload_n 2, 1) := by decide +kernel
theorem dX12_four_17 : decode cX12_four 17 = .ok (.ishr, 1) := by decide +kernel
theorem dX12_four_18 : decode cX12_four 18 = .ok (.sipush 255, 3) := by decide +kernel
theorem dX12_four_21 : decode cX12_four 21 = .ok (.iand, 1) := by decide +kernel
theorem dX12_four_22 : decode cX12_four 22 = .ok (.iastore, 1) := by decide +kernel
theorem dX12_four_23 : decode cX12_four 23 = .ok (.aload_n 0, 1) := by decide +kernel
theorem dX12_four_24 : decode cX12_four 24 = .ok (.dup, 1) := by decide +kernel
theorem dX12_four_25 : decode cX12_four 25 = .ok (.getfield 148, 3) := by decide +kernel
theorem dX12_four_28 : decode cX12_four 28 = .ok (.iconst 1, 1) := by decide +kernel
theorem dX12_four_29 : decode cX12_four 29 = .ok (.iadd, 1) := by decide +kernel
theorem dX12_four_30 : decode cX12_four 30 = .ok (.putfield 148, 3) := by decide +kernel
theorem dX12_four_33 : decode cX12_four 33 = .ok (.iinc 2 (-8), 3) := by decide +kernel
theorem dX12_four_36 : decode cX12_four 36 = .ok (.goto (-33), 3) := by decide +kernel
theorem dX12_four_39 : decode cX12_four 39 = .ok (.return_, 1) := by decide +kernel
theorem dX12_end_0 : decode cX12_end 0 = .ok (.iload_n 1, 1) := by decide +kernel
theorem dX12_end_1 : decode cX12_end 1 = .ok (.ifCond .lt 11, 3) := by decide +kernel
theorem dX12_end_4 : decode cX12_end 4 = .ok (.iload_n 1, 1) := by decide +kernel
theorem dX12_end_5 : decode cX12_end 5 = .ok (.aload_n 0, 1) := by decide +kernel
theorem dX12_end_6 : decode cX12_end 6 = .ok (.getfield 148, 3) := by decide +kernel
theorem dX12_end_9 : decode cX12_end 9 = .ok (.if_icmp .le 5, 3) := by decide +kernel
theorem dX12_end_12 : decode cX12_end 12 = .ok (.iconst (-1), 1) := by decide +kernel
theorem dX12_end_13 : decode cX12_end 13 = .ok (.ireturn, 1) := by decide +kernel
theorem dX12_end_14 : decode cX12_end 14 = .ok (.aload_n 0, 1) := by decide +kernel
theorem dX12_end_15 : decode cX12_end 15 = .ok (.iload_n 1, 1) := by decide +kernel
theorem dX12_end_16 : decode cX12_end 16 = .ok (.putfield 148, 3) := by decide +kernel
theorem dX12_end_19 : decode cX12_end 19 = .ok (.iload_n 1, 1) := by decide +kernel
theorem dX12_end_20 : decode cX12_end 20 = .ok (.ireturn, 1) := by decide +kernel
theorem dX12_here_0 : decode cX12_here 0 = .ok (.aload_n 0, 1) := by decide +kernel
theorem dX12_here_1 : decode cX12_here 1 = .ok (.getfield 155, 3) := by decide +kernel
theorem dX12_here_4 : decode cX12_here 4 = .ok (.iload_n 1, 1) := by decide +kernel
theorem dX12_here_5 : decode cX12_here 5 = .ok (.iadd, 1) := by decide +kernel
theorem dX12_here_6 : decode cX12_here 6 = .ok (.aload_n 0, 1) := by decide +kernel
theorem dX12_here_7 : decode cX12_here 7 = .ok (.getfield 158, 3) := by decide +kernel
theorem dX12_here_10 : decode cX12_here 10 = .ok (.if_icmp .ge 17, 3) := by decide +kernel
theorem dX12_here_13 : decode cX12_here 13 = .ok (.aload_n 0, 1) := by decide +kernel
theorem dX12_here_14 : decode cX12_here 14 = .ok (.getfield 7, 3) := by decide +kernel
theorem dX12_here_17 : decode cX12_here 17 = .ok (.aload_n 0, 1) := by decide +kernel
theorem dX12_here_18 : decode cX12_here 18 = .ok (.getfield 155, 3) := by decide +kernel
theorem dX12_here_21 : decode cX12_here 21 = .ok (.iload_n 1, 1) := by decide +kernel
theorem dX12_here_22 : decode cX12_here 22 = .ok (.iadd, 1) := by decide +kernel
theorem dX12_here_23 : decode cX12_here 23 = .ok (.iaload, 1) := by decide +kernel
theorem dX12_here_24 : decode cX12_here 24 = .ok (.goto 4, 3) := by decide +kernel
theorem dX12_here_27 : decode cX12_here 27 = .ok (.iconst (-1), 1) := by decide +kernel
theorem dX12_here_28 : decode cX12_here 28 = .ok (.ireturn, 1) := by decide +kernel
theorem dX12_isLetter_0 : decode cX12_isLetter 0 = .ok (.iload_n 0, 1) := by decide +kernel
theorem dX12_isLetter_1 : decode cX12_isLetter 1 = .ok (.bipush 97, 2) := by decide +kernel
theorem dX12_isLetter_3 : decode cX12_isLetter 3 = .ok (.if_icmp .lt 13, 3) := by decide +kernel
theorem dX12_isLetter_6 : decode cX12_isLetter 6 = .ok (.iload_n 0, 1) := by decide +kernel
theorem dX12_isLetter_7 : decode cX12_isLetter 7 = .ok (.bipush 122, 2) := by decide +kernel
theorem dX12_isLetter_9 : decode cX12_isLetter 9 = .ok (.if_icmp .gt 7, 3) := by decide +kernel
theorem dX12_isLetter_12 : decode cX12_isLetter 12 = .ok (.iconst 1, 1) := by decide +kernel
theorem dX12_isLetter_13 : decode cX12_isLetter 13 = .ok (.goto 4, 3) := by decide +kernel
theorem dX12_isLetter_16 : decode cX12_isLetter 16 = .ok (.iconst 0, 1) := by decide +kernel
theorem dX12_isLetter_17 : decode cX12_isLetter 17 = .ok (.ireturn, 1) := by decide +kernel
theorem dX12_isDigit_0 : decode cX12_isDigit 0 = .ok (.iload_n 0, 1) := by decide +kernel
theorem dX12_isDigit_1 : decode cX12_isDigit 1 = .ok (.bipush 48, 2) := by decide +kernel
theorem dX12_isDigit_3 : decode cX12_isDigit 3 = .ok (.if_icmp .lt 13, 3) := by decide +kernel
theorem dX12_isDigit_6 : decode cX12_isDigit 6 = .ok (.iload_n 0, 1) := by decide +kernel
theorem dX12_isDigit_7 : decode cX12_isDigit 7 = .ok (.bipush 57, 2) := by decide +kernel
theorem dX12_isDigit_9 : decode cX12_isDigit 9 = .ok (.if_icmp .gt 7, 3) := by decide +kernel
theorem dX12_isDigit_12 : decode cX12_isDigit 12 = .ok (.iconst 1, 1) := by decide +kernel
theorem dX12_isDigit_13 : decode cX12_isDigit 13 = .ok (.goto 4, 3) := by decide +kernel
theorem dX12_isDigit_16 : decode cX12_isDigit 16 = .ok (.iconst 0, 1) := by decide +kernel
theorem dX12_isDigit_17 : decode cX12_isDigit 17 = .ok (.ireturn, 1) := by decide +kernel
theorem dX12_isSign_0 : decode cX12_isSign 0 = .ok (.iload_n 0, 1) := by decide +kernel
theorem dX12_isSign_1 : decode cX12_isSign 1 = .ok (.bipush 59, 2) := by decide +kernel
theorem dX12_isSign_3 : decode cX12_isSign 3 = .ok (.if_icmp .eq 63, 3) := by decide +kernel
theorem dX12_isSign_6 : decode cX12_isSign 6 = .ok (.iload_n 0, 1) := by decide +kernel
theorem dX12_isSign_7 : decode cX12_isSign 7 = .ok (.bipush 40, 2) := by decide +kernel
theorem dX12_isSign_9 : decode cX12_isSign 9 = .ok (.if_icmp .eq 57, 3) := by decide +kernel
theorem dX12_isSign_12 : decode cX12_isSign 12 = .ok (.iload_n 0, 1) := by decide +kernel
theorem dX12_isSign_13 : decode cX12_isSign 13 = .ok (.bipush 41, 2) := by decide +kernel
theorem dX12_isSign_15 : decode cX12_isSign 15 = .ok (.if_icmp .eq 51, 3) := by decide +kernel
theorem dX12_isSign_18 : decode cX12_isSign 18 = .ok (.iload_n 0, 1) := by decide +kernel
theorem dX12_isSign_19 : decode cX12_isSign 19 = .ok (.bipush 60, 2) := by decide +kernel
theorem dX12_isSign_21 : decode cX12_isSign 21 = .ok (.if_icmp .eq 45, 3) := by decide +kernel
theorem dX12_isSign_24 : decode cX12_isSign 24 = .ok (.iload_n 0, 1) := by decide +kernel
theorem dX12_isSign_25 : decode cX12_isSign 25 = .ok (.bipush 62, 2) := by decide +kernel
theorem dX12_isSign_27 : decode cX12_isSign 27 = .ok (.if_icmp .eq 39, 3) := by decide +kernel
theorem dX12_isSign_30 : decode cX12_isSign 30 = .ok (.iload_n 0, 1) := by decide +kernel
theorem dX12_isSign_31 : decode cX12_isSign 31 = .ok (.bipush 61, 2) := by decide +kernel
theorem dX12_isSign_33 : decode cX12_isSign 33 = .ok (.if_icmp .eq 33, 3) := by decide +kernel
theorem dX12_isSign_36 : decode cX12_isSign 36 = .ok (.iload_n 0, 1) := by decide +kernel
theorem dX12_isSign_37 : decode cX12_isSign 37 = .ok (.bipush 43, 2) := by decide +kernel
theorem dX12_isSign_39 : decode cX12_isSign 39 = .ok (.if_icmp .eq 27, 3) := by decide +kernel
theorem dX12_isSign_42 : decode cX12_isSign 42 = .ok (.iload_n 0, 1) := by decide +kernel
theorem dX12_isSign_43 : decode cX12_isSign 43 = .ok (.bipush 45, 2) := by decide +kernel
theorem dX12_isSign_45 : decode cX12_isSign 45 = .ok (.if_icmp .eq 21, 3) := by decide +kernel
theorem dX12_isSign_48 : decode cX12_isSign 48 = .ok (.iload_n 0, 1) := by decide +kernel
theorem dX12_isSign_49 : decode cX12_isSign 49 = .ok (.bipush 42, 2) := by decide +kernel
theorem dX12_isSign_51 : decode cX12_isSign 51 = .ok (.if_icmp .eq 15, 3) := by decide +kernel
theorem dX12_isSign_54 : decode cX12_isSign 54 = .ok (.iload_n 0, 1) := by decide +kernel
theorem dX12_isSign_55 : decode cX12_isSign 55 = .ok (.bipush 47, 2) := by decide +kernel
theorem dX12_isSign_57 : decode cX12_isSign 57 = .ok (.if_icmp .eq 9, 3) := by decide +kernel
theorem dX12_isSign_60 : decode cX12_isSign 60 = .ok (.iload_n 0, 1) := by decide +kernel
theorem dX12_isSign_61 : decode cX12_isSign 61 = .ok (.bipush 37, 2) := by decide +kernel
theorem dX12_isSign_63 : decode cX12_isSign 63 = .ok (.if_icmp .ne 7, 3) := by decide +kernel
theorem dX12_isSign_66 : decode cX12_isSign 66 = .ok (.iconst 1, 1) := by decide +kernel
theorem dX12_isSign_67 : decode cX12_isSign 67 = .ok (.goto 4, 3) := by decide +kernel
theorem dX12_isSign_70 : decode cX12_isSign 70 = .ok (.iconst 0, 1) := by decide +kernel
theorem dX12_isSign_71 : decode cX12_isSign 71 = .ok (.ireturn, 1) := by decide +kernel
theorem dX12_token_0 : decode cX12_token 0 = .ok (.aload_n 0, 1) := by decide +kernel
theorem dX12_token_1 : decode cX12_token 1 = .ok (.iconst 0, 1) := by decide +kernel
theorem dX12_token_2 : decode cX12_token 2 = .ok (.invokevirtual 161, 3) := by decide +kernel
theorem dX12_token_5 : decode cX12_token 5 = .ok (.bipush 32, 2) := by decide +kernel
theorem dX12_token_7 : decode cX12_token 7 = .ok (.if_icmp .eq 13, 3) := by decide +kernel
theorem dX12_token_10 : decode cX12_token 10 = .ok (.aload_n 0, 1) := by decide +kernel
theorem dX12_token_11 : decode cX12_token 11 = .ok (.iconst 0, 1) := by decide +kernel
theorem dX12_token_12 : decode cX12_token 12 = .ok (.invokevirtual 161, 3) := by decide +kernel
theorem dX12_token_15 : decode cX12_token 15 = .ok (.bipush 10, 2) := by decide +kernel
theorem dX12_token_17 : decode cX12_token 17 = .ok (.if_icmp .ne 16, 3) := by decide +kernel
theorem dX12_token_20 : decode cX12_token 20 = .ok (.aload_n 0, 1) := by decide +kernel
theorem dX12_token_21 : decode cX12_token 21 = .ok (.dup, 1) := by decide +kernel
theorem dX12_token_22 : decode cX12_token 22 = .ok (.getfield 155, 3) := by decide +kernel
theorem dX12_token_25 : decode cX12_token 25 = .ok (.iconst 1, 1) := by decide +kernel
theorem dX12_token_26 : decode cX12_token 26 = .ok (.iadd, 1) := by decide +kernel
theorem dX12_token_27 : decode cX12_token 27 = .ok (.putfield 155, 3) := by decide +kernel
theorem dX12_token_30 : decode cX12_token 30 = .ok (.goto (-30), 3) := by decide +kernel
theorem dX12_token_33 : decode cX12_token 33 = .ok (.aload_n 0, 1) := by decide +kernel
theorem dX12_token_34 : decode cX12_token 34 = .ok (.aload_n 0, 1) := by decide +kernel
theorem dX12_token_35 : decode cX12_token 35 = .ok (.getfield 155, 3) := by decide +kernel
theorem dX12_token_38 : decode cX12_token 38 = .ok (.putfield 165, 3) := by decide +kernel
theorem dX12_token_41 : decode cX12_token 41 = .ok (.aload_n 0, 1) := by decide +kernel
theorem dX12_token_42 : decode cX12_token 42 = .ok (.iconst 0, 1) := by decide +kernel
theorem dX12_token_43 : decode cX12_token 43 = .ok (.invokevirtual 161, 3) := by decide +kernel
theorem dX12_token_46 : decode cX12_token 46 = .ok (.istore_n 1, 1) := by decide +kernel
theorem dX12_token_47 : decode cX12_token 47 = .ok (.iconst 0, 1) := by decide +kernel
theorem dX12_token_48 : decode cX12_token 48 = .ok (.istore_n 2, 1) := by decide +kernel
theorem dX12_token_49 : decode cX12_token 49 = .ok (.aload_n 0, 1) := by decide +kernel
theorem dX12_token_50 : decode cX12_token 50 = .ok (.lconst 0, 1) := by decide +kernel
theorem dX12_token_51 : decode cX12_token 51 = .ok (.putfield 168, 3) := by decide +kernel
theorem dX12_token_54 : decode cX12_token 54 = .ok (.aload_n 0, 1) := by decide +kernel
theorem dX12_token_55 : decode cX12_token 55 = .ok (.iconst 0, 1) := by decide +kernel
theorem dX12_token_56 : decode cX12_token 56 = .ok (.putfield 172, 3) := by decide +kernel
theorem dX12_token_59 : decode cX12_token 59 = .ok (.iload_n 1, 1) := by decide +kernel
theorem dX12_token_60 : decode cX12_token 60 = .ok (.ifCond .ge 11, 3) := by decide +kernel
theorem dX12_token_63 : decode cX12_token 63 = .ok (.aload_n 0, 1) := by decide +kernel
theorem dX12_token_64 : decode cX12_token 64 = .ok (.iconst 0, 1) := by decide +kernel
theorem dX12_token_65 : decode cX12_token 65 = .ok (.putfield 175, 3) := by decide +kernel
theorem dX12_token_68 : decode cX12_token 68 = .ok (.goto 164, 3) := by decide +kernel
theorem dX12_token_71 : decode cX12_token 71 = .ok (.iload_n 1, 1) := by decide +kernel
theorem dX12_token_72 : decode cX12_token 72 = .ok (.invokestatic 178, 3) := by decide +kernel
theorem dX12_token_75 : decode cX12_token 75 = .ok (.ifCond .eq 62, 3) := by decide +kernel
theorem dX12_token_78 : decode cX12_token 78 = .ok (.aload_n 0, 1) := by decide +kernel
theorem dX12_token_79 : decode cX12_token 79 = .ok (.iload_n 2, 1) := by decide +kernel
theorem dX12_token_80 : decode cX12_token 80 = .ok (.invokevirtual 161, 3) := by decide +kernel
theorem dX12_token_83 : decode cX12_token 83 = .ok (.invokestatic 178, 3) := by decide +kernel
theorem dX12_token_86 : decode cX12_token 86 = .ok (.ifCond .eq 33, 3) := by decide +kernel
theorem dX12_token_89 : decode cX12_token 89 = .ok (.iload_n 2, 1) := by decide +kernel
theorem dX12_token_90 : decode cX12_token 90 = .ok (.bipush 8, 2) := by decide +kernel
theorem dX12_token_92 : decode cX12_token 92 = .ok (.if_icmp .ge 21, 3) := by decide +kernel
theorem dX12_token_95 : decode cX12_token 95 = .ok (.aload_n 0, 1) := by decide +kernel
theorem dX12_token_96 : decode cX12_token 96 = .ok (.aload_n 0, 1) := by decide +kernel
theorem dX12_token_97 : decode cX12_token 97 = .ok (.getfield 168, 3) := by decide +kernel
theorem dX12_token_100 : decode cX12_token 100 = .ok (.bipush 8, 2) := by decide +kernel
theorem dX12_token_102 : decode cX12_token 102 = .ok (.lshl, 1) := by decide +kernel
theorem dX12_token_103 : decode cX12_token 103 = .ok (.aload_n 0, 1) := by decide +kernel
theorem dX12_token_104 : decode cX12_token 104 = .ok (.iload_n 2, 1) := by decide +kernel
theorem dX12_token_105 : decode cX12_token 105 = .ok (.invokevirtual 161, 3) := by decide +kernel
theorem dX12_token_108 : decode cX12_token 108 = .ok (.i2l, 1) := by decide +kernel
theorem dX12_token_109 : decode cX12_token 109 = .ok (.lor, 1) := by decide +kernel
theorem dX12_token_110 : decode cX12_token 110 = .ok (.putfield 168, 3) := by decide +kernel
theorem dX12_token_113 : decode cX12_token 113 = .ok (.iinc 2 1, 3) := by decide +kernel
theorem dX12_token_116 : decode cX12_token 116 = .ok (.goto (-38), 3) := by decide +kernel
theorem dX12_token_119 : decode cX12_token 119 = .ok (.aload_n 0, 1) := by decide +kernel
theorem dX12_token_120 : decode cX12_token 120 = .ok (.iload_n 2, 1) := by decide +kernel
theorem dX12_token_121 : decode cX12_token 121 = .ok (.bipush 8, 2) := by decide +kernel
theorem dX12_token_123 : decode cX12_token 123 = .ok (.if_icmp .le 7, 3) := by decide +kernel
theorem dX12_token_126 : decode cX12_token 126 = .ok (.iconst 3, 1) := by decide +kernel
theorem dX12_token_127 : decode cX12_token 127 = .ok (.goto 4, 3) := by decide +kernel
theorem dX12_token_130 : decode cX12_token 130 = .ok (.iconst 1, 1) := by decide +kernel
theorem dX12_token_131 : decode cX12_token 131 = .ok (.putfield 175, 3) := by decide +kernel
theorem dX12_token_134 : decode cX12_token 134 = .ok (.goto 98, 3) := by decide +kernel
theorem dX12_token_137 : decode cX12_token 137 = .ok (.iload_n 1, 1) := by decide +kernel
theorem dX12_token_138 : decode cX12_token 138 = .ok (.invokestatic 182, 3) := by decide +kernel
theorem dX12_token_141 : decode cX12_token 141 = .ok (.ifCond .eq 73, 3) := by decide +kernel
theorem dX12_token_144 : decode cX12_token 144 = .ok (.aload_n 0, 1) := by decide +kernel
theorem dX12_token_145 : decode cX12_token 145 = .ok (.iload_n 2, 1) := by decide +kernel
theorem dX12_token_146 : decode cX12_token 146 = .ok (.invokevirtual 161, 3) := by decide +kernel
theorem dX12_token_149 : decode cX12_token 149 = .ok (.invokestatic 182, 3) := by decide +kernel
theorem dX12_token_152 : decode cX12_token 152 = .ok (.ifCond .eq 34, 3) := by decide +kernel
theorem dX12_token_155 : decode cX12_token 155 = .ok (.iload_n 2, 1) := by decide +kernel
theorem dX12_token_156 : decode cX12_token 156 = .ok (.iconst 4, 1) := by decide +kernel
theorem dX12_token_157 : decode cX12_token 157 = .ok (.if_icmp .ge 23, 3) := by decide +kernel
theorem dX12_token_160 : decode cX12_token 160 = .ok (.aload_n 0, 1) := by decide +kernel
theorem dX12_token_161 : decode cX12_token 161 = .ok (.bipush 10, 2) := by decide +kernel
theorem dX12_token_163 : decode cX12_token 163 = .ok (.aload_n 0, 1) := by decide +kernel
theorem dX12_token_164 : decode cX12_token 164 = .ok (.getfield 172, 3) := by decide +kernel
theorem dX12_token_167 : decode cX12_token 167 = .ok (.imul, 1) := by decide +kernel
theorem dX12_token_168 : decode cX12_token 168 = .ok (.aload_n 0, 1) := by decide +kernel
theorem dX12_token_169 : decode cX12_token 169 = .ok (.iload_n 2, 1) := by decide +kernel
theorem dX12_token_170 : decode cX12_token 170 = .ok (.invokevirtual 161, 3) := by decide +kernel
theorem dX12_token_173 : decode cX12_token 173 = .ok (.iadd, 1) := by decide +kernel
theorem dX12_token_174 : decode cX12_token 174 = .ok (.bipush 48, 2) := by decide +kernel
theorem dX12_token_176 : decode cX12_token 176 = .ok (.isub, 1) := by decide +kernel
theorem dX12_token_177 : decode cX12_token 177 = .ok (.putfield 172, 3) := by decide +kernel
theorem dX12_token_180 : decode cX12_token 180 = .ok (.iinc 2 1, 3) := by decide +kernel
theorem dX12_token_183 : decode cX12_token 183 = .ok (.goto (-39), 3) := by decide +kernel
theorem dX12_token_186 : decode cX12_token 186 = .ok (.aload_n 0, 1) := by decide +kernel
theorem dX12_token_187 : decode cX12_token 187 = .ok (.iload_n 2, 1) := by decide +kernel
theorem dX12_token_188 : decode cX12_token 188 = .ok (.iconst 4, 1) := by decide +kernel
theorem dX12_token_189 : decode cX12_token 189 = .ok (.if_icmp .gt 14, 3) := by decide +kernel
theorem dX12_token_192 : decode cX12_token 192 = .ok (.aload_n 0, 1) := by decide +kernel
theorem dX12_token_193 : decode cX12_token 193 = .ok (.iload_n 2, 1) := by decide +kernel
theorem dX12_token_194 : decode cX12_token 194 = .ok (.invokevirtual 161, 3) := by decide +kernel
theorem dX12_token_197 : decode cX12_token 197 = .ok (.invokestatic 178, 3) := by decide +kernel
theorem dX12_token_200 : decode cX12_token 200 = .ok (.ifCond .eq 7, 3) := by decide +kernel
theorem dX12_token_203 : decode cX12_token 203 = .ok (.iconst 3, 1) := by decide +kernel
theorem dX12_token_204 : decode cX12_token 204 = .ok (.goto 4, 3) := by decide +kernel
theorem dX12_token_207 : decode cX12_token 207 = .ok (.iconst 2, 1) := by decide +kernel
theorem dX12_token_208 : decode cX12_token 208 = .ok (.putfield 175, 3) := by decide +kernel
theorem dX12_token_211 : decode cX12_token 211 = .ok (.goto 21, 3) := by decide +kernel
theorem dX12_token_214 : decode cX12_token 214 = .ok (.iconst 1, 1) := by decide +kernel
theorem dX12_token_215 : decode cX12_token 215 = .ok (.istore_n 2, 1) := by decide +kernel
theorem dX12_token_216 : decode cX12_token 216 = .ok (.aload_n 0, 1) := by decide +kernel
theorem dX12_token_217 : decode cX12_token 217 = .ok (.iload_n 1, 1) := by decide +kernel
theorem dX12_token_218 : decode cX12_token 218 = .ok (.invokestatic 185, 3) := by decide +kernel
theorem dX12_token_221 : decode cX12_token 221 = .ok (.ifCond .eq 7, 3) := by decide +kernel
theorem dX12_token_224 : decode cX12_token 224 = .ok (.iload_n 1, 1) := by decide +kernel
theorem dX12_token_225 : decode cX12_token 225 = .ok (.goto 4, 3) := by decide +kernel
theorem dX12_token_228 : decode cX12_token 228 = .ok (.iconst 3, 1) := by decide +kernel
theorem dX12_token_229 : decode cX12_token 229 = .ok (.putfield 175, 3) := by decide +kernel
theorem dX12_token_232 : decode cX12_token 232 = .ok (.aload_n 0, 1) := by decide +kernel
theorem dX12_token_233 : decode cX12_token 233 = .ok (.getfield 175, 3) := by decide +kernel
theorem dX12_token_236 : decode cX12_token 236 = .ok (.iconst 3, 1) := by decide +kernel
theorem dX12_token_237 : decode cX12_token 237 = .ok (.if_icmp .eq 13, 3) := by decide +kernel
theorem dX12_token_240 : decode cX12_token 240 = .ok (.aload_n 0, 1) := by decide +kernel
theorem dX12_token_241 : decode cX12_token 241 = .ok (.dup, 1) := by decide +kernel
theorem dX12_token_242 : decode cX12_token 242 = .ok (.getfield 155, 3) := by decide +kernel
theorem dX12_token_245 : decode cX12_token 245 = .ok (.iload_n 2, 1) := by decide +kernel
theorem dX12_token_246 : decode cX12_token 246 = .ok (.iadd, 1) := by decide +kernel
theorem dX12_token_247 : decode cX12_token 247 = .ok (.putfield 155, 3) := by decide +kernel
theorem dX12_token_250 : decode cX12_token 250 = .ok (.return_, 1) := by decide +kernel
theorem dX12_wrongAt_0 : decode cX12_wrongAt 0 = .ok (.aload_n 0, 1) := by decide +kernel
theorem dX12_wrongAt_1 : decode cX12_wrongAt 1 = .ok (.getfield 188, 3) := by decide +kernel
theorem dX12_wrongAt_4 : decode cX12_wrongAt 4 = .ok (.ifCond .le 4, 3) := by decide +kernel
theorem dX12_wrongAt_7 : decode cX12_wrongAt 7 = .ok (.return_, 1) := by decide +kernel
theorem dX12_wrongAt_8 : decode cX12_wrongAt 8 = .ok (.aload_n 0, 1) := by decide +kernel
theorem dX12_wrongAt_9 : decode cX12_wrongAt 9 = .ok (.aload_n 0, 1) := by decide +kernel
theorem dX12_wrongAt_10 : decode cX12_wrongAt 10 = .ok (.getfield 175, 3) := by decide +kernel
theorem dX12_wrongAt_13 : decode cX12_wrongAt 13 = .ok (.iconst 3, 1) := by decide +kernel
theorem dX12_wrongAt_14 : decode cX12_wrongAt 14 = .ok (.if_icmp .ne 15, 3) := by decide +kernel
theorem dX12_wrongAt_17 : decode cX12_wrongAt 17 = .ok (.iload_n 2, 1) := by decide +kernel
theorem dX12_wrongAt_18 : decode cX12_wrongAt 18 = .ok (.aload_n 0, 1) := by decide +kernel
theorem dX12_wrongAt_19 : decode cX12_wrongAt 19 = .ok (.getfield 165, 3) := by decide +kernel
theorem dX12_wrongAt_22 : decode cX12_wrongAt 22 = .ok (.if_icmp .ne 7, 3) := by decide +kernel
theorem dX12_wrongAt_25 : decode cX12_wrongAt 25 = .ok (.iconst 1, 1) := by decide +kernel
theorem dX12_wrongAt_26 : decode cX12_wrongAt 26 = .ok (.goto 4, 3) := by decide +kernel
theorem dX12_wrongAt_29 : decode cX12_wrongAt 29 = .ok (.iload_n 1, 1) := by decide +kernel
theorem dX12_wrongAt_30 : decode cX12_wrongAt 30 = .ok (.putfield 188, 3) := by decide +kernel
theorem dX12_wrongAt_33 : decode cX12_wrongAt 33 = .ok (.aload_n 0, 1) := by decide +kernel
theorem dX12_wrongAt_34 : decode cX12_wrongAt 34 = .ok (.iload_n 2, 1) := by decide +kernel
theorem dX12_wrongAt_35 : decode cX12_wrongAt 35 = .ok (.putfield 13, 3) := by decide +kernel
theorem dX12_wrongAt_38 : decode cX12_wrongAt 38 = .ok (.return_, 1) := by decide +kernel
theorem dX12_wrong_0 : decode cX12_wrong 0 = .ok (.aload_n 0, 1) := by decide +kernel
theorem dX12_wrong_1 : decode cX12_wrong 1 = .ok (.iload_n 1, 1) := by decide +kernel
theorem dX12_wrong_2 : decode cX12_wrong 2 = .ok (.aload_n 0, 1) := by decide +kernel
theorem dX12_wrong_3 : decode cX12_wrong 3 = .ok (.getfield 165, 3) := by decide +kernel
theorem dX12_wrong_6 : decode cX12_wrong 6 = .ok (.invokevirtual 191, 3) := by decide +kernel
theorem dX12_wrong_9 : decode cX12_wrong 9 = .ok (.return_, 1) := by decide +kernel
theorem dX12_isWord_0 : decode cX12_isWord 0 = .ok (.aload_n 0, 1) := by decide +kernel
theorem dX12_isWord_1 : decode cX12_isWord 1 = .ok (.getfield 175, 3) := by decide +kernel
theorem dX12_isWord_4 : decode cX12_isWord 4 = .ok (.iconst 1, 1) := by decide +kernel
theorem dX12_isWord_5 : decode cX12_isWord 5 = .ok (.if_icmp .ne 16, 3) := by decide +kernel
theorem dX12_isWord_8 : decode cX12_isWord 8 = .ok (.aload_n 0, 1) := by decide +kernel
theorem dX12_isWord_9 : decode cX12_isWord 9 = .ok (.getfield 168, 3) := by decide +kernel
theorem dX12_isWord_12 : decode cX12_isWord 12 = .ok (.lload_n 1, 1) := by decide +kernel
theorem dX12_isWord_13 : decode cX12_isWord 13 = .ok (.lcmp, 1) := by decide +kernel
theorem dX12_isWord_14 : decode cX12_isWord 14 = .ok (.ifCond .ne 7, 3) := by decide +kernel
theorem dX12_isWord_17 : decode cX12_isWord 17 = .ok (.iconst 1, 1) := by decide +kernel
theorem dX12_isWord_18 : decode cX12_isWord 18 = .ok (.goto 4, 3) := by decide +kernel
theorem dX12_isWord_21 : decode cX12_isWord 21 = .ok (.iconst 0, 1) := by decide +kernel
theorem dX12_isWord_22 : decode cX12_isWord 22 = .ok (.ireturn, 1) := by decide +kernel
theorem dX12_isOwn_0 : decode cX12_isOwn 0 = .ok (.aload_n 0, 1) := by decide +kernel
theorem dX12_isOwn_1 : decode cX12_isOwn 1 = .ok (.getfield 168, 3) := by decide +kernel
theorem dX12_isOwn_4 : decode cX12_isOwn 4 = .ok (.ldc2_w 195, 3) := by decide +kernel
theorem dX12_isOwn_7 : decode cX12_isOwn 7 = .ok (.lcmp, 1) := by decide +kernel
theorem dX12_isOwn_8 : decode cX12_isOwn 8 = .ok (.ifCond .eq 201, 3) := by decide +kernel
theorem dX12_isOwn_11 : decode cX12_isOwn 11 = .ok (.aload_n 0, 1) := by decide +kernel
theorem dX12_isOwn_12 : decode cX12_isOwn 12 = .ok (.getfield 168, 3) := by decide +kernel
theorem dX12_isOwn_15 : decode cX12_isOwn 15 = .ok (.ldc2_w 197, 3) := by decide +kernel
theorem dX12_isOwn_18 : decode cX12_isOwn 18 = .ok (.lcmp, 1) := by decide +kernel
theorem dX12_isOwn_19 : decode cX12_isOwn 19 = .ok (.ifCond .eq 190, 3) := by decide +kernel
theorem dX12_isOwn_22 : decode cX12_isOwn 22 = .ok (.aload_n 0, 1) := by decide +kernel
theorem dX12_isOwn_23 : decode cX12_isOwn 23 = .ok (.getfield 168, 3) := by decide +kernel
theorem dX12_isOwn_26 : decode cX12_isOwn 26 = .ok (.ldc2_w 199, 3) := by decide +kernel
theorem dX12_isOwn_29 : decode cX12_isOwn 29 = .ok (.lcmp, 1) := by decide +kernel
theorem dX12_isOwn_30 : decode cX12_isOwn 30 = .ok (.ifCond .eq 179, 3) := by decide +kernel
theorem dX12_isOwn_33 : decode cX12_isOwn 33 = .ok (.aload_n 0, 1) := by decide +kernel
theorem dX12_isOwn_34 : decode cX12_isOwn 34 = .ok (.getfield 168, 3) := by decide +kernel
theorem dX12_isOwn_37 : decode cX12_isOwn 37 = .ok (.ldc2_w 201, 3) := by decide +kernel
theorem dX12_isOwn_40 : decode cX12_isOwn 40 = .ok (.lcmp, 1) := by decide +kernel
theorem dX12_isOwn_41 : decode cX12_isOwn 41 = .ok (.ifCond .eq 168, 3) := by decide +kernel
theorem dX12_isOwn_44 : decode cX12_isOwn 44 = .ok (.aload_n 0, 1) := by decide +kernel
theorem dX12_isOwn_45 : decode cX12_isOwn 45 = .ok (.getfield 168, 3) := by decide +kernel
theorem dX12_isOwn_48 : decode cX12_isOwn 48 = .ok (.ldc2_w 203, 3) := by decide +kernel
theorem dX12_isOwn_51 : decode cX12_isOwn 51 = .ok (.lcmp, 1) := by decide +kernel
theorem dX12_isOwn_52 : decode cX12_isOwn 52 = .ok (.ifCond .eq 157, 3) := by decide +kernel
theorem dX12_isOwn_55 : decode cX12_isOwn 55 = .ok (.aload_n 0, 1) := by decide +kernel
theorem dX12_isOwn_56 : decode cX12_isOwn 56 = .ok (.getfield 168, 3) := by decide +kernel
theorem dX12_isOwn_59 : decode cX12_isOwn 59 = .ok (.ldc2_w 205, 3) := by decide +kernel
theorem dX12_isOwn_62 : decode cX12_isOwn 62 = .ok (.lcmp, 1) := by decide +kernel
theorem dX12_isOwn_63 : decode cX12_isOwn 63 = .ok (.ifCond .eq 146, 3) := by decide +kernel
theorem dX12_isOwn_66 : decode cX12_isOwn 66 = .ok (.aload_n 0, 1) := by decide +kernel
theorem dX12_isOwn_67 : decode cX12_isOwn 67 = .ok (.getfield 168, 3) := by decide +kernel
theorem dX12_isOwn_70 : decode cX12_isOwn 70 = .ok (.ldc2_w 207, 3) := by decide +kernel
theorem dX12_isOwn_73 : decode cX12_isOwn 73 = .ok (.lcmp, 1) := by decide +kernel
theorem dX12_isOwn_74 : decode cX12_isOwn 74 = .ok (.ifCond .eq 135, 3) := by decide +kernel
theorem dX12_isOwn_77 : decode cX12_isOwn 77 = .ok (.aload_n 0, 1) := by decide +kernel
theorem dX12_isOwn_78 : decode cX12_isOwn 78 = .ok (.getfield 168, 3) := by decide +kernel
theorem dX12_isOwn_81 : decode cX12_isOwn 81 = .ok (.ldc2_w 209, 3) := by decide +kernel
theorem dX12_isOwn_84 : decode cX12_isOwn 84 = .ok (.lcmp, 1) := by decide +kernel
theorem dX12_isOwn_85 : decode cX12_isOwn 85 = .ok (.ifCond .eq 124, 3) := by decide +kernel
theorem dX12_isOwn_88 : decode cX12_isOwn 88 = .ok (.aload_n 0, 1) := by decide +kernel
theorem dX12_isOwn_89 : decode cX12_isOwn 89 = .ok (.getfield 168, 3) := by decide +kernel
theorem dX12_isOwn_92 : decode cX12_isOwn 92 = .ok (.ldc2_w 211, 3) := by decide +kernel
theorem dX12_isOwn_95 : decode cX12_isOwn 95 = .ok (.lcmp, 1) := by decide +kernel
theorem dX12_isOwn_96 : decode cX12_isOwn 96 = .ok (.ifCond .eq 113, 3) := by decide +kernel
theorem dX12_isOwn_99 : decode cX12_isOwn 99 = .ok (.aload_n 0, 1) := by decide +kernel
theorem dX12_isOwn_100 : decode cX12_isOwn 100 = .ok (.getfield 168, 3) := by decide +kernel
theorem dX12_isOwn_103 : decode cX12_isOwn 103 = .ok (.ldc2_w 213, 3) := by decide +kernel
theorem dX12_isOwn_106 : decode cX12_isOwn 106 = .ok (.lcmp, 1) := by decide +kernel
theorem dX12_isOwn_107 : decode cX12_isOwn 107 = .ok (.ifCond .eq 102, 3) := by decide +kernel
theorem dX12_isOwn_110 : decode cX12_isOwn 110 = .ok (.aload_n 0, 1) := by decide +kernel
theorem dX12_isOwn_111 : decode cX12_isOwn 111 = .ok (.getfield 168, 3) := by decide +kernel
theorem dX12_isOwn_114 : decode cX12_isOwn 114 = .ok (.ldc2_w 215, 3) := by decide +kernel
theorem dX12_isOwn_117 : decode cX12_isOwn 117 = .ok (.lcmp, 1) := by decide +kernel
theorem dX12_isOwn_118 : decode cX12_isOwn 118 = .ok (.ifCond .eq 91, 3) := by decide +kernel
theorem dX12_isOwn_121 : decode cX12_isOwn 121 = .ok (.aload_n 0, 1) := by decide +kernel
theorem dX12_isOwn_122 : decode cX12_isOwn 122 = .ok (.getfield 168, 3) := by decide +kernel
theorem dX12_isOwn_125 : decode cX12_isOwn 125 = .ok (.ldc2_w 217, 3) := by decide +kernel
theorem dX12_isOwn_128 : decode cX12_isOwn 128 = .ok (.lcmp, 1) := by decide +kernel
theorem dX12_isOwn_129 : decode cX12_isOwn 129 = .ok (.ifCond .eq 80, 3) := by decide +kernel
theorem dX12_isOwn_132 : decode cX12_isOwn 132 = .ok (.aload_n 0, 1) := by decide +kernel
theorem dX12_isOwn_133 : decode cX12_isOwn 133 = .ok (.getfield 168, 3) := by decide +kernel
theorem dX12_isOwn_136 : decode cX12_isOwn 136 = .ok (.ldc2_w 219, 3) := by decide +kernel
theorem dX12_isOwn_139 : decode cX12_isOwn 139 = .ok (.lcmp, 1) := by decide +kernel
theorem dX12_isOwn_140 : decode cX12_isOwn 140 = .ok (.ifCond .eq 69, 3) := by decide +kernel
theorem dX12_isOwn_143 : decode cX12_isOwn 143 = .ok (.aload_n 0, 1) := by decide +kernel
theorem dX12_isOwn_144 : decode cX12_isOwn 144 = .ok (.getfield 168, 3) := by decide +kernel
theorem dX12_isOwn_147 : decode cX12_isOwn 147 = .ok (.ldc2_w 221, 3) := by decide +kernel
theorem dX12_isOwn_150 : decode cX12_isOwn 150 = .ok (.lcmp, 1) := by decide +kernel
theorem dX12_isOwn_151 : decode cX12_isOwn 151 = .ok (.ifCond .eq 58, 3) := by decide +kernel
theorem dX12_isOwn_154 : decode cX12_isOwn 154 = .ok (.aload_n 0, 1) := by decide +kernel
theorem dX12_isOwn_155 : decode cX12_isOwn 155 = .ok (.getfield 168, 3) := by decide +kernel
theorem dX12_isOwn_158 : decode cX12_isOwn 158 = .ok (.ldc2_w 223, 3) := by decide +kernel
theorem dX12_isOwn_161 : decode cX12_isOwn 161 = .ok (.lcmp, 1) := by decide +kernel
theorem dX12_isOwn_162 : decode cX12_isOwn 162 = .ok (.ifCond .eq 47, 3) := by decide +kernel
theorem dX12_isOwn_165 : decode cX12_isOwn 165 = .ok (.aload_n 0, 1) := by decide +kernel
theorem dX12_isOwn_166 : decode cX12_isOwn 166 = .ok (.getfield 168, 3) := by decide +kernel
theorem dX12_isOwn_169 : decode cX12_isOwn 169 = .ok (.ldc2_w 225, 3) := by decide +kernel
theorem dX12_isOwn_172 : decode cX12_isOwn 172 = .ok (.lcmp, 1) := by decide +kernel
theorem dX12_isOwn_173 : decode cX12_isOwn 173 = .ok (.ifCond .eq 36, 3) := by decide +kernel
theorem dX12_isOwn_176 : decode cX12_isOwn 176 = .ok (.aload_n 0, 1) := by decide +kernel
theorem dX12_isOwn_177 : decode cX12_isOwn 177 = .ok (.getfield 168, 3) := by decide +kernel
theorem dX12_isOwn_180 : decode cX12_isOwn 180 = .ok (.ldc2_w 227, 3) := by decide +kernel
theorem dX12_isOwn_183 : decode cX12_isOwn 183 = .ok (.lcmp, 1) := by decide +kernel
theorem dX12_isOwn_184 : decode cX12_isOwn 184 = .ok (.ifCond .eq 25, 3) := by decide +kernel
theorem dX12_isOwn_187 : decode cX12_isOwn 187 = .ok (.aload_n 0, 1) := by decide +kernel
theorem dX12_isOwn_188 : decode cX12_isOwn 188 = .ok (.getfield 168, 3) := by decide +kernel
theorem dX12_isOwn_191 : decode cX12_isOwn 191 = .ok (.ldc2_w 229, 3) := by decide +kernel
theorem dX12_isOwn_194 : decode cX12_isOwn 194 = .ok (.lcmp, 1) := by decide +kernel
theorem dX12_isOwn_195 : decode cX12_isOwn 195 = .ok (.ifCond .eq 14, 3) := by decide +kernel
theorem dX12_isOwn_198 : decode cX12_isOwn 198 = .ok (.aload_n 0, 1) := by decide +kernel
theorem dX12_isOwn_199 : decode cX12_isOwn 199 = .ok (.getfield 168, 3) := by decide +kernel
theorem dX12_isOwn_202 : decode cX12_isOwn 202 = .ok (.ldc2_w 231, 3) := by decide +kernel
theorem dX12_isOwn_205 : decode cX12_isOwn 205 = .ok (.lcmp, 1) := by decide +kernel
theorem dX12_isOwn_206 : decode cX12_isOwn 206 = .ok (.ifCond .ne 7, 3) := by decide +kernel
theorem dX12_isOwn_209 : decode cX12_isOwn 209 = .ok (.iconst 1, 1) := by decide +kernel
theorem dX12_isOwn_210 : decode cX12_isOwn 210 = .ok (.goto 4, 3) := by decide +kernel
theorem dX12_isOwn_213 : decode cX12_isOwn 213 = .ok (.iconst 0, 1) := by decide +kernel
theorem dX12_isOwn_214 : decode cX12_isOwn 214 = .ok (.ireturn, 1) := by decide +kernel
theorem dX12_isName_0 : decode cX12_isName 0 = .ok (.aload_n 0, 1) := by decide +kernel
theorem dX12_isName_1 : decode cX12_isName 1 = .ok (.getfield 175, 3) := by decide +kernel
theorem dX12_isName_4 : decode cX12_isName 4 = .ok (.iconst 1, 1) := by decide +kernel
theorem dX12_isName_5 : decode cX12_isName 5 = .ok (.if_icmp .ne 14, 3) := by decide +kernel
theorem dX12_isName_8 : decode cX12_isName 8 = .ok (.aload_n 0, 1) := by decide +kernel
theorem dX12_isName_9 : decode cX12_isName 9 = .ok (.invokevirtual 233, 3) := by decide +kernel
theorem dX12_isName_12 : decode cX12_isName 12 = .ok (.ifCond .ne 7, 3) := by decide +kernel
theorem dX12_isName_15 : decode cX12_isName 15 = .ok (.iconst 1, 1) := by decide +kernel
theorem dX12_isName_16 : decode cX12_isName 16 = .ok (.goto 4, 3) := by decide +kernel
theorem dX12_isName_19 : decode cX12_isName 19 = .ok (.iconst 0, 1) := by decide +kernel
theorem dX12_isName_20 : decode cX12_isName 20 = .ok (.ireturn, 1) := by decide +kernel
theorem dX12_want_0 : decode cX12_want 0 = .ok (.aload_n 0, 1) := by decide +kernel
theorem dX12_want_1 : decode cX12_want 1 = .ok (.getfield 188, 3) := by decide +kernel
theorem dX12_want_4 : decode cX12_want 4 = .ok (.ifCond .le 4, 3) := by decide +kernel
theorem dX12_want_7 : decode cX12_want 7 = .ok (.return_, 1) := by decide +kernel
theorem dX12_want_8 : decode cX12_want 8 = .ok (.aload_n 0, 1) := by decide +kernel
theorem dX12_want_9 : decode cX12_want 9 = .ok (.lload_n 1, 1) := by decide +kernel
theorem dX12_want_10 : decode cX12_want 10 = .ok (.invokevirtual 237, 3) := by decide +kernel
theorem dX12_want_13 : decode cX12_want 13 = .ok (.ifCond .ne 11, 3) := by decide +kernel
theorem dX12_want_16 : decode cX12_want 16 = .ok (.aload_n 0, 1) := by decide +kernel
theorem dX12_want_17 : decode cX12_want 17 = .ok (.iconst 2, 1) := by decide +kernel
theorem dX12_want_18 : decode cX12_want 18 = .ok (.invokevirtual 241, 3) := by decide +kernel
theorem dX12_want_21 : decode cX12_want 21 = .ok (.goto 7, 3) := by decide +kernel
theorem dX12_want_24 : decode cX12_want 24 = .ok (.aload_n 0, 1) := by decide +kernel
theorem dX12_want_25 : decode cX12_want 25 = .ok (.invokevirtual 244, 3) := by decide +kernel
theorem dX12_want_28 : decode cX12_want 28 = .ok (.return_, 1) := by decide +kernel
theorem dX12_toldNumber_0 : decode cX12_toldNumber 0 = .ok (.aload_n 0, 1) := by decide +kernel
theorem dX12_toldNumber_1 : decode cX12_toldNumber 1 = .ok (.getfield 188, 3) := by decide +kernel
theorem dX12_toldNumber_4 : decode cX12_toldNumber 4 = .ok (.ifCond .le 5, 3) := by decide +kernel
theorem dX12_toldNumber_7 : decode cX12_toldNumber 7 = .ok (.iconst 0, 1) := by decide +kernel
theorem dX12_toldNumber_8 : decode cX12_toldNumber 8 = .ok (.ireturn, 1) := by decide +kernel
theorem dX12_toldNumber_9 : decode cX12_toldNumber 9 = .ok (.aload_n 0, 1) := by decide +kernel
theorem dX12_toldNumber_10 : decode cX12_toldNumber 10 = .ok (.getfield 175, 3) := by decide +kernel
theorem dX12_toldNumber_13 : decode cX12_toldNumber 13 = .ok (.iconst 2, 1) := by decide +kernel
theorem dX12_toldNumber_14 : decode cX12_toldNumber 14 = .ok (.if_icmp .eq 11, 3) := by decide +kernel
theorem dX12_toldNumber_17 : decode cX12_toldNumber 17 = .ok (.aload_n 0, 1) := by decide +kernel
theorem dX12_toldNumber_18 : decode cX12_toldNumber 18 = .ok (.iconst 2, 1) := by decide +kernel
theorem dX12_toldNumber_19 : decode cX12_toldNumber 19 = .ok (.invokevirtual 241, 3) := by decide +kernel
theorem dX12_toldNumber_22 : decode cX12_toldNumber 22 = .ok (.goto 24, 3) := by decide +kernel
theorem dX12_toldNumber_25 : decode cX12_toldNumber 25 = .ok (.aload_n 0, 1) := by decide +kernel
theorem dX12_toldNumber_26 : decode cX12_toldNumber 26 = .ok (.getfield 172, 3) := by decide +kernel
theorem dX12_toldNumber_29 : decode cX12_toldNumber 29 = .ok (.iload_n 1, 1) := by decide +kernel
theorem dX12_toldNumber_30 : decode cX12_toldNumber 30 = .ok (.if_icmp .lt 11, 3) := by decide +kernel
theorem dX12_toldNumber_33 : decode cX12_toldNumber 33 = .ok (.aload_n 0, 1) := by decide +kernel
theorem dX12_toldNumber_34 : decode cX12_toldNumber 34 = .ok (.getfield 172, 3) := by decide +kernel
theorem dX12_toldNumber_37 : decode cX12_toldNumber 37 = .ok (.iload_n 2, 1) := by decide +kernel
theorem dX12_toldNumber_38 : decode cX12_toldNumber 38 = .ok (.if_icmp .le 8, 3) := by decide +kernel
theorem dX12_toldNumber_41 : decode cX12_toldNumber 41 = .ok (.aload_n 0, 1) := by decide +kernel
theorem dX12_toldNumber_42 : decode cX12_toldNumber 42 = .ok (.iconst 4, 1) := by decide +kernel
theorem dX12_toldNumber_43 : decode cX12_toldNumber 43 = .ok (.invokevirtual 241, 3) := by decide +kernel
theorem dX12_toldNumber_46 : decode cX12_toldNumber 46 = .ok (.aload_n 0, 1) := by decide +kernel
theorem dX12_toldNumber_47 : decode cX12_toldNumber 47 = .ok (.getfield 172, 3) := by decide +kernel
theorem dX12_toldNumber_50 : decode cX12_toldNumber 50 = .ok (.istore_n 3, 1) := by decide +kernel
theorem dX12_toldNumber_51 : decode cX12_toldNumber 51 = .ok (.aload_n 0, 1) := by decide +kernel
theorem dX12_toldNumber_52 : decode cX12_toldNumber 52 = .ok (.getfield 188, 3) := by decide +kernel
theorem dX12_toldNumber_55 : decode cX12_toldNumber 55 = .ok (.ifCond .ne 7, 3) := by decide +kernel
theorem dX12_toldNumber_58 : decode cX12_toldNumber 58 = .ok (.aload_n 0, 1) := by decide +kernel
theorem dX12_toldNumber_59 : decode cX12_toldNumber 59 = .ok (.invokevirtual 244, 3) := by decide +kernel
theorem dX12_toldNumber_62 : decode cX12_toldNumber 62 = .ok (.iload_n 3, 1) := by decide +kernel
theorem dX12_toldNumber_63 : decode cX12_toldNumber 63 = .ok (.ireturn, 1) := by decide +kernel
theorem dX12_told_0 : decode cX12_told 0 = .ok (.aload_n 0, 1) := by decide +kernel
theorem dX12_told_1 : decode cX12_told 1 = .ok (.lload_n 1, 1) := by decide +kernel
theorem dX12_told_2 : decode cX12_told 2 = .ok (.invokevirtual 247, 3) := by decide +kernel
theorem dX12_told_5 : decode cX12_told 5 = .ok (.aload_n 0, 1) := by decide +kernel
theorem dX12_told_6 : decode cX12_told 6 = .ok (.iload_n 3, 1) := by decide +kernel
theorem dX12_told_7 : decode cX12_told 7 = .ok (.iload 4, 2) := by decide +kernel
theorem dX12_told_9 : decode cX12_told 9 = .ok (.invokevirtual 251, 3) := by decide +kernel
theorem dX12_told_12 : decode cX12_told 12 = .ok (.ireturn, 1) := by decide +kernel
theorem dX12_find_0 : decode cX12_find 0 = .ok (.iconst (-1), 1) := by decide +kernel
theorem dX12_find_1 : decode cX12_find 1 = .ok (.istore_n 3, 1) := by decide +kernel
theorem dX12_find_2 : decode cX12_find 2 = .ok (.iconst 0, 1) := by decide +kernel
theorem dX12_find_3 : decode cX12_find 3 = .ok (.istore 4, 2) := by decide +kernel
theorem dX12_find_5 : decode cX12_find 5 = .ok (.iload 4, 2) := by decide +kernel
theorem dX12_find_7 : decode cX12_find 7 = .ok (.iload_n 2, 1) := by decide +kernel
theorem dX12_find_8 : decode cX12_find 8 = .ok (.if_icmp .ge 33, 3) := by decide +kernel
theorem dX12_find_11 : decode cX12_find 11 = .ok (.aload_n 0, 1) := by decide +kernel
theorem dX12_find_12 : decode cX12_find 12 = .ok (.getfield 17, 3) := by decide +kernel
theorem dX12_find_15 : decode cX12_find 15 = .ok (.iload_n 1, 1) := by decide +kernel
theorem dX12_find_16 : decode cX12_find 16 = .ok (.iload 4, 2) := by decide +kernel
theorem dX12_find_18 : decode cX12_find 18 = .ok (.iadd, 1) := by decide +kernel
theorem dX12_find_19 : decode cX12_find 19 = .ok (.laload, 1) := by decide +kernel
theorem dX12_find_20 : decode cX12_find 20 = .ok (.aload_n 0, 1) := by decide +kernel
theorem dX12_find_21 : decode cX12_find 21 = .ok (.getfield 168, 3) := by decide +kernel
theorem dX12_find_24 : decode cX12_find 24 = .ok (.lcmp, 1) := by decide +kernel
theorem dX12_find_25 : decode cX12_find 25 = .ok (.ifCond .ne 8, 3) := by decide +kernel
theorem dX12_find_28 : decode cX12_find 28 = .ok (.iload 4, 2) := by decide +kernel
theorem dX12_find_30 : decode cX12_find 30 = .ok (.goto 4, 3) := by decide +kernel
theorem dX12_find_33 : decode cX12_find 33 = .ok (.iload_n 3, 1) := by decide +kernel
theorem dX12_find_34 : decode cX12_find 34 = .ok (.istore_n 3, 1) := by decide +kernel
theorem dX12_find_35 : decode cX12_find 35 = .ok (.iinc 4 1, 3) := by decide +kernel
theorem dX12_find_38 : decode cX12_find 38 = .ok (.goto (-33), 3) := by decide +kernel
theorem dX12_find_41 : decode cX12_find 41 = .ok (.iload_n 3, 1) := by decide +kernel
theorem dX12_find_42 : decode cX12_find 42 = .ok (.ireturn, 1) := by decide +kernel
theorem dX12_newName_0 : decode cX12_newName 0 = .ok (.aload_n 0, 1) := by decide +kernel
theorem dX12_newName_1 : decode cX12_newName 1 = .ok (.invokevirtual 244, 3) := by decide +kernel
theorem dX12_newName_4 : decode cX12_newName 4 = .ok (.aload_n 0, 1) := by decide +kernel
theorem dX12_newName_5 : decode cX12_newName 5 = .ok (.invokevirtual 255, 3) := by decide +kernel
theorem dX12_newName_8 : decode cX12_newName 8 = .ok (.ifCond .ne 11, 3) := by decide +kernel
theorem dX12_newName_11 : decode cX12_newName 11 = .ok (.aload_n 0, 1) := by decide +kernel
theorem dX12_newName_12 : decode cX12_newName 12 = .ok (.iconst 2, 1) := by decide +kernel
theorem dX12_newName_13 : decode cX12_newName 13 = .ok (.invokevirtual 241, 3) := by decide +kernel
theorem dX12_newName_16 : decode cX12_newName 16 = .ok (.goto 17, 3) := by decide +kernel
theorem dX12_newName_19 : decode cX12_newName 19 = .ok (.aload_n 0, 1) := by decide +kernel
theorem dX12_newName_20 : decode cX12_newName 20 = .ok (.iload_n 1, 1) := by decide +kernel
theorem dX12_newName_21 : decode cX12_newName 21 = .ok (.iload_n 2, 1) := by decide +kernel
theorem dX12_newName_22 : decode cX12_newName 22 = .ok (.invokevirtual 258, 3) := by decide +kernel
theorem dX12_newName_25 : decode cX12_newName 25 = .ok (.ifCond .lt 8, 3) := by decide +kernel
theorem dX12_newName_28 : decode cX12_newName 28 = .ok (.aload_n 0, 1) := by decide +kernel
theorem dX12_newName_29 : decode cX12_newName 29 = .ok (.iconst 3, 1) := by decide +kernel
theorem dX12_newName_30 : decode cX12_newName 30 = .ok (.invokevirtual 241, 3) := by decide +kernel
theorem dX12_newName_33 : decode cX12_newName 33 = .ok (.aload_n 0, 1) := by decide +kernel
theorem dX12_newName_34 : decode cX12_newName 34 = .ok (.getfield 188, 3) := by decide +kernel
theorem dX12_newName_37 : decode cX12_newName 37 = .ok (.ifCond .le 4, 3) := by decide +kernel
theorem dX12_newName_40 : decode cX12_newName 40 = .ok (.return_, 1) := by decide +kernel
theorem dX12_newName_41 : decode cX12_newName 41 = .ok (.aload_n 0, 1) := by decide +kernel
theorem dX12_newName_42 : decode cX12_newName 42 = .ok (.getfield 17, 3) := by decide +kernel
theorem dX12_newName_45 : decode cX12_newName 45 = .ok (.iload_n 1, 1) := by decide +kernel
theorem dX12_newName_46 : decode cX12_newName 46 = .ok (.iload_n 2, 1) := by decide +kernel
theorem dX12_newName_47 : decode cX12_newName 47 = .ok (.iadd, 1) := by decide +kernel
theorem dX12_newName_48 : decode cX12_newName 48 = .ok (.aload_n 0, 1) := by decide +kernel
theorem dX12_newName_49 : decode cX12_newName 49 = .ok (.getfield 168, 3) := by decide +kernel
theorem dX12_newName_52 : decode cX12_newName 52 = .ok (.lastore, 1) := by decide +kernel
theorem dX12_newName_53 : decode cX12_newName 53 = .ok (.aload_n 0, 1) := by decide +kernel
theorem dX12_newName_54 : decode cX12_newName 54 = .ok (.invokevirtual 244, 3) := by decide +kernel
theorem dX12_newName_57 : decode cX12_newName 57 = .ok (.return_, 1) := by decide +kernel
theorem dX12_add_0 : decode cX12_add 0 = .ok (.aload_n 0, 1) := by decide +kernel
theorem dX12_add_1 : decode cX12_add 1 = .ok (.getfield 21, 3) := by decide +kernel
theorem dX12_add_4 : decode cX12_add 4 = .ok (.aload_n 0, 1) := by decide +kernel
theorem dX12_add_5 : decode cX12_add 5 = .ok (.getfield 261, 3) := by decide +kernel
theorem dX12_add_8 : decode cX12_add 8 = .ok (.iload_n 1, 1) := by decide +kernel
theorem dX12_add_9 : decode cX12_add 9 = .ok (.iastore, 1) := by decide +kernel
theorem dX12_add_10 : decode cX12_add 10 = .ok (.aload_n 0, 1) := by decide +kernel
theorem dX12_add_11 : decode cX12_add 11 = .ok (.getfield 24, 3) := by decide +kernel
theorem dX12_add_14 : decode cX12_add 14 = .ok (.aload_n 0, 1) := by decide +kernel
theorem dX12_add_15 : decode cX12_add 15 = .ok (.getfield 261, 3) := by decide +kernel
theorem dX12_add_18 : decode cX12_add 18 = .ok (.iload_n 2, 1) := by decide +kernel
theorem dX12_add_19 : decode cX12_add 19 = .ok (.iastore, 1) := by decide +kernel
theorem dX12_add_20 : decode cX12_add 20 = .ok (.aload_n 0, 1) := by decide +kernel
theorem dX12_add_21 : decode cX12_add 21 = .ok (.dup, 1) := by decide +kernel
theorem dX12_add_22 : decode cX12_add 22 = .ok (.getfield 261, 3) := by decide +kernel
theorem dX12_add_25 : decode cX12_add 25 = .ok (.iconst 1, 1) := by decide +kernel
theorem dX12_add_26 : decode cX12_add 26 = .ok (.iadd, 1) := by decide +kernel
theorem dX12_add_27 : decode cX12_add 27 = .ok (.putfield 261, 3) := by decide +kernel
theorem dX12_add_30 : decode cX12_add 30 = .ok (.return_, 1) := by decide +kernel
theorem dX12_tight_0 : decode cX12_tight 0 = .ok (.iload_n 0, 1) := by decide +kernel
theorem dX12_tight_1 : decode cX12_tight 1 = .ok (.lookupswitch 85 #[(21, 79), (38, 77), (43, 83), (45, 83), (60, 81), (61, 81), (62, 81), (124, 75)], 75) := by decide +kernel
theorem dX12_tight_76 : decode cX12_tight 76 = .ok (.iconst 1, 1) := by decide +kernel
theorem dX12_tight_77 : decode cX12_tight 77 = .ok (.ireturn, 1) := by decide +kernel
theorem dX12_tight_78 : decode cX12_tight 78 = .ok (.iconst 2, 1) := by decide +kernel
theorem dX12_tight_79 : decode cX12_tight 79 = .ok (.ireturn, 1) := by decide +kernel
theorem dX12_tight_80 : decode cX12_tight 80 = .ok (.iconst 3, 1) := by decide +kernel
theorem dX12_tight_81 : decode cX12_tight 81 = .ok (.ireturn, 1) := by decide +kernel
theorem dX12_tight_82 : decode cX12_tight 82 = .ok (.iconst 4, 1) := by decide +kernel
theorem dX12_tight_83 : decode cX12_tight 83 = .ok (.ireturn, 1) := by decide +kernel
theorem dX12_tight_84 : decode cX12_tight 84 = .ok (.iconst 5, 1) := by decide +kernel
theorem dX12_tight_85 : decode cX12_tight 85 = .ok (.ireturn, 1) := by decide +kernel
theorem dX12_tight_86 : decode cX12_tight 86 = .ok (.bipush 6, 2) := by decide +kernel
theorem dX12_tight_88 : decode cX12_tight 88 = .ok (.ireturn, 1) := by decide +kernel
theorem dX12_close_0 : decode cX12_close 0 = .ok (.aload_n 0, 1) := by decide +kernel
theorem dX12_close_1 : decode cX12_close 1 = .ok (.getfield 264, 3) := by decide +kernel
theorem dX12_close_4 : decode cX12_close 4 = .ok (.ifCond .le 97, 3) := by decide +kernel
theorem dX12_close_7 : decode cX12_close 7 = .ok (.aload_n 0, 1) := by decide +kernel
theorem dX12_close_8 : decode cX12_close 8 = .ok (.getfield 33, 3) := by decide +kernel
theorem dX12_close_11 : decode cX12_close 11 = .ok (.aload_n 0, 1) := by decide +kernel
theorem dX12_close_12 : decode cX12_close 12 = .ok (.getfield 264, 3) := by decide +kernel
theorem dX12_close_15 : decode cX12_close 15 = .ok (.iconst 1, 1) := by decide +kernel
theorem dX12_close_16 : decode cX12_close 16 = .ok (.isub, 1) := by decide +kernel
theorem dX12_close_17 : decode cX12_close 17 = .ok (.iaload, 1) := by decide +kernel
theorem dX12_close_18 : decode cX12_close 18 = .ok (.bipush 20, 2) := by decide +kernel
theorem dX12_close_20 : decode cX12_close 20 = .ok (.if_icmp .eq 81, 3) := by decide +kernel
theorem dX12_close_23 : decode cX12_close 23 = .ok (.aload_n 0, 1) := by decide +kernel
theorem dX12_close_24 : decode cX12_close 24 = .ok (.getfield 33, 3) := by decide +kernel
theorem dX12_close_27 : decode cX12_close 27 = .ok (.aload_n 0, 1) := by decide +kernel
theorem dX12_close_28 : decode cX12_close 28 = .ok (.getfield 264, 3) := by decide +kernel
theorem dX12_close_31 : decode cX12_close 31 = .ok (.iconst 1, 1) := by decide +kernel
theorem dX12_close_32 : decode cX12_close 32 = .ok (.isub, 1) := by decide +kernel
theorem dX12_close_33 : decode cX12_close 33 = .ok (.iaload, 1) := by decide +kernel
theorem dX12_close_34 : decode cX12_close 34 = .ok (.invokestatic 267, 3) := by decide +kernel
theorem dX12_close_37 : decode cX12_close 37 = .ok (.iload_n 1, 1) := by decide +kernel
theorem dX12_close_38 : decode cX12_close 38 = .ok (.if_icmp .lt 63, 3) := by decide +kernel
theorem dX12_close_41 : decode cX12_close 41 = .ok (.aload_n 0, 1) := by decide +kernel
theorem dX12_close_42 : decode cX12_close 42 = .ok (.dup, 1) := by decide +kernel
theorem dX12_close_43 : decode cX12_close 43 = .ok (.getfield 264, 3) := by decide +kernel
theorem dX12_close_46 : decode cX12_close 46 = .ok (.iconst 1, 1) := by decide +kernel
theorem dX12_close_47 : decode cX12_close 47 = .ok (.isub, 1) := by decide +kernel
theorem dX12_close_48 : decode cX12_close 48 = .ok (.putfield 264, 3) := by decide +kernel
theorem dX12_close_51 : decode cX12_close 51 = .ok (.aload_n 0, 1) := by decide +kernel
theorem dX12_close_52 : decode cX12_close 52 = .ok (.getfield 33, 3) := by decide +kernel
theorem dX12_close_55 : decode cX12_close 55 = .ok (.aload_n 0, 1) := by decide +kernel
theorem dX12_close_56 : decode cX12_close 56 = .ok (.getfield 264, 3) := by decide +kernel
theorem dX12_close_59 : decode cX12_close 59 = .ok (.iaload, 1) := by decide +kernel
theorem dX12_close_60 : decode cX12_close 60 = .ok (.bipush 21, 2) := by decide +kernel
theorem dX12_close_62 : decode cX12_close 62 = .ok (.if_icmp .ne 22, 3) := by decide +kernel
theorem dX12_close_65 : decode cX12_close 65 = .ok (.aload_n 0, 1) := by decide +kernel
theorem dX12_close_66 : decode cX12_close 66 = .ok (.iconst 2, 1) := by decide +kernel
theorem dX12_close_67 : decode cX12_close 67 = .ok (.iconst 0, 1) := by decide +kernel
theorem dX12_close_68 : decode cX12_close 68 = .ok (.invokevirtual 270, 3) := by decide +kernel
theorem dX12_close_71 : decode cX12_close 71 = .ok (.aload_n 0, 1) := by decide +kernel
theorem dX12_close_72 : decode cX12_close 72 = .ok (.dup, 1) := by decide +kernel
theorem dX12_close_73 : decode cX12_close 73 = .ok (.getfield 273, 3) := by decide +kernel
theorem dX12_close_76 : decode cX12_close 76 = .ok (.iconst 1, 1) := by decide +kernel
theorem dX12_close_77 : decode cX12_close 77 = .ok (.isub, 1) := by decide +kernel
theorem dX12_close_78 : decode cX12_close 78 = .ok (.putfield 273, 3) := by decide +kernel
theorem dX12_close_81 : decode cX12_close 81 = .ok (.goto (-81), 3) := by decide +kernel
theorem dX12_close_84 : decode cX12_close 84 = .ok (.aload_n 0, 1) := by decide +kernel
theorem dX12_close_85 : decode cX12_close 85 = .ok (.iconst 3, 1) := by decide +kernel
theorem dX12_close_86 : decode cX12_close 86 = .ok (.aload_n 0, 1) := by decide +kernel
theorem dX12_close_87 : decode cX12_close 87 = .ok (.getfield 33, 3) := by decide +kernel
theorem dX12_close_90 : decode cX12_close 90 = .ok (.aload_n 0, 1) := by decide +kernel
theorem dX12_close_91 : decode cX12_close 91 = .ok (.getfield 264, 3) := by decide +kernel
theorem dX12_close_94 : decode cX12_close 94 = .ok (.iaload, 1) := by decide +kernel
theorem dX12_close_95 : decode cX12_close 95 = .ok (.invokevirtual 270, 3) := by decide +kernel
theorem dX12_close_98 : decode cX12_close 98 = .ok (.goto (-98), 3) := by decide +kernel
theorem dX12_close_101 : decode cX12_close 101 = .ok (.return_, 1) := by decide +kernel
theorem dX12_hasRelation_0 : decode cX12_hasRelation 0 = .ok (.aload_n 0, 1) := by decide +kernel
theorem dX12_hasRelation_1 : decode cX12_hasRelation 1 = .ok (.getfield 264, 3) := by decide +kernel
theorem dX12_hasRelation_4 : decode cX12_hasRelation 4 = .ok (.iconst 1, 1) := by decide +kernel
theorem dX12_hasRelation_5 : decode cX12_hasRelation 5 = .ok (.isub, 1) := by decide +kernel
theorem dX12_hasRelation_6 : decode cX12_hasRelation 6 = .ok (.istore_n 1, 1) := by decide +kernel
theorem dX12_hasRelation_7 : decode cX12_hasRelation 7 = .ok (.iload_n 1, 1) := by decide +kernel
theorem dX12_hasRelation_8 : decode cX12_hasRelation 8 = .ok (.ifCond .lt 33, 3) := by decide +kernel
theorem dX12_hasRelation_11 : decode cX12_hasRelation 11 = .ok (.aload_n 0, 1) := by decide +kernel
theorem dX12_hasRelation_12 : decode cX12_hasRelation 12 = .ok (.getfield 33, 3) := by decide +kernel
theorem dX12_hasRelation_15 : decode cX12_hasRelation 15 = .ok (.iload_n 1, 1) := by decide +kernel
theorem dX12_hasRelation_16 : decode cX12_hasRelation 16 = .ok (.iaload, 1) := by decide +kernel
theorem dX12_hasRelation_17 : decode cX12_hasRelation 17 = .ok (.bipush 20, 2) := by decide +kernel
theorem dX12_hasRelation_19 : decode cX12_hasRelation 19 = .ok (.if_icmp .eq 22, 3) := by decide +kernel
theorem dX12_hasRelation_22 : decode cX12_hasRelation 22 = .ok (.aload_n 0, 1) := by decide +kernel
theorem dX12_hasRelation_23 : decode cX12_hasRelation 23 = .ok (.getfield 33, 3) := by decide +kernel
theorem dX12_hasRelation_26 : decode cX12_hasRelation 26 = .ok (.iload_n 1, 1) := by decide +kernel
theorem dX12_hasRelation_27 : decode cX12_hasRelation 27 = .ok (.iaload, 1) := by decide +kernel
theorem dX12_hasRelation_28 : decode cX12_hasRelation 28 = .ok (.invokestatic 267, 3) := by decide +kernel
theorem dX12_hasRelation_31 : decode cX12_hasRelation 31 = .ok (.iconst 4, 1) := by decide +kernel
theorem dX12_hasRelation_32 : decode cX12_hasRelation 32 = .ok (.if_icmp .le 9, 3) := by decide +kernel
theorem dX12_hasRelation_35 : decode cX12_hasRelation 35 = .ok (.iinc 1 (-1), 3) := by decide +kernel
theorem dX12_hasRelation_38 : decode cX12_hasRelation 38 = .ok (.goto (-31), 3) := by decide +kernel
theorem dX12_hasRelation_41 : decode cX12_hasRelation 41 = .ok (.iload_n 1, 1) := by decide +kernel
theorem dX12_hasRelation_42 : decode cX12_hasRelation 42 = .ok (.ifCond .lt 31, 3) := by decide +kernel
theorem dX12_hasRelation_45 : decode cX12_hasRelation 45 = .ok (.aload_n 0, 1) := by decide +kernel
theorem dX12_hasRelation_46 : decode cX12_hasRelation 46 = .ok (.getfield 33, 3) := by decide +kernel
theorem dX12_hasRelation_49 : decode cX12_hasRelation 49 = .ok (.iload_n 1, 1) := by decide +kernel
theorem dX12_hasRelation_50 : decode cX12_hasRelation 50 = .ok (.iaload, 1) := by decide +kernel
theorem dX12_hasRelation_51 : decode cX12_hasRelation 51 = .ok (.bipush 20, 2) := by decide +kernel
theorem dX12_hasRelation_53 : decode cX12_hasRelation 53 = .ok (.if_icmp .eq 20, 3) := by decide +kernel
theorem dX12_hasRelation_56 : decode cX12_hasRelation 56 = .ok (.aload_n 0, 1) := by decide +kernel
theorem dX12_hasRelation_57 : decode cX12_hasRelation 57 = .ok (.getfield 33, 3) := by decide +kernel
