theorem dX12_nextToken_291 : decode cX12_nextToken 291 = .ok (.aload_n 0, 1) := by decide +kernel
theorem dX12_nextToken_292 : decode cX12_nextToken 292 = .ok (.getfield 115, 3) := by decide +kernel
theorem dX12_nextToken_295 : decode cX12_nextToken 295 = .ok (.iaload, 1) := by decide +kernel
theorem dX12_nextToken_296 : decode cX12_nextToken 296 = .ok (.iadd, 1) := by decide +kernel
theorem dX12_nextToken_297 : decode cX12_nextToken 297 = .ok (.bipush 48, 2) := by decide +kernel
theorem dX12_nextToken_299 : decode cX12_nextToken 299 = .ok (.isub, 1) := by decide +kernel
theorem dX12_nextToken_300 : decode cX12_nextToken 300 = .ok (.goto 7, 3) := by decide +kernel
theorem dX12_nextToken_303 : decode cX12_nextToken 303 = .ok (.aload_n 0, 1) := by decide +kernel
theorem dX12_nextToken_304 : decode cX12_nextToken 304 = .ok (.getfield 124, 3) := by decide +kernel
theorem dX12_nextToken_307 : decode cX12_nextToken 307 = .ok (.putfield 124, 3) := by decide +kernel
theorem dX12_nextToken_310 : decode cX12_nextToken 310 = .ok (.aload_n 0, 1) := by decide +kernel
theorem dX12_nextToken_311 : decode cX12_nextToken 311 = .ok (.dup, 1) := by decide +kernel
theorem dX12_nextToken_312 : decode cX12_nextToken 312 = .ok (.getfield 121, 3) := by decide +kernel
theorem dX12_nextToken_315 : decode cX12_nextToken 315 = .ok (.iconst 1, 1) := by decide +kernel
theorem dX12_nextToken_316 : decode cX12_nextToken 316 = .ok (.iadd, 1) := by decide +kernel
theorem dX12_nextToken_317 : decode cX12_nextToken 317 = .ok (.putfield 121, 3) := by decide +kernel
theorem dX12_nextToken_320 : decode cX12_nextToken 320 = .ok (.aload_n 0, 1) := by decide +kernel
theorem dX12_nextToken_321 : decode cX12_nextToken 321 = .ok (.dup, 1) := by decide +kernel
theorem dX12_nextToken_322 : decode cX12_nextToken 322 = .ok (.getfield 115, 3) := by decide +kernel
theorem dX12_nextToken_325 : decode cX12_nextToken 325 = .ok (.iconst 1, 1) := by decide +kernel
theorem dX12_nextToken_326 : decode cX12_nextToken 326 = .ok (.iadd, 1) := by decide +kernel
theorem dX12_nextToken_327 : decode cX12_nextToken 327 = .ok (.putfield 115, 3) := by decide +kernel
theorem dX12_nextToken_330 : decode cX12_nextToken 330 = .ok (.goto (-89), 3) := by decide +kernel
theorem dX12_nextToken_333 : decode cX12_nextToken 333 = .ok (.aload_n 0, 1) := by decide +kernel
theorem dX12_nextToken_334 : decode cX12_nextToken 334 = .ok (.aload_n 0, 1) := by decide +kernel
theorem dX12_nextToken_335 : decode cX12_nextToken 335 = .ok (.getfield 121, 3) := by decide +kernel
theorem dX12_nextToken_338 : decode cX12_nextToken 338 = .ok (.iconst 2, 1) := by decide +kernel
theorem dX12_nextToken_339 : decode cX12_nextToken 339 = .ok (.if_icmp .le 9, 3) := by decide +kernel
theorem dX12_nextToken_342 : decode cX12_nextToken 342 = .ok (.ldc2_w 137, 3) := by decide +kernel
theorem dX12_nextToken_345 : decode cX12_nextToken 345 = .ok (.goto 6, 3) := by decide +kernel
theorem dX12_nextToken_348 : decode cX12_nextToken 348 = .ok (.ldc2_w 139, 3) := by decide +kernel
theorem dX12_nextToken_351 : decode cX12_nextToken 351 = .ok (.putfield 129, 3) := by decide +kernel
theorem dX12_nextToken_354 : decode cX12_nextToken 354 = .ok (.goto 40, 3) := by decide +kernel
theorem dX12_nextToken_357 : decode cX12_nextToken 357 = .ok (.aload_n 0, 1) := by decide +kernel
theorem dX12_nextToken_358 : decode cX12_nextToken 358 = .ok (.aload_n 0, 1) := by decide +kernel
theorem dX12_nextToken_359 : decode cX12_nextToken 359 = .ok (.getfield 38, 3) := by decide +kernel
theorem dX12_nextToken_362 : decode cX12_nextToken 362 = .ok (.aload_n 0, 1) := by decide +kernel
theorem dX12_nextToken_363 : decode cX12_nextToken 363 = .ok (.getfield 115, 3) := by decide +kernel
theorem dX12_nextToken_366 : decode cX12_nextToken 366 = .ok (.iaload, 1) := by decide +kernel
theorem dX12_nextToken_367 : decode cX12_nextToken 367 = .ok (.bipush 59, 2) := by decide +kernel
theorem dX12_nextToken_369 : decode cX12_nextToken 369 = .ok (.if_icmp .ne 9, 3) := by decide +kernel
theorem dX12_nextToken_372 : decode cX12_nextToken 372 = .ok (.ldc2_w 141, 3) := by decide +kernel
theorem dX12_nextToken_375 : decode cX12_nextToken 375 = .ok (.goto 6, 3) := by decide +kernel
theorem dX12_nextToken_378 : decode cX12_nextToken 378 = .ok (.ldc2_w 137, 3) := by decide +kernel
theorem dX12_nextToken_381 : decode cX12_nextToken 381 = .ok (.putfield 129, 3) := by decide +kernel
theorem dX12_nextToken_384 : decode cX12_nextToken 384 = .ok (.aload_n 0, 1) := by decide +kernel
theorem dX12_nextToken_385 : decode cX12_nextToken 385 = .ok (.dup, 1) := by decide +kernel
theorem dX12_nextToken_386 : decode cX12_nextToken 386 = .ok (.getfield 115, 3) := by decide +kernel
theorem dX12_nextToken_389 : decode cX12_nextToken 389 = .ok (.iconst 1, 1) := by decide +kernel
theorem dX12_nextToken_390 : decode cX12_nextToken 390 = .ok (.iadd, 1) := by decide +kernel
theorem dX12_nextToken_391 : decode cX12_nextToken 391 = .ok (.putfield 115, 3) := by decide +kernel
theorem dX12_nextToken_394 : decode cX12_nextToken 394 = .ok (.return_, 1) := by decide +kernel
theorem dX12_fails_0 : decode cX12_fails 0 = .ok (.aload_n 0, 1) := by decide +kernel
theorem dX12_fails_1 : decode cX12_fails 1 = .ok (.aload_n 0, 1) := by decide +kernel
theorem dX12_fails_2 : decode cX12_fails 2 = .ok (.getfield 118, 3) := by decide +kernel
theorem dX12_fails_5 : decode cX12_fails 5 = .ok (.putfield 143, 3) := by decide +kernel
theorem dX12_fails_8 : decode cX12_fails 8 = .ok (.iconst 0, 1) := by decide +kernel
theorem dX12_fails_9 : decode cX12_fails 9 = .ok (.ireturn, 1) := by decide +kernel
set_option maxRecDepth 20000 in
theorem ggX12_isNumber_X12_nextToken : GoodIn wsX12_isNumber wsX12_nextToken := goodIn_r _ [9, 10, 11, 12, 13, 14, 3, 15, 1, 16, 17, 18, 2, 19, 20, 21, 8, 22, 28, 29, 30, 31, 32, 33, 34, 35, 36, 37, 38, 39, 40, 41, 42, 43, 44, 45, 46, 47, 48, 49, 50, 51, 52, 53, 54, 55, 56, 57, 58, 59, 60, 61, 62, 63, 64, 65, 66, 67, 68, 69, 70, 71] (by decide +kernel) (by decide +kernel)
set_option maxRecDepth 20000 in
theorem gX12_isNumber_X12_nextToken : GoodIn wsX12_isNumber (wsV RX12 146 RX12 yX12_nextToken wsX12_nextToken) := goodIn_app (goodIn_of _ (by decide +kernel)) ggX12_isNumber_X12_nextToken
set_option maxRecDepth 20000 in
theorem ggX12_isNumber_X12_in : GoodIn wsX12_isNumber wsX12_in := goodIn_r _ [22] (by decide +kernel) (by decide +kernel)
set_option maxRecDepth 20000 in
theorem gX12_isNumber_X12_in : GoodIn wsX12_isNumber (va_wsS RX12 93 yX12_in wsX12_in) := goodIn_app (goodIn_of _ (by decide +kernel)) ggX12_isNumber_X12_in
set_option maxRecDepth 20000 in
theorem ggX12_isNumber_X12_fails : GoodIn wsX12_isNumber wsX12_fails := goodIn_r _ [26, 13, 27, 28, 29, 30, 31, 32, 33, 34, 35, 36, 37, 38, 39, 40, 41, 42, 43, 44, 45, 46, 47, 48, 49, 50, 51, 52, 53, 54, 55, 56, 57, 58, 59, 60, 61, 62, 63, 64, 65, 66, 67, 68, 69, 70, 71] (by decide +kernel) (by decide +kernel)
set_option maxRecDepth 20000 in
theorem gX12_isNumber_X12_fails : GoodIn wsX12_isNumber (wsV RX12 149 RX12 yX12_fails wsX12_fails) := goodIn_app (goodIn_of _ (by decide +kernel)) ggX12_isNumber_X12_fails
theorem dX12_isNumber_0 : decode cX12_isNumber 0 = .ok (.aload_n 0, 1) := by decide +kernel
theorem dX12_isNumber_1 : decode cX12_isNumber 1 = .ok (.invokevirtual 146, 3) := by decide +kernel
theorem dX12_isNumber_4 : decode cX12_isNumber 4 = .ok (.aload_n 0, 1) := by decide +kernel
theorem dX12_isNumber_5 : decode cX12_isNumber 5 = .ok (.getfield 129, 3) := by decide +kernel
theorem dX12_isNumber_8 : decode cX12_isNumber 8 = .ok (.ldc2_w 139, 3) := by decide +kernel
theorem dX12_isNumber_11 : decode cX12_isNumber 11 = .ok (.lcmp, 1) := by decide +kernel
theorem dX12_isNumber_12 : decode cX12_isNumber 12 = .ok (.ifCond .ne 15, 3) := by decide +kernel
theorem dX12_isNumber_15 : decode cX12_isNumber 15 = .ok (.aload_n 0, 1) := by decide +kernel
theorem dX12_isNumber_16 : decode cX12_isNumber 16 = .ok (.getfield 124, 3) := by decide +kernel
theorem dX12_isNumber_19 : decode cX12_isNumber 19 = .ok (.iload_n 2, 1) := by decide +kernel
theorem dX12_isNumber_20 : decode cX12_isNumber 20 = .ok (.iload_n 3, 1) := by decide +kernel
theorem dX12_isNumber_21 : decode cX12_isNumber 21 = .ok (.invokestatic 93, 3) := by decide +kernel
theorem dX12_isNumber_24 : decode cX12_isNumber 24 = .ok (.ifCond .ne 8, 3) := by decide +kernel
theorem dX12_isNumber_27 : decode cX12_isNumber 27 = .ok (.aload_n 0, 1) := by decide +kernel
theorem dX12_isNumber_28 : decode cX12_isNumber 28 = .ok (.invokevirtual 149, 3) := by decide +kernel
theorem dX12_isNumber_31 : decode cX12_isNumber 31 = .ok (.ireturn, 1) := by decide +kernel
theorem dX12_isNumber_32 : decode cX12_isNumber 32 = .ok (.aload_n 0, 1) := by decide +kernel
theorem dX12_isNumber_33 : decode cX12_isNumber 33 = .ok (.getfield 41, 3) := by decide +kernel
theorem dX12_isNumber_36 : decode cX12_isNumber 36 = .ok (.iload_n 1, 1) := by decide +kernel
theorem dX12_isNumber_37 : decode cX12_isNumber 37 = .ok (.aload_n 0, 1) := by decide +kernel
theorem dX12_isNumber_38 : decode cX12_isNumber 38 = .ok (.getfield 124, 3) := by decide +kernel
theorem dX12_isNumber_41 : decode cX12_isNumber 41 = .ok (.iastore, 1) := by decide +kernel
theorem dX12_isNumber_42 : decode cX12_isNumber 42 = .ok (.iconst 1, 1) := by decide +kernel
theorem dX12_isNumber_43 : decode cX12_isNumber 43 = .ok (.ireturn, 1) := by decide +kernel
set_option maxRecDepth 20000 in
theorem ggX12_arePlaces_X12_isNumber : GoodIn wsX12_arePlaces wsX12_isNumber := goodIn_r _ [7, 8, 9, 10, 2, 11, 12, 13, 6, 14, 15, 16, 17, 18, 19, 20, 21, 22, 23, 24, 25, 26, 27, 28, 29, 30, 31, 32, 33, 34, 35, 36, 37, 38, 39, 40, 41, 42, 43, 44, 45, 46, 47, 48, 49, 50, 51, 52, 53, 54, 55, 56, 57, 58, 59, 60, 61, 62, 63, 64, 65, 66, 67, 68, 69, 70, 71, 72, 73, 74, 75, 76] (by decide +kernel) (by decide +kernel)
set_option maxRecDepth 20000 in
theorem gX12_arePlaces_X12_isNumber : GoodIn wsX12_arePlaces (wsV RX12 156 RX12 yX12_isNumber wsX12_isNumber) := goodIn_app (goodIn_of _ (by decide +kernel)) ggX12_arePlaces_X12_isNumber
set_option maxRecDepth 20000 in
theorem ggX12_arePlaces_X12_fails : GoodIn wsX12_arePlaces wsX12_fails := goodIn_r _ [31, 18, 32, 33, 34, 35, 36, 37, 38, 39, 40, 41, 42, 43, 44, 45, 46, 47, 48, 49, 50, 51, 52, 53, 54, 55, 56, 57, 58, 59, 60, 61, 62, 63, 64, 65, 66, 67, 68, 69, 70, 71, 72, 73, 74, 75, 76] (by decide +kernel) (by decide +kernel)
set_option maxRecDepth 20000 in
theorem gX12_arePlaces_X12_fails : GoodIn wsX12_arePlaces (wsV RX12 149 RX12 yX12_fails wsX12_fails) := goodIn_app (goodIn_of _ (by decide +kernel)) ggX12_arePlaces_X12_fails
theorem dX12_arePlaces_0 : decode cX12_arePlaces 0 = .ok (.aload_n 0, 1) := by decide +kernel
theorem dX12_arePlaces_1 : decode cX12_arePlaces 1 = .ok (.iload_n 1, 1) := by decide +kernel
theorem dX12_arePlaces_2 : decode cX12_arePlaces 2 = .ok (.iconst 1, 1) := by decide +kernel
theorem dX12_arePlaces_3 : decode cX12_arePlaces 3 = .ok (.iadd, 1) := by decide +kernel
theorem dX12_arePlaces_4 : decode cX12_arePlaces 4 = .ok (.iconst 0, 1) := by decide +kernel
theorem dX12_arePlaces_5 : decode cX12_arePlaces 5 = .ok (.aload_n 0, 1) := by decide +kernel
theorem dX12_arePlaces_6 : decode cX12_arePlaces 6 = .ok (.getfield 153, 3) := by decide +kernel
theorem dX12_arePlaces_9 : decode cX12_arePlaces 9 = .ok (.iconst 1, 1) := by decide +kernel
theorem dX12_arePlaces_10 : decode cX12_arePlaces 10 = .ok (.isub, 1) := by decide +kernel
theorem dX12_arePlaces_11 : decode cX12_arePlaces 11 = .ok (.invokevirtual 156, 3) := by decide +kernel
theorem dX12_arePlaces_14 : decode cX12_arePlaces 14 = .ok (.ifCond .eq 20, 3) := by decide +kernel
theorem dX12_arePlaces_17 : decode cX12_arePlaces 17 = .ok (.aload_n 0, 1) := by decide +kernel
theorem dX12_arePlaces_18 : decode cX12_arePlaces 18 = .ok (.iload_n 1, 1) := by decide +kernel
theorem dX12_arePlaces_19 : decode cX12_arePlaces 19 = .ok (.iconst 2, 1) := by decide +kernel
theorem dX12_arePlaces_20 : decode cX12_arePlaces 20 = .ok (.iadd, 1) := by decide +kernel
theorem dX12_arePlaces_21 : decode cX12_arePlaces 21 = .ok (.iconst 0, 1) := by decide +kernel
theorem dX12_arePlaces_22 : decode cX12_arePlaces 22 = .ok (.aload_n 0, 1) := by decide +kernel
theorem dX12_arePlaces_23 : decode cX12_arePlaces 23 = .ok (.getfield 153, 3) := by decide +kernel
theorem dX12_arePlaces_26 : decode cX12_arePlaces 26 = .ok (.iconst 1, 1) := by decide +kernel
theorem dX12_arePlaces_27 : decode cX12_arePlaces 27 = .ok (.isub, 1) := by decide +kernel
theorem dX12_arePlaces_28 : decode cX12_arePlaces 28 = .ok (.invokevirtual 156, 3) := by decide +kernel
theorem dX12_arePlaces_31 : decode cX12_arePlaces 31 = .ok (.ifCond .ne 5, 3) := by decide +kernel
theorem dX12_arePlaces_34 : decode cX12_arePlaces 34 = .ok (.iconst 0, 1) := by decide +kernel
theorem dX12_arePlaces_35 : decode cX12_arePlaces 35 = .ok (.ireturn, 1) := by decide +kernel
theorem dX12_arePlaces_36 : decode cX12_arePlaces 36 = .ok (.aload_n 0, 1) := by decide +kernel
theorem dX12_arePlaces_37 : decode cX12_arePlaces 37 = .ok (.getfield 41, 3) := by decide +kernel
theorem dX12_arePlaces_40 : decode cX12_arePlaces 40 = .ok (.iload_n 1, 1) := by decide +kernel
theorem dX12_arePlaces_41 : decode cX12_arePlaces 41 = .ok (.iconst 1, 1) := by decide +kernel
theorem dX12_arePlaces_42 : decode cX12_arePlaces 42 = .ok (.iadd, 1) := by decide +kernel
theorem dX12_arePlaces_43 : decode cX12_arePlaces 43 = .ok (.iaload, 1) := by decide +kernel
theorem dX12_arePlaces_44 : decode cX12_arePlaces 44 = .ok (.aload_n 0, 1) := by decide +kernel
theorem dX12_arePlaces_45 : decode cX12_arePlaces 45 = .ok (.getfield 41, 3) := by decide +kernel
theorem dX12_arePlaces_48 : decode cX12_arePlaces 48 = .ok (.iload_n 1, 1) := by decide +kernel
theorem dX12_arePlaces_49 : decode cX12_arePlaces 49 = .ok (.iconst 2, 1) := by decide +kernel
theorem dX12_arePlaces_50 : decode cX12_arePlaces 50 = .ok (.iadd, 1) := by decide +kernel
theorem dX12_arePlaces_51 : decode cX12_arePlaces 51 = .ok (.iaload, 1) := by decide +kernel
theorem dX12_arePlaces_52 : decode cX12_arePlaces 52 = .ok (.if_icmp .ne 10, 3) := by decide +kernel
theorem dX12_arePlaces_55 : decode cX12_arePlaces 55 = .ok (.aload_n 0, 1) := by decide +kernel
theorem dX12_arePlaces_56 : decode cX12_arePlaces 56 = .ok (.invokevirtual 149, 3) := by decide +kernel
theorem dX12_arePlaces_59 : decode cX12_arePlaces 59 = .ok (.ifCond .eq 7, 3) := by decide +kernel
theorem dX12_arePlaces_62 : decode cX12_arePlaces 62 = .ok (.iconst 1, 1) := by decide +kernel
theorem dX12_arePlaces_63 : decode cX12_arePlaces 63 = .ok (.goto 4, 3) := by decide +kernel
theorem dX12_arePlaces_66 : decode cX12_arePlaces 66 = .ok (.iconst 0, 1) := by decide +kernel
theorem dX12_arePlaces_67 : decode cX12_arePlaces 67 = .ok (.ireturn, 1) := by decide +kernel
set_option maxRecDepth 20000 in
theorem ggX12_isTown_X12_isNumber : GoodIn wsX12_isTown wsX12_isNumber := goodIn_r _ [9, 10, 11, 12, 1, 13, 14, 15, 8, 16, 17, 18, 19, 20, 21, 22, 23, 24, 25, 26, 27, 28, 29, 30, 31, 32, 33, 34, 35, 36, 37, 38, 39, 40, 41, 42, 43, 44, 45, 46, 47, 48, 49, 50, 51, 52, 53, 54, 55, 56, 57, 58, 59, 60, 61, 62, 63, 64, 65, 66, 67, 68, 69, 70, 71, 72, 73, 74, 75, 76, 77, 78] (by decide +kernel) (by decide +kernel)
set_option maxRecDepth 20000 in
theorem gX12_isTown_X12_isNumber : GoodIn wsX12_isTown (wsV RX12 156 RX12 yX12_isNumber wsX12_isNumber) := goodIn_app (goodIn_of _ (by decide +kernel)) ggX12_isTown_X12_isNumber
theorem dX12_isTown_0 : decode cX12_isTown 0 = .ok (.aload_n 0, 1) := by decide +kernel
theorem dX12_isTown_1 : decode cX12_isTown 1 = .ok (.iload_n 1, 1) := by decide +kernel
theorem dX12_isTown_2 : decode cX12_isTown 2 = .ok (.iconst 1, 1) := by decide +kernel
theorem dX12_isTown_3 : decode cX12_isTown 3 = .ok (.iadd, 1) := by decide +kernel
theorem dX12_isTown_4 : decode cX12_isTown 4 = .ok (.iconst 2, 1) := by decide +kernel
theorem dX12_isTown_5 : decode cX12_isTown 5 = .ok (.bipush 8, 2) := by decide +kernel
theorem dX12_isTown_7 : decode cX12_isTown 7 = .ok (.invokevirtual 156, 3) := by decide +kernel
theorem dX12_isTown_10 : decode cX12_isTown 10 = .ok (.ifCond .ne 5, 3) := by decide +kernel
theorem dX12_isTown_13 : decode cX12_isTown 13 = .ok (.iconst 0, 1) := by decide +kernel
theorem dX12_isTown_14 : decode cX12_isTown 14 = .ok (.ireturn, 1) := by decide +kernel
theorem dX12_isTown_15 : decode cX12_isTown 15 = .ok (.aload_n 0, 1) := by decide +kernel
theorem dX12_isTown_16 : decode cX12_isTown 16 = .ok (.aload_n 0, 1) := by decide +kernel
theorem dX12_isTown_17 : decode cX12_isTown 17 = .ok (.getfield 41, 3) := by decide +kernel
theorem dX12_isTown_20 : decode cX12_isTown 20 = .ok (.iload_n 1, 1) := by decide +kernel
theorem dX12_isTown_21 : decode cX12_isTown 21 = .ok (.iconst 1, 1) := by decide +kernel
theorem dX12_isTown_22 : decode cX12_isTown 22 = .ok (.iadd, 1) := by decide +kernel
theorem dX12_isTown_23 : decode cX12_isTown 23 = .ok (.iaload, 1) := by decide +kernel
theorem dX12_isTown_24 : decode cX12_isTown 24 = .ok (.putfield 153, 3) := by decide +kernel
theorem dX12_isTown_27 : decode cX12_isTown 27 = .ok (.aload_n 0, 1) := by decide +kernel
theorem dX12_isTown_28 : decode cX12_isTown 28 = .ok (.iconst 0, 1) := by decide +kernel
theorem dX12_isTown_29 : decode cX12_isTown 29 = .ok (.putfield 159, 3) := by decide +kernel
theorem dX12_isTown_32 : decode cX12_isTown 32 = .ok (.aload_n 0, 1) := by decide +kernel
theorem dX12_isTown_33 : decode cX12_isTown 33 = .ok (.iconst 0, 1) := by decide +kernel
theorem dX12_isTown_34 : decode cX12_isTown 34 = .ok (.putfield 162, 3) := by decide +kernel
theorem dX12_isTown_37 : decode cX12_isTown 37 = .ok (.iconst 1, 1) := by decide +kernel
theorem dX12_isTown_38 : decode cX12_isTown 38 = .ok (.ireturn, 1) := by decide +kernel
set_option maxRecDepth 20000 in
theorem ggX12_isStreetLine_X12_fails : GoodIn wsX12_isStreetLine wsX12_fails := goodIn_r _ [6, 7, 8, 38, 39, 40, 41, 42, 43, 44, 45, 46, 47, 48, 49, 50, 51, 52, 53, 54, 55, 56, 57, 58, 59, 60, 61, 62, 63, 64, 65, 66, 67, 68, 69, 70, 71, 72, 73, 74, 75, 76, 77, 78, 79, 80, 81] (by decide +kernel) (by decide +kernel)
set_option maxRecDepth 20000 in
theorem gX12_isStreetLine_X12_fails : GoodIn wsX12_isStreetLine (wsV RX12 149 RX12 yX12_fails wsX12_fails) := goodIn_app (goodIn_of _ (by decide +kernel)) ggX12_isStreetLine_X12_fails
set_option maxRecDepth 20000 in
theorem ggX12_isStreetLine_X12_arePlaces : GoodIn wsX12_isStreetLine wsX12_arePlaces := goodIn_r _ [12, 13, 14, 15, 16, 17, 5, 18, 19, 20, 21, 22, 23, 24, 25, 26, 27, 28, 7, 29, 30, 31, 32, 33, 34, 35, 36, 37, 2, 3, 4, 6, 8, 38, 39, 40, 41, 42, 43, 44, 45, 46, 47, 48, 49, 50, 51, 52, 53, 54, 55, 56, 57, 58, 59, 60, 61, 62, 63, 64, 65, 66, 67, 68, 69, 70, 71, 72, 73, 74, 75, 76, 77, 78, 79, 80, 81] (by decide +kernel) (by decide +kernel)
set_option maxRecDepth 20000 in
theorem gX12_isStreetLine_X12_arePlaces : GoodIn wsX12_isStreetLine (wsV RX12 165 RX12 yX12_arePlaces wsX12_arePlaces) := goodIn_app (goodIn_of _ (by decide +kernel)) ggX12_isStreetLine_X12_arePlaces
set_option maxRecDepth 20000 in
theorem ggX12_isStreetLine_X12_isNumber : GoodIn wsX12_isStreetLine wsX12_isNumber := goodIn_r _ [18, 19, 20, 21, 14, 22, 23, 24, 5, 25, 26, 27, 28, 7, 29, 30, 31, 32, 33, 34, 35, 36, 37, 2, 3, 4, 6, 8, 38, 39, 40, 41, 42, 43, 44, 45, 46, 47, 48, 49, 50, 51, 52, 53, 54, 55, 56, 57, 58, 59, 60, 61, 62, 63, 64, 65, 66, 67, 68, 69, 70, 71, 72, 73, 74, 75, 76, 77, 78, 79, 80, 81] (by decide +kernel) (by decide +kernel)
set_option maxRecDepth 20000 in
theorem gX12_isStreetLine_X12_isNumber : GoodIn wsX12_isStreetLine (wsV RX12 156 RX12 yX12_isNumber wsX12_isNumber) := goodIn_app (goodIn_of _ (by decide +kernel)) ggX12_isStreetLine_X12_isNumber
theorem dX12_isStreetLine_0 : decode cX12_isStreetLine 0 = .ok (.aload_n 0, 1) := by decide +kernel
theorem dX12_isStreetLine_1 : decode cX12_isStreetLine 1 = .ok (.getfield 159, 3) := by decide +kernel
theorem dX12_isStreetLine_4 : decode cX12_isStreetLine 4 = .ok (.bipush 12, 2) := by decide +kernel
theorem dX12_isStreetLine_6 : decode cX12_isStreetLine 6 = .ok (.if_icmp .ne 8, 3) := by decide +kernel
theorem dX12_isStreetLine_9 : decode cX12_isStreetLine 9 = .ok (.aload_n 0, 1) := by decide +kernel
theorem dX12_isStreetLine_10 : decode cX12_isStreetLine 10 = .ok (.invokevirtual 149, 3) := by decide +kernel
theorem dX12_isStreetLine_13 : decode cX12_isStreetLine 13 = .ok (.ireturn, 1) := by decide +kernel
theorem dX12_isStreetLine_14 : decode cX12_isStreetLine 14 = .ok (.aload_n 0, 1) := by decide +kernel
theorem dX12_isStreetLine_15 : decode cX12_isStreetLine 15 = .ok (.dup, 1) := by decide +kernel
theorem dX12_isStreetLine_16 : decode cX12_isStreetLine 16 = .ok (.getfield 159, 3) := by decide +kernel
theorem dX12_isStreetLine_19 : decode cX12_isStreetLine 19 = .ok (.iconst 1, 1) := by decide +kernel
theorem dX12_isStreetLine_20 : decode cX12_isStreetLine 20 = .ok (.iadd, 1) := by decide +kernel
theorem dX12_isStreetLine_21 : decode cX12_isStreetLine 21 = .ok (.putfield 159, 3) := by decide +kernel
theorem dX12_isStreetLine_24 : decode cX12_isStreetLine 24 = .ok (.aload_n 0, 1) := by decide +kernel
theorem dX12_isStreetLine_25 : decode cX12_isStreetLine 25 = .ok (.iload_n 1, 1) := by decide +kernel
theorem dX12_isStreetLine_26 : decode cX12_isStreetLine 26 = .ok (.invokevirtual 165, 3) := by decide +kernel
theorem dX12_isStreetLine_29 : decode cX12_isStreetLine 29 = .ok (.ifCond .eq 20, 3) := by decide +kernel
theorem dX12_isStreetLine_32 : decode cX12_isStreetLine 32 = .ok (.aload_n 0, 1) := by decide +kernel
theorem dX12_isStreetLine_33 : decode cX12_isStreetLine 33 = .ok (.iload_n 1, 1) := by decide +kernel
theorem dX12_isStreetLine_34 : decode cX12_isStreetLine 34 = .ok (.iconst 3, 1) := by decide +kernel
theorem dX12_isStreetLine_35 : decode cX12_isStreetLine 35 = .ok (.iadd, 1) := by decide +kernel
theorem dX12_isStreetLine_36 : decode cX12_isStreetLine 36 = .ok (.iconst 1, 1) := by decide +kernel
theorem dX12_isStreetLine_37 : decode cX12_isStreetLine 37 = .ok (.bipush 99, 2) := by decide +kernel
theorem dX12_isStreetLine_39 : decode cX12_isStreetLine 39 = .ok (.invokevirtual 156, 3) := by decide +kernel
theorem dX12_isStreetLine_42 : decode cX12_isStreetLine 42 = .ok (.ifCond .eq 7, 3) := by decide +kernel
theorem dX12_isStreetLine_45 : decode cX12_isStreetLine 45 = .ok (.iconst 1, 1) := by decide +kernel
theorem dX12_isStreetLine_46 : decode cX12_isStreetLine 46 = .ok (.goto 4, 3) := by decide +kernel
theorem dX12_isStreetLine_49 : decode cX12_isStreetLine 49 = .ok (.iconst 0, 1) := by decide +kernel
theorem dX12_isStreetLine_50 : decode cX12_isStreetLine 50 = .ok (.ireturn, 1) := by decide +kernel
set_option maxRecDepth 20000 in
theorem ggX12_isLane_X12_fails : GoodIn wsX12_isLane wsX12_fails := goodIn_r _ [6, 7, 8, 38, 39, 40, 41, 42, 43, 44, 45, 46, 47, 48, 49, 50, 51, 52, 53, 54, 55, 56, 57, 58, 59, 60, 61, 62, 63, 64, 65, 66, 67, 68, 69, 70, 71, 72, 73, 74, 75, 76, 77, 78, 79, 80, 81] (by decide +kernel) (by decide +kernel)
set_option maxRecDepth 20000 in
theorem gX12_isLane_X12_fails : GoodIn wsX12_isLane (wsV RX12 149 RX12 yX12_fails wsX12_fails) := goodIn_app (goodIn_of _ (by decide +kernel)) ggX12_isLane_X12_fails
set_option maxRecDepth 20000 in
theorem ggX12_isLane_X12_arePlaces : GoodIn wsX12_isLane wsX12_arePlaces := goodIn_r _ [12, 13, 14, 15, 16, 17, 5, 18, 19, 20, 21, 22, 23, 24, 25, 26, 27, 28, 7, 29, 30, 31, 32, 33, 34, 35, 36, 37, 2, 3, 4, 6, 8, 38, 39, 40, 41, 42, 43, 44, 45, 46, 47, 48, 49, 50, 51, 52, 53, 54, 55, 56, 57, 58, 59, 60, 61, 62, 63, 64, 65, 66, 67, 68, 69, 70, 71, 72, 73, 74, 75, 76, 77, 78, 79, 80, 81] (by decide +kernel) (by decide +kernel)
set_option maxRecDepth 20000 in
theorem gX12_isLane_X12_arePlaces : GoodIn wsX12_isLane (wsV RX12 165 RX12 yX12_arePlaces wsX12_arePlaces) := goodIn_app (goodIn_of _ (by decide +kernel)) ggX12_isLane_X12_arePlaces
set_option maxRecDepth 20000 in
theorem ggX12_isLane_X12_isNumber : GoodIn wsX12_isLane wsX12_isNumber := goodIn_r _ [18, 19, 20, 21, 14, 22, 23, 24, 5, 25, 26, 27, 28, 7, 29, 30, 31, 32, 33, 34, 35, 36, 37, 2, 3, 4, 6, 8, 38, 39, 40, 41, 42, 43, 44, 45, 46, 47, 48, 49, 50, 51, 52, 53, 54, 55, 56, 57, 58, 59, 60, 61, 62, 63, 64, 65, 66, 67, 68, 69, 70, 71, 72, 73, 74, 75, 76, 77, 78, 79, 80, 81] (by decide +kernel) (by decide +kernel)
set_option maxRecDepth 20000 in
theorem gX12_isLane_X12_isNumber : GoodIn wsX12_isLane (wsV RX12 156 RX12 yX12_isNumber wsX12_isNumber) := goodIn_app (goodIn_of _ (by decide +kernel)) ggX12_isLane_X12_isNumber
theorem dX12_isLane_0 : decode cX12_isLane 0 = .ok (.aload_n 0, 1) := by decide +kernel
theorem dX12_isLane_1 : decode cX12_isLane 1 = .ok (.getfield 162, 3) := by decide +kernel
theorem dX12_isLane_4 : decode cX12_isLane 4 = .ok (.iconst 4, 1) := by decide +kernel
theorem dX12_isLane_5 : decode cX12_isLane 5 = .ok (.if_icmp .ne 8, 3) := by decide +kernel
theorem dX12_isLane_8 : decode cX12_isLane 8 = .ok (.aload_n 0, 1) := by decide +kernel
theorem dX12_isLane_9 : decode cX12_isLane 9 = .ok (.invokevirtual 149, 3) := by decide +kernel
theorem dX12_isLane_12 : decode cX12_isLane 12 = .ok (.ireturn, 1) := by decide +kernel
theorem dX12_isLane_13 : decode cX12_isLane 13 = .ok (.aload_n 0, 1) := by decide +kernel
theorem dX12_isLane_14 : decode cX12_isLane 14 = .ok (.dup, 1) := by decide +kernel
theorem dX12_isLane_15 : decode cX12_isLane 15 = .ok (.getfield 162, 3) := by decide +kernel
theorem dX12_isLane_18 : decode cX12_isLane 18 = .ok (.iconst 1, 1) := by decide +kernel
theorem dX12_isLane_19 : decode cX12_isLane 19 = .ok (.iadd, 1) := by decide +kernel
theorem dX12_isLane_20 : decode cX12_isLane 20 = .ok (.putfield 162, 3) := by decide +kernel
theorem dX12_isLane_23 : decode cX12_isLane 23 = .ok (.aload_n 0, 1) := by decide +kernel
theorem dX12_isLane_24 : decode cX12_isLane 24 = .ok (.iload_n 1, 1) := by decide +kernel
theorem dX12_isLane_25 : decode cX12_isLane 25 = .ok (.invokevirtual 165, 3) := by decide +kernel
theorem dX12_isLane_28 : decode cX12_isLane 28 = .ok (.ifCond .eq 33, 3) := by decide +kernel
theorem dX12_isLane_31 : decode cX12_isLane 31 = .ok (.aload_n 0, 1) := by decide +kernel
theorem dX12_isLane_32 : decode cX12_isLane 32 = .ok (.iload_n 1, 1) := by decide +kernel
theorem dX12_isLane_33 : decode cX12_isLane 33 = .ok (.iconst 3, 1) := by decide +kernel
theorem dX12_isLane_34 : decode cX12_isLane 34 = .ok (.iadd, 1) := by decide +kernel
theorem dX12_isLane_35 : decode cX12_isLane 35 = .ok (.iconst 1, 1) := by decide +kernel
theorem dX12_isLane_36 : decode cX12_isLane 36 = .ok (.bipush 99, 2) := by decide +kernel
theorem dX12_isLane_38 : decode cX12_isLane 38 = .ok (.invokevirtual 156, 3) := by decide +kernel
theorem dX12_isLane_41 : decode cX12_isLane 41 = .ok (.ifCond .eq 20, 3) := by decide +kernel
theorem dX12_isLane_44 : decode cX12_isLane 44 = .ok (.aload_n 0, 1) := by decide +kernel
theorem dX12_isLane_45 : decode cX12_isLane 45 = .ok (.iload_n 1, 1) := by decide +kernel
theorem dX12_isLane_46 : decode cX12_isLane 46 = .ok (.iconst 4, 1) := by decide +kernel
theorem dX12_isLane_47 : decode cX12_isLane 47 = .ok (.iadd, 1) := by decide +kernel
theorem dX12_isLane_48 : decode cX12_isLane 48 = .ok (.iconst 0, 1) := by decide +kernel
theorem dX12_isLane_49 : decode cX12_isLane 49 = .ok (.bipush 99, 2) := by decide +kernel
theorem dX12_isLane_51 : decode cX12_isLane 51 = .ok (.invokevirtual 156, 3) := by decide +kernel
theorem dX12_isLane_54 : decode cX12_isLane 54 = .ok (.ifCond .eq 7, 3) := by decide +kernel
theorem dX12_isLane_57 : decode cX12_isLane 57 = .ok (.iconst 1, 1) := by decide +kernel
theorem dX12_isLane_58 : decode cX12_isLane 58 = .ok (.goto 4, 3) := by decide +kernel
theorem dX12_isLane_61 : decode cX12_isLane 61 = .ok (.iconst 0, 1) := by decide +kernel
theorem dX12_isLane_62 : decode cX12_isLane 62 = .ok (.ireturn, 1) := by decide +kernel
set_option maxRecDepth 20000 in
theorem ggX12_isLine_X12_nextToken : GoodIn wsX12_isLine wsX12_nextToken := goodIn_r _ [19, 20, 21, 22, 23, 24, 25, 26, 1, 27, 28, 29, 30, 31, 32, 33, 18, 34, 62, 63, 64, 65, 66, 67, 68, 69, 70, 71, 72, 73, 74, 75, 76, 77, 78, 79, 80, 81, 82, 83, 84, 85, 86, 87, 88, 89, 90, 91, 92, 93, 94, 95, 96, 97, 98, 99, 100, 101, 102, 103, 104, 105] (by decide +kernel) (by decide +kernel)
set_option maxRecDepth 20000 in
theorem gX12_isLine_X12_nextToken : GoodIn wsX12_isLine (wsV RX12 146 RX12 yX12_nextToken wsX12_nextToken) := goodIn_app (goodIn_of _ (by decide +kernel)) ggX12_isLine_X12_nextToken
set_option maxRecDepth 20000 in
theorem ggX12_isLine_X12_isTown : GoodIn wsX12_isLine wsX12_isTown := goodIn_r _ [38, 13, 39, 14, 40, 41, 42, 43, 18, 44, 1, 30, 25, 15, 16, 17, 19, 20, 21, 22, 23, 24, 26, 27, 28, 29, 31, 32, 33, 34, 45, 46, 47, 48, 49, 62, 63, 64, 65, 66, 67, 68, 69, 70, 71, 72, 73, 74, 75, 76, 77, 78, 79, 80, 81, 82, 83, 84, 85, 86, 87, 88, 89, 90, 91, 92, 93, 94, 95, 96, 97, 98, 99, 100, 101, 102, 103, 104, 105] (by decide +kernel) (by decide +kernel)
set_option maxRecDepth 20000 in
theorem gX12_isLine_X12_isTown : GoodIn wsX12_isLine (wsV RX12 191 RX12 yX12_isTown wsX12_isTown) := goodIn_app (goodIn_of _ (by decide +kernel)) ggX12_isLine_X12_isTown
set_option maxRecDepth 20000 in
theorem ggX12_isLine_X12_isStreetLine : GoodIn wsX12_isLine wsX12_isStreetLine := goodIn_r _ [53, 14, 45, 46, 47, 18, 48, 23, 49, 54, 55, 56, 57, 39, 13, 41, 42, 43, 44, 1, 30, 25, 15, 16, 17, 19, 20, 21, 22, 24, 26, 27, 28, 29, 31, 32, 33, 34, 62, 63, 64, 65, 66, 67, 68, 69, 70, 71, 72, 73, 74, 75, 76, 77, 78, 79, 80, 81, 82, 83, 84, 85, 86, 87, 88, 89, 90, 91, 92, 93, 94, 95, 96, 97, 98, 99, 100, 101, 102, 103, 104, 105] (by decide +kernel) (by decide +kernel)
set_option maxRecDepth 20000 in
theorem gX12_isLine_X12_isStreetLine : GoodIn wsX12_isLine (wsV RX12 194 RX12 yX12_isStreetLine wsX12_isStreetLine) := goodIn_app (goodIn_of _ (by decide +kernel)) ggX12_isLine_X12_isStreetLine
set_option maxRecDepth 20000 in
theorem ggX12_isLine_X12_isNumber : GoodIn wsX12_isLine wsX12_isNumber := goodIn_r _ [44, 1, 30, 25, 13, 15, 16, 17, 18, 19, 20, 21, 22, 23, 24, 26, 27, 28, 29, 31, 32, 33, 34, 45, 46, 47, 48, 49, 62, 63, 64, 65, 66, 67, 68, 69, 70, 71, 72, 73, 74, 75, 76, 77, 78, 79, 80, 81, 82, 83, 84, 85, 86, 87, 88, 89, 90, 91, 92, 93, 94, 95, 96, 97, 98, 99, 100, 101, 102, 103, 104, 105] (by decide +kernel) (by decide +kernel)
set_option maxRecDepth 20000 in
theorem gX12_isLine_X12_isNumber : GoodIn wsX12_isLine (wsV RX12 156 RX12 yX12_isNumber wsX12_isNumber) := goodIn_app (goodIn_of _ (by decide +kernel)) ggX12_isLine_X12_isNumber
set_option maxRecDepth 20000 in
theorem ggX12_isLine_X12_arePlaces : GoodIn wsX12_isLine wsX12_arePlaces := goodIn_r _ [57, 39, 13, 41, 42, 43, 18, 44, 1, 30, 25, 15, 16, 17, 19, 20, 21, 22, 23, 24, 26, 27, 28, 29, 31, 32, 33, 34, 45, 46, 47, 48, 49, 62, 63, 64, 65, 66, 67, 68, 69, 70, 71, 72, 73, 74, 75, 76, 77, 78, 79, 80, 81, 82, 83, 84, 85, 86, 87, 88, 89, 90, 91, 92, 93, 94, 95, 96, 97, 98, 99, 100, 101, 102, 103, 104, 105] (by decide +kernel) (by decide +kernel)
set_option maxRecDepth 20000 in
theorem gX12_isLine_X12_arePlaces : GoodIn wsX12_isLine (wsV RX12 165 RX12 yX12_arePlaces wsX12_arePlaces) := goodIn_app (goodIn_of _ (by decide +kernel)) ggX12_isLine_X12_arePlaces
set_option maxRecDepth 20000 in
theorem ggX12_isLine_X12_isLane : GoodIn wsX12_isLine wsX12_isLane := goodIn_r _ [61, 40, 45, 46, 47, 18, 48, 23, 49, 54, 55, 56, 57, 39, 13, 41, 42, 43, 44, 1, 30, 25, 15, 16, 17, 19, 20, 21, 22, 24, 26, 27, 28, 29, 31, 32, 33, 34, 62, 63, 64, 65, 66, 67, 68, 69, 70, 71, 72, 73, 74, 75, 76, 77, 78, 79, 80, 81, 82, 83, 84, 85, 86, 87, 88, 89, 90, 91, 92, 93, 94, 95, 96, 97, 98, 99, 100, 101, 102, 103, 104, 105] (by decide +kernel) (by decide +kernel)
set_option maxRecDepth 20000 in
theorem gX12_isLine_X12_isLane : GoodIn wsX12_isLine (wsV RX12 197 RX12 yX12_isLane wsX12_isLane) := goodIn_app (goodIn_of _ (by decide +kernel)) ggX12_isLine_X12_isLane
set_option maxRecDepth 20000 in
theorem ggX12_isLine_X12_fails : GoodIn wsX12_isLine wsX12_fails := goodIn_r _ [48, 23, 49, 62, 63, 64, 65, 66, 67, 68, 69, 70, 71, 72, 73, 74, 75, 76, 77, 78, 79, 80, 81, 82, 83, 84, 85, 86, 87, 88, 89, 90, 91, 92, 93, 94, 95, 96, 97, 98, 99, 100, 101, 102, 103, 104, 105] (by decide +kernel) (by decide +kernel)
set_option maxRecDepth 20000 in
theorem gX12_isLine_X12_fails : GoodIn wsX12_isLine (wsV RX12 149 RX12 yX12_fails wsX12_fails) := goodIn_app (goodIn_of _ (by decide +kernel)) ggX12_isLine_X12_fails
theorem dX12_isLine_0 : decode cX12_isLine 0 = .ok (.aload_n 0, 1) := by decide +kernel
theorem dX12_isLine_1 : decode cX12_isLine 1 = .ok (.invokevirtual 146, 3) := by decide +kernel
theorem dX12_isLine_4 : decode cX12_isLine 4 = .ok (.aload_n 0, 1) := by decide +kernel
theorem dX12_isLine_5 : decode cX12_isLine 5 = .ok (.getfield 129, 3) := by decide +kernel
theorem dX12_isLine_8 : decode cX12_isLine 8 = .ok (.ldc2_w 169, 3) := by decide +kernel
theorem dX12_isLine_11 : decode cX12_isLine 11 = .ok (.lcmp, 1) := by decide +kernel
theorem dX12_isLine_12 : decode cX12_isLine 12 = .ok (.ifCond .ne 7, 3) := by decide +kernel
theorem dX12_isLine_15 : decode cX12_isLine 15 = .ok (.iconst 0, 1) := by decide +kernel
theorem dX12_isLine_16 : decode cX12_isLine 16 = .ok (.goto 79, 3) := by decide +kernel
theorem dX12_isLine_19 : decode cX12_isLine 19 = .ok (.aload_n 0, 1) := by decide +kernel
theorem dX12_isLine_20 : decode cX12_isLine 20 = .ok (.getfield 129, 3) := by decide +kernel
theorem dX12_isLine_23 : decode cX12_isLine 23 = .ok (.ldc2_w 171, 3) := by decide +kernel
theorem dX12_isLine_26 : decode cX12_isLine 26 = .ok (.lcmp, 1) := by decide +kernel
theorem dX12_isLine_27 : decode cX12_isLine 27 = .ok (.ifCond .ne 7, 3) := by decide +kernel
theorem dX12_isLine_30 : decode cX12_isLine 30 = .ok (.iconst 1, 1) := by decide +kernel
theorem dX12_isLine_31 : decode cX12_isLine 31 = .ok (.goto 64, 3) := by decide +kernel
theorem dX12_isLine_34 : decode cX12_isLine 34 = .ok (.aload_n 0, 1) := by decide +kernel
theorem dX12_isLine_35 : decode cX12_isLine 35 = .ok (.getfield 129, 3) := by decide +kernel
theorem dX12_isLine_38 : decode cX12_isLine 38 = .ok (.ldc2_w 173, 3) := by decide +kernel
theorem dX12_isLine_41 : decode cX12_isLine 41 = .ok (.lcmp, 1) := by decide +kernel
theorem dX12_isLine_42 : decode cX12_isLine 42 = .ok (.ifCond .ne 7, 3) := by decide +kernel
theorem dX12_isLine_45 : decode cX12_isLine 45 = .ok (.iconst 2, 1) := by decide +kernel
theorem dX12_isLine_46 : decode cX12_isLine 46 = .ok (.goto 49, 3) := by decide +kernel
theorem dX12_isLine_49 : decode cX12_isLine 49 = .ok (.aload_n 0, 1) := by decide +kernel
theorem dX12_isLine_50 : decode cX12_isLine 50 = .ok (.getfield 129, 3) := by decide +kernel
theorem dX12_isLine_53 : decode cX12_isLine 53 = .ok (.ldc2_w 175, 3) := by decide +kernel
theorem dX12_isLine_56 : decode cX12_isLine 56 = .ok (.lcmp, 1) := by decide +kernel
theorem dX12_isLine_57 : decode cX12_isLine 57 = .ok (.ifCond .ne 7, 3) := by decide +kernel
theorem dX12_isLine_60 : decode cX12_isLine 60 = .ok (.iconst 3, 1) := by decide +kernel
theorem dX12_isLine_61 : decode cX12_isLine 61 = .ok (.goto 34, 3) := by decide +kernel
theorem dX12_isLine_64 : decode cX12_isLine 64 = .ok (.aload_n 0, 1) := by decide +kernel
theorem dX12_isLine_65 : decode cX12_isLine 65 = .ok (.getfield 129, 3) := by decide +kernel
theorem dX12_isLine_68 : decode cX12_isLine 68 = .ok (.ldc2_w 177, 3) := by decide +kernel
theorem dX12_isLine_71 : decode cX12_isLine 71 = .ok (.lcmp, 1) := by decide +kernel
theorem dX12_isLine_72 : decode cX12_isLine 72 = .ok (.ifCond .ne 7, 3) := by decide +kernel
theorem dX12_isLine_75 : decode cX12_isLine 75 = .ok (.iconst 4, 1) := by decide +kernel
theorem dX12_isLine_76 : decode cX12_isLine 76 = .ok (.goto 19, 3) := by decide +kernel
theorem dX12_isLine_79 : decode cX12_isLine 79 = .ok (.aload_n 0, 1) := by decide +kernel
theorem dX12_isLine_80 : decode cX12_isLine 80 = .ok (.getfield 129, 3) := by decide +kernel
theorem dX12_isLine_83 : decode cX12_isLine 83 = .ok (.ldc2_w 179, 3) := by decide +kernel
theorem dX12_isLine_86 : decode cX12_isLine 86 = .ok (.lcmp, 1) := by decide +kernel
theorem dX12_isLine_87 : decode cX12_isLine 87 = .ok (.ifCond .ne 7, 3) := by decide +kernel
theorem dX12_isLine_90 : decode cX12_isLine 90 = .ok (.iconst 5, 1) := by decide +kernel
theorem dX12_isLine_91 : decode cX12_isLine 91 = .ok (.goto 4, 3) := by decide +kernel
theorem dX12_isLine_94 : decode cX12_isLine 94 = .ok (.iconst (-1), 1) := by decide +kernel
theorem dX12_isLine_95 : decode cX12_isLine 95 = .ok (.istore_n 2, 1) := by decide +kernel
theorem dX12_isLine_96 : decode cX12_isLine 96 = .ok (.aload_n 0, 1) := by decide +kernel
theorem dX12_isLine_97 : decode cX12_isLine 97 = .ok (.getfield 129, 3) := by decide +kernel
theorem dX12_isLine_100 : decode cX12_isLine 100 = .ok (.ldc2_w 181, 3) := by decide +kernel
theorem dX12_isLine_103 : decode cX12_isLine 103 = .ok (.lcmp, 1) := by decide +kernel
theorem dX12_isLine_104 : decode cX12_isLine 104 = .ok (.ifCond .ne 8, 3) := by decide +kernel
theorem dX12_isLine_107 : decode cX12_isLine 107 = .ok (.bipush 6, 2) := by decide +kernel
theorem dX12_isLine_109 : decode cX12_isLine 109 = .ok (.goto 68, 3) := by decide +kernel
theorem dX12_isLine_112 : decode cX12_isLine 112 = .ok (.aload_n 0, 1) := by decide +kernel
theorem dX12_isLine_113 : decode cX12_isLine 113 = .ok (.getfield 129, 3) := by decide +kernel
theorem dX12_isLine_116 : decode cX12_isLine 116 = .ok (.ldc2_w 183, 3) := by decide +kernel
theorem dX12_isLine_119 : decode cX12_isLine 119 = .ok (.lcmp, 1) := by decide +kernel
theorem dX12_isLine_120 : decode cX12_isLine 120 = .ok (.ifCond .ne 8, 3) := by decide +kernel
theorem dX12_isLine_123 : decode cX12_isLine 123 = .ok (.bipush 7, 2) := by decide +kernel
theorem dX12_isLine_125 : decode cX12_isLine 125 = .ok (.goto 52, 3) := by decide +kernel
theorem dX12_isLine_128 : decode cX12_isLine 128 = .ok (.aload_n 0, 1) := by decide +kernel
theorem dX12_isLine_129 : decode cX12_isLine 129 = .ok (.getfield 129, 3) := by decide +kernel
theorem dX12_isLine_132 : decode cX12_isLine 132 = .ok (.ldc2_w 185, 3) := by decide +kernel
theorem dX12_isLine_135 : decode cX12_isLine 135 = .ok (.lcmp, 1) := by decide +kernel
theorem dX12_isLine_136 : decode cX12_isLine 136 = .ok (.ifCond .ne 8, 3) := by decide +kernel
theorem dX12_isLine_139 : decode cX12_isLine 139 = .ok (.bipush 8, 2) := by decide +kernel
theorem dX12_isLine_141 : decode cX12_isLine 141 = .ok (.goto 36, 3) := by decide +kernel
theorem dX12_isLine_144 : decode cX12_isLine 144 = .ok (.aload_n 0, 1) := by decide +kernel
theorem dX12_isLine_145 : decode cX12_isLine 145 = .ok (.getfield 129, 3) := by decide +kernel
theorem dX12_isLine_148 : decode cX12_isLine 148 = .ok (.ldc2_w 187, 3) := by decide +kernel
theorem dX12_isLine_151 : decode cX12_isLine 151 = .ok (.lcmp, 1) := by decide +kernel
theorem dX12_isLine_152 : decode cX12_isLine 152 = .ok (.ifCond .ne 8, 3) := by decide +kernel
theorem dX12_isLine_155 : decode cX12_isLine 155 = .ok (.bipush 9, 2) := by decide +kernel
theorem dX12_isLine_157 : decode cX12_isLine 157 = .ok (.goto 20, 3) := by decide +kernel
theorem dX12_isLine_160 : decode cX12_isLine 160 = .ok (.aload_n 0, 1) := by decide +kernel
theorem dX12_isLine_161 : decode cX12_isLine 161 = .ok (.getfield 129, 3) := by decide +kernel
theorem dX12_isLine_164 : decode cX12_isLine 164 = .ok (.ldc2_w 189, 3) := by decide +kernel
theorem dX12_isLine_167 : decode cX12_isLine 167 = .ok (.lcmp, 1) := by decide +kernel
theorem dX12_isLine_168 : decode cX12_isLine 168 = .ok (.ifCond .ne 8, 3) := by decide +kernel
theorem dX12_isLine_171 : decode cX12_isLine 171 = .ok (.bipush 10, 2) := by decide +kernel
theorem dX12_isLine_173 : decode cX12_isLine 173 = .ok (.goto 4, 3) := by decide +kernel
theorem dX12_isLine_176 : decode cX12_isLine 176 = .ok (.iconst (-1), 1) := by decide +kernel
theorem dX12_isLine_177 : decode cX12_isLine 177 = .ok (.istore_n 3, 1) := by decide +kernel
theorem dX12_isLine_178 : decode cX12_isLine 178 = .ok (.aload_n 0, 1) := by decide +kernel
theorem dX12_isLine_179 : decode cX12_isLine 179 = .ok (.getfield 41, 3) := by decide +kernel
theorem dX12_isLine_182 : decode cX12_isLine 182 = .ok (.iload_n 1, 1) := by decide +kernel
theorem dX12_isLine_183 : decode cX12_isLine 183 = .ok (.iload_n 2, 1) := by decide +kernel
theorem dX12_isLine_184 : decode cX12_isLine 184 = .ok (.iconst (-1), 1) := by decide +kernel
theorem dX12_isLine_185 : decode cX12_isLine 185 = .ok (.if_icmp .ne 7, 3) := by decide +kernel
theorem dX12_isLine_188 : decode cX12_isLine 188 = .ok (.iload_n 3, 1) := by decide +kernel
theorem dX12_isLine_189 : decode cX12_isLine 189 = .ok (.goto 4, 3) := by decide +kernel
theorem dX12_isLine_192 : decode cX12_isLine 192 = .ok (.iload_n 2, 1) := by decide +kernel
theorem dX12_isLine_193 : decode cX12_isLine 193 = .ok (.iastore, 1) := by decide +kernel
theorem dX12_isLine_194 : decode cX12_isLine 194 = .ok (.aload_n 0, 1) := by decide +kernel
theorem dX12_isLine_195 : decode cX12_isLine 195 = .ok (.getfield 41, 3) := by decide +kernel
theorem dX12_isLine_198 : decode cX12_isLine 198 = .ok (.iload_n 1, 1) := by decide +kernel
theorem dX12_isLine_199 : decode cX12_isLine 199 = .ok (.iaload, 1) := by decide +kernel
theorem dX12_isLine_200 : decode cX12_isLine 200 = .ok (.tableswitch 142 0 10 #[60, 66, 72, 108, 108, 114, 120, 131, 131, 131, 131], 60) := by decide +kernel
theorem dX12_isLine_260 : decode cX12_isLine 260 = .ok (.aload_n 0, 1) := by decide +kernel
theorem dX12_isLine_261 : decode cX12_isLine 261 = .ok (.iload_n 1, 1) := by decide +kernel
theorem dX12_isLine_262 : decode cX12_isLine 262 = .ok (.invokevirtual 191, 3) := by decide +kernel
theorem dX12_isLine_265 : decode cX12_isLine 265 = .ok (.ireturn, 1) := by decide +kernel
theorem dX12_isLine_266 : decode cX12_isLine 266 = .ok (.aload_n 0, 1) := by decide +kernel
theorem dX12_isLine_267 : decode cX12_isLine 267 = .ok (.iload_n 1, 1) := by decide +kernel
theorem dX12_isLine_268 : decode cX12_isLine 268 = .ok (.invokevirtual 194, 3) := by decide +kernel
theorem dX12_isLine_271 : decode cX12_isLine 271 = .ok (.ireturn, 1) := by decide +kernel
theorem dX12_isLine_272 : decode cX12_isLine 272 = .ok (.aload_n 0, 1) := by decide +kernel
theorem dX12_isLine_273 : decode cX12_isLine 273 = .ok (.iload_n 1, 1) := by decide +kernel
theorem dX12_isLine_274 : decode cX12_isLine 274 = .ok (.iconst 1, 1) := by decide +kernel
theorem dX12_isLine_275 : decode cX12_isLine 275 = .ok (.iadd, 1) := by decide +kernel
theorem dX12_isLine_276 : decode cX12_isLine 276 = .ok (.iconst 0, 1) := by decide +kernel
theorem dX12_isLine_277 : decode cX12_isLine 277 = .ok (.aload_n 0, 1) := by decide +kernel
theorem dX12_isLine_278 : decode cX12_isLine 278 = .ok (.getfield 159, 3) := by decide +kernel
theorem dX12_isLine_281 : decode cX12_isLine 281 = .ok (.iconst 1, 1) := by decide +kernel
theorem dX12_isLine_282 : decode cX12_isLine 282 = .ok (.isub, 1) := by decide +kernel
theorem dX12_isLine_283 : decode cX12_isLine 283 = .ok (.invokevirtual 156, 3) := by decide +kernel
theorem dX12_isLine_286 : decode cX12_isLine 286 = .ok (.ifCond .eq 20, 3) := by decide +kernel
theorem dX12_isLine_289 : decode cX12_isLine 289 = .ok (.aload_n 0, 1) := by decide +kernel
theorem dX12_isLine_290 : decode cX12_isLine 290 = .ok (.iload_n 1, 1) := by decide +kernel
theorem dX12_isLine_291 : decode cX12_isLine 291 = .ok (.iconst 2, 1) := by decide +kernel
theorem dX12_isLine_292 : decode cX12_isLine 292 = .ok (.iadd, 1) := by decide +kernel
theorem dX12_isLine_293 : decode cX12_isLine 293 = .ok (.iconst 0, 1) := by decide +kernel
theorem dX12_isLine_294 : decode cX12_isLine 294 = .ok (.bipush 99, 2) := by decide +kernel
theorem dX12_isLine_296 : decode cX12_isLine 296 = .ok (.invokevirtual 156, 3) := by decide +kernel
theorem dX12_isLine_299 : decode cX12_isLine 299 = .ok (.ifCond .eq 7, 3) := by decide +kernel
theorem dX12_isLine_302 : decode cX12_isLine 302 = .ok (.iconst 1, 1) := by decide +kernel
theorem dX12_isLine_303 : decode cX12_isLine 303 = .ok (.goto 4, 3) := by decide +kernel
theorem dX12_isLine_306 : decode cX12_isLine 306 = .ok (.iconst 0, 1) := by decide +kernel
theorem dX12_isLine_307 : decode cX12_isLine 307 = .ok (.ireturn, 1) := by decide +kernel
theorem dX12_isLine_308 : decode cX12_isLine 308 = .ok (.aload_n 0, 1) := by decide +kernel
theorem dX12_isLine_309 : decode cX12_isLine 309 = .ok (.iload_n 1, 1) := by decide +kernel
theorem dX12_isLine_310 : decode cX12_isLine 310 = .ok (.invokevirtual 165, 3) := by decide +kernel
theorem dX12_isLine_313 : decode cX12_isLine 313 = .ok (.ireturn, 1) := by decide +kernel
theorem dX12_isLine_314 : decode cX12_isLine 314 = .ok (.aload_n 0, 1) := by decide +kernel
theorem dX12_isLine_315 : decode cX12_isLine 315 = .ok (.iload_n 1, 1) := by decide +kernel
theorem dX12_isLine_316 : decode cX12_isLine 316 = .ok (.invokevirtual 197, 3) := by decide +kernel
theorem dX12_isLine_319 : decode cX12_isLine 319 = .ok (.ireturn, 1) := by decide +kernel
theorem dX12_isLine_320 : decode cX12_isLine 320 = .ok (.aload_n 0, 1) := by decide +kernel
theorem dX12_isLine_321 : decode cX12_isLine 321 = .ok (.iload_n 1, 1) := by decide +kernel
theorem dX12_isLine_322 : decode cX12_isLine 322 = .ok (.iconst 1, 1) := by decide +kernel
theorem dX12_isLine_323 : decode cX12_isLine 323 = .ok (.iadd, 1) := by decide +kernel
theorem dX12_isLine_324 : decode cX12_isLine 324 = .ok (.iconst 1, 1) := by decide +kernel
theorem dX12_isLine_325 : decode cX12_isLine 325 = .ok (.bipush 99, 2) := by decide +kernel
theorem dX12_isLine_327 : decode cX12_isLine 327 = .ok (.invokevirtual 156, 3) := by decide +kernel
theorem dX12_isLine_330 : decode cX12_isLine 330 = .ok (.ireturn, 1) := by decide +kernel
theorem dX12_isLine_331 : decode cX12_isLine 331 = .ok (.aload_n 0, 1) := by decide +kernel
theorem dX12_isLine_332 : decode cX12_isLine 332 = .ok (.iload_n 1, 1) := by decide +kernel
theorem dX12_isLine_333 : decode cX12_isLine 333 = .ok (.iconst 1, 1) := by decide +kernel
theorem dX12_isLine_334 : decode cX12_isLine 334 = .ok (.iadd, 1) := by decide +kernel
theorem dX12_isLine_335 : decode cX12_isLine 335 = .ok (.iconst 1, 1) := by decide +kernel
theorem dX12_isLine_336 : decode cX12_isLine 336 = .ok (.bipush 9, 2) := by decide +kernel
theorem dX12_isLine_338 : decode cX12_isLine 338 = .ok (.invokevirtual 156, 3) := by decide +kernel
theorem dX12_isLine_341 : decode cX12_isLine 341 = .ok (.ireturn, 1) := by decide +kernel
theorem dX12_isLine_342 : decode cX12_isLine 342 = .ok (.aload_n 0, 1) := by decide +kernel
theorem dX12_isLine_343 : decode cX12_isLine 343 = .ok (.invokevirtual 149, 3) := by decide +kernel
theorem dX12_isLine_346 : decode cX12_isLine 346 = .ok (.ireturn, 1) := by decide +kernel
set_option maxRecDepth 20000 in
theorem ggX12_isRead_X12_isLine : GoodIn wsX12_isRead wsX12_isLine := goodIn_r _ [16, 9, 17, 18, 19, 20, 21, 22, 23, 24, 25, 26, 27, 28, 6, 29, 30, 31, 15, 32, 1, 33, 34, 35, 36, 37, 11, 38, 39, 40, 41, 10, 42, 43, 44, 45, 46, 47, 48, 4, 8, 49, 50, 51, 52, 53, 54, 55, 56, 57, 58, 59, 60, 61, 62, 63, 64, 65, 66, 67, 68, 69, 70, 71, 72, 73, 74, 75, 76, 77, 78, 79, 80, 81, 82, 83, 84, 85, 86, 87, 88, 89, 90, 91, 92, 93, 94, 95, 96, 97, 98, 99, 100, 101, 102, 103, 104, 105, 106, 107, 108, 109, 110, 111, 112, 113] (by decide +kernel) (by decide +kernel)
set_option maxRecDepth 20000 in
theorem gX12_isRead_X12_isLine : GoodIn wsX12_isRead (wsV RX12 203 RX12 yX12_isLine wsX12_isLine) := goodIn_app (goodIn_of _ (by decide +kernel)) ggX12_isRead_X12_isLine
set_option maxRecDepth 20000 in
theorem ggX12_isRead_X12_nextToken : GoodIn wsX12_isRead wsX12_nextToken := goodIn_r _ [32, 1, 33, 34, 35, 36, 37, 11, 9, 38, 39, 40, 41, 10, 42, 43, 15, 44, 70, 71, 72, 73, 74, 75, 76, 77, 78, 79, 80, 81, 82, 83, 84, 85, 86, 87, 88, 89, 90, 91, 92, 93, 94, 95, 96, 97, 98, 99, 100, 101, 102, 103, 104, 105, 106, 107, 108, 109, 110, 111, 112, 113] (by decide +kernel) (by decide +kernel)
set_option maxRecDepth 20000 in
theorem gX12_isRead_X12_nextToken : GoodIn wsX12_isRead (wsV RX12 146 RX12 yX12_nextToken wsX12_nextToken) := goodIn_app (goodIn_of _ (by decide +kernel)) ggX12_isRead_X12_nextToken
set_option maxRecDepth 20000 in
theorem ggX12_isRead_X12_fails : GoodIn wsX12_isRead wsX12_fails := goodIn_r _ [56, 35, 57, 70, 71, 72, 73, 74, 75, 76, 77, 78, 79, 80, 81, 82, 83, 84, 85, 86, 87, 88, 89, 90, 91, 92, 93, 94, 95, 96, 97, 98, 99, 100, 101, 102, 103, 104, 105, 106, 107, 108, 109, 110, 111, 112, 113] (by decide +kernel) (by decide +kernel)
set_option maxRecDepth 20000 in
theorem gX12_isRead_X12_fails : GoodIn wsX12_isRead (wsV RX12 149 RX12 yX12_fails wsX12_fails) := goodIn_app (goodIn_of _ (by decide +kernel)) ggX12_isRead_X12_fails
theorem dX12_isRead_0 : decode cX12_isRead 0 = .ok (.aload_n 0, 1) := by decide +kernel
theorem dX12_isRead_1 : decode cX12_isRead 1 = .ok (.iconst 0, 1) := by decide +kernel
theorem dX12_isRead_2 : decode cX12_isRead 2 = .ok (.putfield 115, 3) := by decide +kernel
theorem dX12_isRead_5 : decode cX12_isRead 5 = .ok (.aload_n 0, 1) := by decide +kernel
theorem dX12_isRead_6 : decode cX12_isRead 6 = .ok (.iconst 0, 1) := by decide +kernel
theorem dX12_isRead_7 : decode cX12_isRead 7 = .ok (.putfield 200, 3) := by decide +kernel
theorem dX12_isRead_10 : decode cX12_isRead 10 = .ok (.aload_n 0, 1) := by decide +kernel
theorem dX12_isRead_11 : decode cX12_isRead 11 = .ok (.aload_n 0, 1) := by decide +kernel
theorem dX12_isRead_12 : decode cX12_isRead 12 = .ok (.getfield 7, 3) := by decide +kernel
theorem dX12_isRead_15 : decode cX12_isRead 15 = .ok (.putfield 153, 3) := by decide +kernel
theorem dX12_isRead_18 : decode cX12_isRead 18 = .ok (.aload_n 0, 1) := by decide +kernel
theorem dX12_isRead_19 : decode cX12_isRead 19 = .ok (.aload_n 0, 1) := by decide +kernel
theorem dX12_isRead_20 : decode cX12_isRead 20 = .ok (.getfield 90, 3) := by decide +kernel
theorem dX12_isRead_23 : decode cX12_isRead 23 = .ok (.putfield 159, 3) := by decide +kernel
theorem dX12_isRead_26 : decode cX12_isRead 26 = .ok (.aload_n 0, 1) := by decide +kernel
theorem dX12_isRead_27 : decode cX12_isRead 27 = .ok (.aload_n 0, 1) := by decide +kernel
theorem dX12_isRead_28 : decode cX12_isRead 28 = .ok (.getfield 107, 3) := by decide +kernel
theorem dX12_isRead_31 : decode cX12_isRead 31 = .ok (.putfield 162, 3) := by decide +kernel
theorem dX12_isRead_34 : decode cX12_isRead 34 = .ok (.iconst 1, 1) := by decide +kernel
theorem dX12_isRead_35 : decode cX12_isRead 35 = .ok (.istore_n 1, 1) := by decide +kernel
theorem dX12_isRead_36 : decode cX12_isRead 36 = .ok (.iload_n 1, 1) := by decide +kernel
theorem dX12_isRead_37 : decode cX12_isRead 37 = .ok (.ifCond .eq 61, 3) := by decide +kernel
theorem dX12_isRead_40 : decode cX12_isRead 40 = .ok (.aload_n 0, 1) := by decide +kernel
theorem dX12_isRead_41 : decode cX12_isRead 41 = .ok (.iconst 5, 1) := by decide +kernel
theorem dX12_isRead_42 : decode cX12_isRead 42 = .ok (.aload_n 0, 1) := by decide +kernel
theorem dX12_isRead_43 : decode cX12_isRead 43 = .ok (.getfield 200, 3) := by decide +kernel
theorem dX12_isRead_46 : decode cX12_isRead 46 = .ok (.imul, 1) := by decide +kernel
theorem dX12_isRead_47 : decode cX12_isRead 47 = .ok (.invokevirtual 203, 3) := by decide +kernel
theorem dX12_isRead_50 : decode cX12_isRead 50 = .ok (.ifCond .ne 5, 3) := by decide +kernel
theorem dX12_isRead_53 : decode cX12_isRead 53 = .ok (.iconst 0, 1) := by decide +kernel
theorem dX12_isRead_54 : decode cX12_isRead 54 = .ok (.ireturn, 1) := by decide +kernel
theorem dX12_isRead_55 : decode cX12_isRead 55 = .ok (.aload_n 0, 1) := by decide +kernel
theorem dX12_isRead_56 : decode cX12_isRead 56 = .ok (.dup, 1) := by decide +kernel
theorem dX12_isRead_57 : decode cX12_isRead 57 = .ok (.getfield 200, 3) := by decide +kernel
theorem dX12_isRead_60 : decode cX12_isRead 60 = .ok (.iconst 1, 1) := by decide +kernel
theorem dX12_isRead_61 : decode cX12_isRead 61 = .ok (.iadd, 1) := by decide +kernel
theorem dX12_isRead_62 : decode cX12_isRead 62 = .ok (.putfield 200, 3) := by decide +kernel
theorem dX12_isRead_65 : decode cX12_isRead 65 = .ok (.aload_n 0, 1) := by decide +kernel
theorem dX12_isRead_66 : decode cX12_isRead 66 = .ok (.invokevirtual 146, 3) := by decide +kernel
theorem dX12_isRead_69 : decode cX12_isRead 69 = .ok (.aload_n 0, 1) := by decide +kernel
theorem dX12_isRead_70 : decode cX12_isRead 70 = .ok (.getfield 129, 3) := by decide +kernel
theorem dX12_isRead_73 : decode cX12_isRead 73 = .ok (.ldc2_w 141, 3) := by decide +kernel
theorem dX12_isRead_76 : decode cX12_isRead 76 = .ok (.lcmp, 1) := by decide +kernel
theorem dX12_isRead_77 : decode cX12_isRead 77 = .ok (.ifCond .ne 16, 3) := by decide +kernel
theorem dX12_isRead_80 : decode cX12_isRead 80 = .ok (.aload_n 0, 1) := by decide +kernel
theorem dX12_isRead_81 : decode cX12_isRead 81 = .ok (.getfield 200, 3) := by decide +kernel
theorem dX12_isRead_84 : decode cX12_isRead 84 = .ok (.bipush 12, 2) := by decide +kernel
theorem dX12_isRead_86 : decode cX12_isRead 86 = .ok (.if_icmp .ge 7, 3) := by decide +kernel
theorem dX12_isRead_89 : decode cX12_isRead 89 = .ok (.iconst 1, 1) := by decide +kernel
theorem dX12_isRead_90 : decode cX12_isRead 90 = .ok (.goto 4, 3) := by decide +kernel
theorem dX12_isRead_93 : decode cX12_isRead 93 = .ok (.iconst 0, 1) := by decide +kernel
theorem dX12_isRead_94 : decode cX12_isRead 94 = .ok (.istore_n 1, 1) := by decide +kernel
theorem dX12_isRead_95 : decode cX12_isRead 95 = .ok (.goto (-59), 3) := by decide +kernel
theorem dX12_isRead_98 : decode cX12_isRead 98 = .ok (.aload_n 0, 1) := by decide +kernel
theorem dX12_isRead_99 : decode cX12_isRead 99 = .ok (.getfield 129, 3) := by decide +kernel
theorem dX12_isRead_102 : decode cX12_isRead 102 = .ok (.ldc2_w 127, 3) := by decide +kernel
theorem dX12_isRead_105 : decode cX12_isRead 105 = .ok (.lcmp, 1) := by decide +kernel
theorem dX12_isRead_106 : decode cX12_isRead 106 = .ok (.ifCond .eq 10, 3) := by decide +kernel
theorem dX12_isRead_109 : decode cX12_isRead 109 = .ok (.aload_n 0, 1) := by decide +kernel
theorem dX12_isRead_110 : decode cX12_isRead 110 = .ok (.invokevirtual 149, 3) := by decide +kernel
theorem dX12_isRead_113 : decode cX12_isRead 113 = .ok (.ifCond .eq 7, 3) := by decide +kernel
theorem dX12_isRead_116 : decode cX12_isRead 116 = .ok (.iconst 1, 1) := by decide +kernel
theorem dX12_isRead_117 : decode cX12_isRead 117 = .ok (.goto 4, 3) := by decide +kernel
theorem dX12_isRead_120 : decode cX12_isRead 120 = .ok (.iconst 0, 1) := by decide +kernel
theorem dX12_isRead_121 : decode cX12_isRead 121 = .ok (.ireturn, 1) := by decide +kernel
set_option maxRecDepth 20000 in
theorem ggX12_fault_X12_isRead : GoodIn wsX12_fault wsX12_isRead := goodIn_r _ [6, 7, 8, 9, 10, 11, 12, 13, 14, 15, 16, 17, 18, 19, 20, 5, 21, 22, 23, 24, 25, 26, 27, 28, 29, 30, 31, 32, 33, 34, 35, 36, 37, 38, 39, 40, 41, 42, 43, 44, 45, 46, 47, 48, 49, 50, 51, 52, 53, 54, 55, 56, 57, 58, 59, 60, 61, 1, 62, 63, 64, 65, 66, 67, 68, 69, 70, 71, 72, 73, 74, 75, 76, 77, 78, 79, 80, 81, 82, 83, 84, 85, 86, 87, 88, 89, 90, 91, 92, 93, 94, 95, 96, 97, 98, 99, 100, 101, 102, 103, 104, 105, 106, 107, 108, 109, 110, 111, 112, 113, 114, 115, 116, 117] (by decide +kernel) (by decide +kernel)
set_option maxRecDepth 20000 in
theorem gX12_fault_X12_isRead : GoodIn wsX12_fault (wsV RX12 206 RX12 yX12_isRead wsX12_isRead) := goodIn_app (goodIn_of _ (by decide +kernel)) ggX12_fault_X12_isRead
theorem dX12_fault_0 : decode cX12_fault 0 = .ok (.aload_n 0, 1) := by decide +kernel
theorem dX12_fault_1 : decode cX12_fault 1 = .ok (.invokevirtual 206, 3) := by decide +kernel
theorem dX12_fault_4 : decode cX12_fault 4 = .ok (.ifCond .eq 7, 3) := by decide +kernel
theorem dX12_fault_7 : decode cX12_fault 7 = .ok (.iconst (-1), 1) := by decide +kernel
theorem dX12_fault_8 : decode cX12_fault 8 = .ok (.goto 7, 3) := by decide +kernel
theorem dX12_fault_11 : decode cX12_fault 11 = .ok (.aload_n 0, 1) := by decide +kernel
theorem dX12_fault_12 : decode cX12_fault 12 = .ok (.getfield 143, 3) := by decide +kernel
theorem dX12_fault_15 : decode cX12_fault 15 = .ok (.ireturn, 1) := by decide +kernel
set_option maxRecDepth 20000 in
theorem ggX12_doLine_X12_plain : GoodIn wsX12_doLine wsX12_plain := goodIn_r _ [19, 4, 20, 8, 9, 13, 14, 11, 12, 21, 22, 23, 24, 25, 26, 27, 28, 29, 30, 31, 32, 33, 34, 35, 36, 37, 38, 39, 40, 41, 42, 43, 44, 45, 46, 47, 48, 49, 50, 51, 52, 53, 54, 55, 56, 57, 58, 59, 60, 61, 62, 63, 64] (by decide +kernel) (by decide +kernel)
set_option maxRecDepth 20000 in
theorem gX12_doLine_X12_plain : GoodIn wsX12_doLine (wsV RX12 87 RX12 yX12_plain wsX12_plain) := goodIn_app (goodIn_of _ (by decide +kernel)) ggX12_doLine_X12_plain
theorem dX12_doLine_0 : decode cX12_doLine 0 = .ok (.aload_n 0, 1) := by decide +kernel
theorem dX12_doLine_1 : decode cX12_doLine 1 = .ok (.getfield 41, 3) := by decide +kernel
theorem dX12_doLine_4 : decode cX12_doLine 4 = .ok (.iload_n 1, 1) := by decide +kernel
theorem dX12_doLine_5 : decode cX12_doLine 5 = .ok (.iconst 1, 1) := by decide +kernel
theorem dX12_doLine_6 : decode cX12_doLine 6 = .ok (.iadd, 1) := by decide +kernel
theorem dX12_doLine_7 : decode cX12_doLine 7 = .ok (.iaload, 1) := by decide +kernel
theorem dX12_doLine_8 : decode cX12_doLine 8 = .ok (.istore_n 2, 1) := by decide +kernel
theorem dX12_doLine_9 : decode cX12_doLine 9 = .ok (.aload_n 0, 1) := by decide +kernel
theorem dX12_doLine_10 : decode cX12_doLine 10 = .ok (.getfield 41, 3) := by decide +kernel
theorem dX12_doLine_13 : decode cX12_doLine 13 = .ok (.iload_n 1, 1) := by decide +kernel
theorem dX12_doLine_14 : decode cX12_doLine 14 = .ok (.iconst 2, 1) := by decide +kernel
theorem dX12_doLine_15 : decode cX12_doLine 15 = .ok (.iadd, 1) := by decide +kernel
theorem dX12_doLine_16 : decode cX12_doLine 16 = .ok (.iaload, 1) := by decide +kernel
theorem dX12_doLine_17 : decode cX12_doLine 17 = .ok (.istore_n 3, 1) := by decide +kernel
theorem dX12_doLine_18 : decode cX12_doLine 18 = .ok (.aload_n 0, 1) := by decide +kernel
theorem dX12_doLine_19 : decode cX12_doLine 19 = .ok (.getfield 41, 3) := by decide +kernel
theorem dX12_doLine_22 : decode cX12_doLine 22 = .ok (.iload_n 1, 1) := by decide +kernel
theorem dX12_doLine_23 : decode cX12_doLine 23 = .ok (.iaload, 1) := by decide +kernel
theorem dX12_doLine_24 : decode cX12_doLine 24 = .ok (.tableswitch 226 0 6 #[44, 56, 116, 126, 143, 165, 218], 44) := by decide +kernel
theorem dX12_doLine_68 : decode cX12_doLine 68 = .ok (.aload_n 0, 1) := by decide +kernel
theorem dX12_doLine_69 : decode cX12_doLine 69 = .ok (.invokevirtual 87, 3) := by decide +kernel
theorem dX12_doLine_72 : decode cX12_doLine 72 = .ok (.aload_n 0, 1) := by decide +kernel
theorem dX12_doLine_73 : decode cX12_doLine 73 = .ok (.iload_n 2, 1) := by decide +kernel
theorem dX12_doLine_74 : decode cX12_doLine 74 = .ok (.putfield 7, 3) := by decide +kernel
theorem dX12_doLine_77 : decode cX12_doLine 77 = .ok (.goto 191, 3) := by decide +kernel
theorem dX12_doLine_80 : decode cX12_doLine 80 = .ok (.aload_n 0, 1) := by decide +kernel
theorem dX12_doLine_81 : decode cX12_doLine 81 = .ok (.getfield 13, 3) := by decide +kernel
theorem dX12_doLine_84 : decode cX12_doLine 84 = .ok (.aload_n 0, 1) := by decide +kernel
theorem dX12_doLine_85 : decode cX12_doLine 85 = .ok (.getfield 90, 3) := by decide +kernel
theorem dX12_doLine_88 : decode cX12_doLine 88 = .ok (.iload_n 2, 1) := by decide +kernel
theorem dX12_doLine_89 : decode cX12_doLine 89 = .ok (.iastore, 1) := by decide +kernel
theorem dX12_doLine_90 : decode cX12_doLine 90 = .ok (.aload_n 0, 1) := by decide +kernel
theorem dX12_doLine_91 : decode cX12_doLine 91 = .ok (.getfield 17, 3) := by decide +kernel
theorem dX12_doLine_94 : decode cX12_doLine 94 = .ok (.aload_n 0, 1) := by decide +kernel
theorem dX12_doLine_95 : decode cX12_doLine 95 = .ok (.getfield 90, 3) := by decide +kernel
theorem dX12_doLine_98 : decode cX12_doLine 98 = .ok (.iload_n 3, 1) := by decide +kernel
theorem dX12_doLine_99 : decode cX12_doLine 99 = .ok (.iastore, 1) := by decide +kernel
theorem dX12_doLine_100 : decode cX12_doLine 100 = .ok (.aload_n 0, 1) := by decide +kernel
theorem dX12_doLine_101 : decode cX12_doLine 101 = .ok (.getfield 20, 3) := by decide +kernel
theorem dX12_doLine_104 : decode cX12_doLine 104 = .ok (.aload_n 0, 1) := by decide +kernel
theorem dX12_doLine_105 : decode cX12_doLine 105 = .ok (.getfield 90, 3) := by decide +kernel
theorem dX12_doLine_108 : decode cX12_doLine 108 = .ok (.aload_n 0, 1) := by decide +kernel
theorem dX12_doLine_109 : decode cX12_doLine 109 = .ok (.getfield 41, 3) := by decide +kernel
theorem dX12_doLine_112 : decode cX12_doLine 112 = .ok (.iload_n 1, 1) := by decide +kernel
theorem dX12_doLine_113 : decode cX12_doLine 113 = .ok (.iconst 3, 1) := by decide +kernel
theorem dX12_doLine_114 : decode cX12_doLine 114 = .ok (.iadd, 1) := by decide +kernel
theorem dX12_doLine_115 : decode cX12_doLine 115 = .ok (.iaload, 1) := by decide +kernel
theorem dX12_doLine_116 : decode cX12_doLine 116 = .ok (.iastore, 1) := by decide +kernel
theorem dX12_doLine_117 : decode cX12_doLine 117 = .ok (.aload_n 0, 1) := by decide +kernel
theorem dX12_doLine_118 : decode cX12_doLine 118 = .ok (.getfield 23, 3) := by decide +kernel
theorem dX12_doLine_121 : decode cX12_doLine 121 = .ok (.aload_n 0, 1) := by decide +kernel
theorem dX12_doLine_122 : decode cX12_doLine 122 = .ok (.getfield 90, 3) := by decide +kernel
theorem dX12_doLine_125 : decode cX12_doLine 125 = .ok (.iconst 1, 1) := by decide +kernel
theorem dX12_doLine_126 : decode cX12_doLine 126 = .ok (.iastore, 1) := by decide +kernel
theorem dX12_doLine_127 : decode cX12_doLine 127 = .ok (.aload_n 0, 1) := by decide +kernel
theorem dX12_doLine_128 : decode cX12_doLine 128 = .ok (.dup, 1) := by decide +kernel
theorem dX12_doLine_129 : decode cX12_doLine 129 = .ok (.getfield 90, 3) := by decide +kernel
theorem dX12_doLine_132 : decode cX12_doLine 132 = .ok (.iconst 1, 1) := by decide +kernel
theorem dX12_doLine_133 : decode cX12_doLine 133 = .ok (.iadd, 1) := by decide +kernel
theorem dX12_doLine_134 : decode cX12_doLine 134 = .ok (.putfield 90, 3) := by decide +kernel
theorem dX12_doLine_137 : decode cX12_doLine 137 = .ok (.goto 131, 3) := by decide +kernel
theorem dX12_doLine_140 : decode cX12_doLine 140 = .ok (.aload_n 0, 1) := by decide +kernel
theorem dX12_doLine_141 : decode cX12_doLine 141 = .ok (.getfield 23, 3) := by decide +kernel
theorem dX12_doLine_144 : decode cX12_doLine 144 = .ok (.iload_n 2, 1) := by decide +kernel
theorem dX12_doLine_145 : decode cX12_doLine 145 = .ok (.iload_n 3, 1) := by decide +kernel
theorem dX12_doLine_146 : decode cX12_doLine 146 = .ok (.iastore, 1) := by decide +kernel
theorem dX12_doLine_147 : decode cX12_doLine 147 = .ok (.goto 121, 3) := by decide +kernel
theorem dX12_doLine_150 : decode cX12_doLine 150 = .ok (.aload_n 0, 1) := by decide +kernel
theorem dX12_doLine_151 : decode cX12_doLine 151 = .ok (.getfield 26, 3) := by decide +kernel
theorem dX12_doLine_154 : decode cX12_doLine 154 = .ok (.iconst 0, 1) := by decide +kernel
theorem dX12_doLine_155 : decode cX12_doLine 155 = .ok (.iload_n 2, 1) := by decide +kernel
theorem dX12_doLine_156 : decode cX12_doLine 156 = .ok (.iastore, 1) := by decide +kernel
theorem dX12_doLine_157 : decode cX12_doLine 157 = .ok (.aload_n 0, 1) := by decide +kernel
theorem dX12_doLine_158 : decode cX12_doLine 158 = .ok (.getfield 26, 3) := by decide +kernel
theorem dX12_doLine_161 : decode cX12_doLine 161 = .ok (.iconst 1, 1) := by decide +kernel
theorem dX12_doLine_162 : decode cX12_doLine 162 = .ok (.iload_n 3, 1) := by decide +kernel
theorem dX12_doLine_163 : decode cX12_doLine 163 = .ok (.iastore, 1) := by decide +kernel
theorem dX12_doLine_164 : decode cX12_doLine 164 = .ok (.goto 104, 3) := by decide +kernel
theorem dX12_doLine_167 : decode cX12_doLine 167 = .ok (.aload_n 0, 1) := by decide +kernel
theorem dX12_doLine_168 : decode cX12_doLine 168 = .ok (.getfield 26, 3) := by decide +kernel
theorem dX12_doLine_171 : decode cX12_doLine 171 = .ok (.iconst 2, 1) := by decide +kernel
theorem dX12_doLine_172 : decode cX12_doLine 172 = .ok (.iload_n 2, 1) := by decide +kernel
theorem dX12_doLine_173 : decode cX12_doLine 173 = .ok (.iastore, 1) := by decide +kernel
theorem dX12_doLine_174 : decode cX12_doLine 174 = .ok (.aload_n 0, 1) := by decide +kernel
theorem dX12_doLine_175 : decode cX12_doLine 175 = .ok (.getfield 26, 3) := by decide +kernel
theorem dX12_doLine_178 : decode cX12_doLine 178 = .ok (.iconst 3, 1) := by decide +kernel
theorem dX12_doLine_179 : decode cX12_doLine 179 = .ok (.iload_n 3, 1) := by decide +kernel
theorem dX12_doLine_180 : decode cX12_doLine 180 = .ok (.iastore, 1) := by decide +kernel
theorem dX12_doLine_181 : decode cX12_doLine 181 = .ok (.aload_n 0, 1) := by decide +kernel
theorem dX12_doLine_182 : decode cX12_doLine 182 = .ok (.iconst 1, 1) := by decide +kernel
theorem dX12_doLine_183 : decode cX12_doLine 183 = .ok (.putfield 100, 3) := by decide +kernel
theorem dX12_doLine_186 : decode cX12_doLine 186 = .ok (.goto 82, 3) := by decide +kernel
theorem dX12_doLine_189 : decode cX12_doLine 189 = .ok (.iconst 0, 1) := by decide +kernel
theorem dX12_doLine_190 : decode cX12_doLine 190 = .ok (.istore 4, 2) := by decide +kernel
theorem dX12_doLine_192 : decode cX12_doLine 192 = .ok (.iload 4, 2) := by decide +kernel
theorem dX12_doLine_194 : decode cX12_doLine 194 = .ok (.iconst 4, 1) := by decide +kernel
theorem dX12_doLine_195 : decode cX12_doLine 195 = .ok (.if_icmp .ge 34, 3) := by decide +kernel
theorem dX12_doLine_198 : decode cX12_doLine 198 = .ok (.aload_n 0, 1) := by decide +kernel
theorem dX12_doLine_199 : decode cX12_doLine 199 = .ok (.getfield 32, 3) := by decide +kernel
theorem dX12_doLine_202 : decode cX12_doLine 202 = .ok (.iconst 4, 1) := by decide +kernel
theorem dX12_doLine_203 : decode cX12_doLine 203 = .ok (.aload_n 0, 1) := by decide +kernel
theorem dX12_doLine_204 : decode cX12_doLine 204 = .ok (.getfield 107, 3) := by decide +kernel
theorem dX12_doLine_207 : decode cX12_doLine 207 = .ok (.imul, 1) := by decide +kernel
theorem dX12_doLine_208 : decode cX12_doLine 208 = .ok (.iload 4, 2) := by decide +kernel
theorem dX12_doLine_210 : decode cX12_doLine 210 = .ok (.iadd, 1) := by decide +kernel
theorem dX12_doLine_211 : decode cX12_doLine 211 = .ok (.aload_n 0, 1) := by decide +kernel
theorem dX12_doLine_212 : decode cX12_doLine 212 = .ok (.getfield 41, 3) := by decide +kernel
theorem dX12_doLine_215 : decode cX12_doLine 215 = .ok (.iload_n 1, 1) := by decide +kernel
theorem dX12_doLine_216 : decode cX12_doLine 216 = .ok (.iconst 1, 1) := by decide +kernel
theorem dX12_doLine_217 : decode cX12_doLine 217 = .ok (.iadd, 1) := by decide +kernel
theorem dX12_doLine_218 : decode cX12_doLine 218 = .ok (.iload 4, 2) := by decide +kernel
theorem dX12_doLine_220 : decode cX12_doLine 220 = .ok (.iadd, 1) := by decide +kernel
theorem dX12_doLine_221 : decode cX12_doLine 221 = .ok (.iaload, 1) := by decide +kernel
theorem dX12_doLine_222 : decode cX12_doLine 222 = .ok (.iastore, 1) := by decide +kernel
theorem dX12_doLine_223 : decode cX12_doLine 223 = .ok (.iinc 4 1, 3) := by decide +kernel
theorem dX12_doLine_226 : decode cX12_doLine 226 = .ok (.goto (-34), 3) := by decide +kernel
theorem dX12_doLine_229 : decode cX12_doLine 229 = .ok (.aload_n 0, 1) := by decide +kernel
theorem dX12_doLine_230 : decode cX12_doLine 230 = .ok (.dup, 1) := by decide +kernel
theorem dX12_doLine_231 : decode cX12_doLine 231 = .ok (.getfield 107, 3) := by decide +kernel
theorem dX12_doLine_234 : decode cX12_doLine 234 = .ok (.iconst 1, 1) := by decide +kernel
theorem dX12_doLine_235 : decode cX12_doLine 235 = .ok (.iadd, 1) := by decide +kernel
theorem dX12_doLine_236 : decode cX12_doLine 236 = .ok (.putfield 107, 3) := by decide +kernel
theorem dX12_doLine_239 : decode cX12_doLine 239 = .ok (.goto 29, 3) := by decide +kernel
theorem dX12_doLine_242 : decode cX12_doLine 242 = .ok (.aload_n 0, 1) := by decide +kernel
theorem dX12_doLine_243 : decode cX12_doLine 243 = .ok (.iload_n 2, 1) := by decide +kernel
theorem dX12_doLine_244 : decode cX12_doLine 244 = .ok (.putfield 35, 3) := by decide +kernel
theorem dX12_doLine_247 : decode cX12_doLine 247 = .ok (.goto 21, 3) := by decide +kernel
theorem dX12_doLine_250 : decode cX12_doLine 250 = .ok (.aload_n 0, 1) := by decide +kernel
theorem dX12_doLine_251 : decode cX12_doLine 251 = .ok (.aload_n 0, 1) := by decide +kernel
theorem dX12_doLine_252 : decode cX12_doLine 252 = .ok (.getfield 41, 3) := by decide +kernel
theorem dX12_doLine_255 : decode cX12_doLine 255 = .ok (.iload_n 1, 1) := by decide +kernel
theorem dX12_doLine_256 : decode cX12_doLine 256 = .ok (.iaload, 1) := by decide +kernel
theorem dX12_doLine_257 : decode cX12_doLine 257 = .ok (.bipush 7, 2) := by decide +kernel
theorem dX12_doLine_259 : decode cX12_doLine 259 = .ok (.isub, 1) := by decide +kernel
theorem dX12_doLine_260 : decode cX12_doLine 260 = .ok (.putfield 104, 3) := by decide +kernel
theorem dX12_doLine_263 : decode cX12_doLine 263 = .ok (.aload_n 0, 1) := by decide +kernel
theorem dX12_doLine_264 : decode cX12_doLine 264 = .ok (.iload_n 2, 1) := by decide +kernel
theorem dX12_doLine_265 : decode cX12_doLine 265 = .ok (.putfield 29, 3) := by decide +kernel
theorem dX12_doLine_268 : decode cX12_doLine 268 = .ok (.return_, 1) := by decide +kernel
theorem dX12_openAll_0 : decode cX12_openAll 0 = .ok (.iconst 0, 1) := by decide +kernel
theorem dX12_openAll_1 : decode cX12_openAll 1 = .ok (.istore_n 1, 1) := by decide +kernel
theorem dX12_openAll_2 : decode cX12_openAll 2 = .ok (.iload_n 1, 1) := by decide +kernel
theorem dX12_openAll_3 : decode cX12_openAll 3 = .ok (.bipush 16, 2) := by decide +kernel
theorem dX12_openAll_5 : decode cX12_openAll 5 = .ok (.if_icmp .ge 16, 3) := by decide +kernel
theorem dX12_openAll_8 : decode cX12_openAll 8 = .ok (.aload_n 0, 1) := by decide +kernel
theorem dX12_openAll_9 : decode cX12_openAll 9 = .ok (.getfield 44, 3) := by decide +kernel
theorem dX12_openAll_12 : decode cX12_openAll 12 = .ok (.iload_n 1, 1) := by decide +kernel
theorem dX12_openAll_13 : decode cX12_openAll 13 = .ok (.iconst 0, 1) := by decide +kernel
theorem dX12_openAll_14 : decode cX12_openAll 14 = .ok (.iastore, 1) := by decide +kernel
theorem dX12_openAll_15 : decode cX12_openAll 15 = .ok (.iinc 1 1, 3) := by decide +kernel
theorem dX12_openAll_18 : decode cX12_openAll 18 = .ok (.goto (-16), 3) := by decide +kernel
theorem dX12_openAll_21 : decode cX12_openAll 21 = .ok (.return_, 1) := by decide +kernel
set_option maxRecDepth 20000 in
theorem ggX12_town_X12_isRead : GoodIn wsX12_town wsX12_isRead := goodIn_r _ [12, 13, 1, 14, 15, 3, 16, 17, 18, 19, 20, 21, 22, 23, 24, 11, 25, 26, 27, 28, 29, 30, 31, 32, 33, 34, 35, 36, 37, 38, 39, 40, 41, 2, 42, 43, 44, 45, 46, 47, 48, 49, 50, 51, 52, 53, 54, 55, 56, 57, 58, 59, 60, 61, 62, 63, 64, 65, 66, 67, 68, 69, 70, 71, 72, 73, 74, 75, 76, 77, 101, 102, 103, 104, 105, 106, 107, 108, 109, 110, 111, 112, 113, 114, 115, 116, 117, 118, 119, 120, 121, 122, 123, 124, 125, 126, 127, 128, 129, 130, 131, 132, 133, 134, 135, 136, 137, 138, 139, 140, 141, 142, 143, 144] (by decide +kernel) (by decide +kernel)
set_option maxRecDepth 20000 in
theorem gX12_town_X12_isRead : GoodIn wsX12_town (wsV RX12 206 RX12 yX12_isRead wsX12_isRead) := goodIn_app (goodIn_of _ (by decide +kernel)) ggX12_town_X12_isRead
set_option maxRecDepth 20000 in
theorem ggX12_town_X12_doLine : GoodIn wsX12_town wsX12_doLine := goodIn_r _ [81, 37, 14, 82, 3, 83, 84, 85, 86, 87, 88, 17, 89, 90, 91, 92, 93, 94, 11, 95, 4, 101, 102, 103, 104, 105, 106, 107, 108, 109, 110, 111, 112, 113, 114, 115, 116, 117, 118, 119, 120, 121, 122, 123, 124, 125, 126, 127, 128, 129, 130, 131, 132, 133, 134, 135, 136, 137, 138, 139, 140, 141, 142, 143, 144] (by decide +kernel) (by decide +kernel)
set_option maxRecDepth 20000 in
theorem gX12_town_X12_doLine : GoodIn wsX12_town (wsV RX12 209 RX12 yX12_doLine wsX12_doLine) := goodIn_app (goodIn_of _ (by decide +kernel)) ggX12_town_X12_doLine
set_option maxRecDepth 20000 in
theorem ggX12_town_X12_openAll : GoodIn wsX12_town wsX12_openAll := goodIn_r _ [99, 100, 101, 102, 103, 104, 105, 106, 107, 108, 109, 110, 111, 112, 113, 114, 115, 116, 117, 118, 119, 120, 121, 122, 123, 124, 125, 126, 127, 128, 129, 130, 131, 132, 133, 134, 135, 136, 137, 138, 139, 140, 141, 142, 143, 144] (by decide +kernel) (by decide +kernel)
set_option maxRecDepth 20000 in
theorem gX12_town_X12_openAll : GoodIn wsX12_town (wsV RX12 216 RX12 yX12_openAll wsX12_openAll) := goodIn_app (goodIn_of _ (by decide +kernel)) ggX12_town_X12_openAll
theorem dX12_town_0 : decode cX12_town 0 = .ok (.aload_n 0, 1) := by decide +kernel
theorem dX12_town_1 : decode cX12_town 1 = .ok (.invokevirtual 206, 3) := by decide +kernel
theorem dX12_town_4 : decode cX12_town 4 = .ok (.ifCond .ne 6, 3) := by decide +kernel
theorem dX12_town_7 : decode cX12_town 7 = .ok (.bipush (-4), 2) := by decide +kernel
theorem dX12_town_9 : decode cX12_town 9 = .ok (.ireturn, 1) := by decide +kernel
theorem dX12_town_10 : decode cX12_town 10 = .ok (.iconst 0, 1) := by decide +kernel
theorem dX12_town_11 : decode cX12_town 11 = .ok (.istore_n 1, 1) := by decide +kernel
theorem dX12_town_12 : decode cX12_town 12 = .ok (.iload_n 1, 1) := by decide +kernel
theorem dX12_town_13 : decode cX12_town 13 = .ok (.aload_n 0, 1) := by decide +kernel
theorem dX12_town_14 : decode cX12_town 14 = .ok (.getfield 200, 3) := by decide +kernel
theorem dX12_town_17 : decode cX12_town 17 = .ok (.if_icmp .ge 16, 3) := by decide +kernel
theorem dX12_town_20 : decode cX12_town 20 = .ok (.aload_n 0, 1) := by decide +kernel
theorem dX12_town_21 : decode cX12_town 21 = .ok (.iconst 5, 1) := by decide +kernel
theorem dX12_town_22 : decode cX12_town 22 = .ok (.iload_n 1, 1) := by decide +kernel
theorem dX12_town_23 : decode cX12_town 23 = .ok (.imul, 1) := by decide +kernel
theorem dX12_town_24 : decode cX12_town 24 = .ok (.invokevirtual 209, 3) := by decide +kernel
theorem dX12_town_27 : decode cX12_town 27 = .ok (.iinc 1 1, 3) := by decide +kernel
theorem dX12_town_30 : decode cX12_town 30 = .ok (.goto (-18), 3) := by decide +kernel
theorem dX12_town_33 : decode cX12_town 33 = .ok (.aload_n 0, 1) := by decide +kernel
theorem dX12_town_34 : decode cX12_town 34 = .ok (.iconst 0, 1) := by decide +kernel
theorem dX12_town_35 : decode cX12_town 35 = .ok (.putfield 110, 3) := by decide +kernel
theorem dX12_town_38 : decode cX12_town 38 = .ok (.aload_n 0, 1) := by decide +kernel
theorem dX12_town_39 : decode cX12_town 39 = .ok (.aload_n 0, 1) := by decide +kernel
theorem dX12_town_40 : decode cX12_town 40 = .ok (.getfield 90, 3) := by decide +kernel
theorem dX12_town_43 : decode cX12_town 43 = .ok (.putfield 97, 3) := by decide +kernel
theorem dX12_town_46 : decode cX12_town 46 = .ok (.aload_n 0, 1) := by decide +kernel
theorem dX12_town_47 : decode cX12_town 47 = .ok (.iconst 0, 1) := by decide +kernel
theorem dX12_town_48 : decode cX12_town 48 = .ok (.putfield 213, 3) := by decide +kernel
theorem dX12_town_51 : decode cX12_town 51 = .ok (.aload_n 0, 1) := by decide +kernel
theorem dX12_town_52 : decode cX12_town 52 = .ok (.invokevirtual 216, 3) := by decide +kernel
theorem dX12_town_55 : decode cX12_town 55 = .ok (.aload_n 0, 1) := by decide +kernel
theorem dX12_town_56 : decode cX12_town 56 = .ok (.iconst 0, 1) := by decide +kernel
theorem dX12_town_57 : decode cX12_town 57 = .ok (.putfield 219, 3) := by decide +kernel
theorem dX12_town_60 : decode cX12_town 60 = .ok (.aload_n 0, 1) := by decide +kernel
theorem dX12_town_61 : decode cX12_town 61 = .ok (.getfield 53, 3) := by decide +kernel
theorem dX12_town_64 : decode cX12_town 64 = .ok (.iconst 0, 1) := by decide +kernel
theorem dX12_town_65 : decode cX12_town 65 = .ok (.iconst 0, 1) := by decide +kernel
theorem dX12_town_66 : decode cX12_town 66 = .ok (.bastore, 1) := by decide +kernel
theorem dX12_town_67 : decode cX12_town 67 = .ok (.aload_n 0, 1) := by decide +kernel
theorem dX12_town_68 : decode cX12_town 68 = .ok (.getfield 53, 3) := by decide +kernel
theorem dX12_town_71 : decode cX12_town 71 = .ok (.iconst 1, 1) := by decide +kernel
theorem dX12_town_72 : decode cX12_town 72 = .ok (.iconst 0, 1) := by decide +kernel
theorem dX12_town_73 : decode cX12_town 73 = .ok (.bastore, 1) := by decide +kernel
theorem dX12_town_74 : decode cX12_town 74 = .ok (.aload_n 0, 1) := by decide +kernel
theorem dX12_town_75 : decode cX12_town 75 = .ok (.getfield 200, 3) := by decide +kernel
theorem dX12_town_78 : decode cX12_town 78 = .ok (.ireturn, 1) := by decide +kernel
set_option maxRecDepth 20000 in
theorem ggX12_street_X12_isStreet : GoodIn wsX12_street wsX12_isStreet := goodIn_r _ [10, 11, 12, 13, 9, 14, 15, 16, 17, 18, 19, 20, 21, 22, 23, 24, 25, 26, 27, 28, 29, 30, 31, 32, 33, 34, 35, 36, 37, 38, 39, 40, 41, 42, 43, 44, 45, 46, 47, 48, 49, 50, 51, 52, 53, 54, 55, 56, 57, 58] (by decide +kernel) (by decide +kernel)
set_option maxRecDepth 20000 in
theorem gX12_street_X12_isStreet : GoodIn wsX12_street (wsV RX12 222 RX12 yX12_isStreet wsX12_isStreet) := goodIn_app (goodIn_of _ (by decide +kernel)) ggX12_street_X12_isStreet
theorem dX12_street_0 : decode cX12_street 0 = .ok (.aload_n 0, 1) := by decide +kernel
theorem dX12_street_1 : decode cX12_street 1 = .ok (.iload_n 1, 1) := by decide +kernel
theorem dX12_street_2 : decode cX12_street 2 = .ok (.invokevirtual 222, 3) := by decide +kernel
theorem dX12_street_5 : decode cX12_street 5 = .ok (.ifCond .ne 6, 3) := by decide +kernel
theorem dX12_street_8 : decode cX12_street 8 = .ok (.bipush (-2), 2) := by decide +kernel
theorem dX12_street_10 : decode cX12_street 10 = .ok (.ireturn, 1) := by decide +kernel
theorem dX12_street_11 : decode cX12_street 11 = .ok (.iload_n 2, 1) := by decide +kernel
theorem dX12_street_12 : decode cX12_street 12 = .ok (.tableswitch 71 0 4 #[36, 43, 50, 57, 64], 36) := by decide +kernel
theorem dX12_street_48 : decode cX12_street 48 = .ok (.aload_n 0, 1) := by decide +kernel
theorem dX12_street_49 : decode cX12_street 49 = .ok (.getfield 13, 3) := by decide +kernel
theorem dX12_street_52 : decode cX12_street 52 = .ok (.iload_n 1, 1) := by decide +kernel
theorem dX12_street_53 : decode cX12_street 53 = .ok (.iaload, 1) := by decide +kernel
theorem dX12_street_54 : decode cX12_street 54 = .ok (.ireturn, 1) := by decide +kernel
theorem dX12_street_55 : decode cX12_street 55 = .ok (.aload_n 0, 1) := by decide +kernel
theorem dX12_street_56 : decode cX12_street 56 = .ok (.getfield 17, 3) := by decide +kernel
theorem dX12_street_59 : decode cX12_street 59 = .ok (.iload_n 1, 1) := by decide +kernel
theorem dX12_street_60 : decode cX12_street 60 = .ok (.iaload, 1) := by decide +kernel
theorem dX12_street_61 : decode cX12_street 61 = .ok (.ireturn, 1) := by decide +kernel
theorem dX12_street_62 : decode cX12_street 62 = .ok (.aload_n 0, 1) := by decide +kernel
theorem dX12_street_63 : decode cX12_street 63 = .ok (.getfield 20, 3) := by decide +kernel
theorem dX12_street_66 : decode cX12_street 66 = .ok (.iload_n 1, 1) := by decide +kernel
theorem dX12_street_67 : decode cX12_street 67 = .ok (.iaload, 1) := by decide +kernel
theorem dX12_street_68 : decode cX12_street 68 = .ok (.ireturn, 1) := by decide +kernel
theorem dX12_street_69 : decode cX12_street 69 = .ok (.aload_n 0, 1) := by decide +kernel
theorem dX12_street_70 : decode cX12_street 70 = .ok (.getfield 23, 3) := by decide +kernel
theorem dX12_street_73 : decode cX12_street 73 = .ok (.iload_n 1, 1) := by decide +kernel
theorem dX12_street_74 : decode cX12_street 74 = .ok (.iaload, 1) := by decide +kernel
theorem dX12_street_75 : decode cX12_street 75 = .ok (.ireturn, 1) := by decide +kernel
theorem dX12_street_76 : decode cX12_street 76 = .ok (.aload_n 0, 1) := by decide +kernel
theorem dX12_street_77 : decode cX12_street 77 = .ok (.getfield 44, 3) := by decide +kernel
theorem dX12_street_80 : decode cX12_street 80 = .ok (.iload_n 1, 1) := by decide +kernel
theorem dX12_street_81 : decode cX12_street 81 = .ok (.iaload, 1) := by decide +kernel
theorem dX12_street_82 : decode cX12_street 82 = .ok (.ireturn, 1) := by decide +kernel
theorem dX12_street_83 : decode cX12_street 83 = .ok (.bipush (-3), 2) := by decide +kernel
theorem dX12_street_85 : decode cX12_street 85 = .ok (.ireturn, 1) := by decide +kernel
set_option maxRecDepth 20000 in
theorem ggX12_lane_X12_in : GoodIn wsX12_lane wsX12_in := goodIn_r _ [6] (by decide +kernel) (by decide +kernel)
set_option maxRecDepth 20000 in
theorem gX12_lane_X12_in : GoodIn wsX12_lane (va_wsS RX12 93 yX12_in wsX12_in) := goodIn_app (goodIn_of _ (by decide +kernel)) ggX12_lane_X12_in
theorem dX12_lane_0 : decode cX12_lane 0 = .ok (.iload_n 1, 1) := by decide +kernel
theorem dX12_lane_1 : decode cX12_lane 1 = .ok (.iconst 0, 1) := by decide +kernel
theorem dX12_lane_2 : decode cX12_lane 2 = .ok (.aload_n 0, 1) := by decide +kernel
theorem dX12_lane_3 : decode cX12_lane 3 = .ok (.getfield 107, 3) := by decide +kernel
theorem dX12_lane_6 : decode cX12_lane 6 = .ok (.iconst 1, 1) := by decide +kernel
theorem dX12_lane_7 : decode cX12_lane 7 = .ok (.isub, 1) := by decide +kernel
theorem dX12_lane_8 : decode cX12_lane 8 = .ok (.invokestatic 93, 3) := by decide +kernel
theorem dX12_lane_11 : decode cX12_lane 11 = .ok (.ifCond .ne 6, 3) := by decide +kernel
theorem dX12_lane_14 : decode cX12_lane 14 = .ok (.bipush (-2), 2) := by decide +kernel
theorem dX12_lane_16 : decode cX12_lane 16 = .ok (.ireturn, 1) := by decide +kernel
theorem dX12_lane_17 : decode cX12_lane 17 = .ok (.iload_n 2, 1) := by decide +kernel
theorem dX12_lane_18 : decode cX12_lane 18 = .ok (.iconst 0, 1) := by decide +kernel
theorem dX12_lane_19 : decode cX12_lane 19 = .ok (.iconst 3, 1) := by decide +kernel
theorem dX12_lane_20 : decode cX12_lane 20 = .ok (.invokestatic 93, 3) := by decide +kernel
theorem dX12_lane_23 : decode cX12_lane 23 = .ok (.ifCond .eq 16, 3) := by decide +kernel
theorem dX12_lane_26 : decode cX12_lane 26 = .ok (.aload_n 0, 1) := by decide +kernel
theorem dX12_lane_27 : decode cX12_lane 27 = .ok (.getfield 32, 3) := by decide +kernel
theorem dX12_lane_30 : decode cX12_lane 30 = .ok (.iconst 4, 1) := by decide +kernel
theorem dX12_lane_31 : decode cX12_lane 31 = .ok (.iload_n 1, 1) := by decide +kernel
theorem dX12_lane_32 : decode cX12_lane 32 = .ok (.imul, 1) := by decide +kernel
theorem dX12_lane_33 : decode cX12_lane 33 = .ok (.iload_n 2, 1) := by decide +kernel
theorem dX12_lane_34 : decode cX12_lane 34 = .ok (.iadd, 1) := by decide +kernel
theorem dX12_lane_35 : decode cX12_lane 35 = .ok (.iaload, 1) := by decide +kernel
theorem dX12_lane_36 : decode cX12_lane 36 = .ok (.goto 5, 3) := by decide +kernel
theorem dX12_lane_39 : decode cX12_lane 39 = .ok (.bipush (-3), 2) := by decide +kernel
theorem dX12_lane_41 : decode cX12_lane 41 = .ok (.ireturn, 1) := by decide +kernel
theorem dX12_market_0 : decode cX12_market 0 = .ok (.aload_n 0, 1) := by decide +kernel
theorem dX12_market_1 : decode cX12_market 1 = .ok (.getfield 100, 3) := by decide +kernel
theorem dX12_market_4 : decode cX12_market 4 = .ok (.ifCond .eq 22, 3) := by decide +kernel
theorem dX12_market_7 : decode cX12_market 7 = .ok (.aload_n 0, 1) := by decide +kernel
theorem dX12_market_8 : decode cX12_market 8 = .ok (.getfield 213, 3) := by decide +kernel
theorem dX12_market_11 : decode cX12_market 11 = .ok (.iconst 2, 1) := by decide +kernel
theorem dX12_market_12 : decode cX12_market 12 = .ok (.irem, 1) := by decide +kernel
theorem dX12_market_13 : decode cX12_market 13 = .ok (.iconst 1, 1) := by decide +kernel
theorem dX12_market_14 : decode cX12_market 14 = .ok (.if_icmp .ne 12, 3) := by decide +kernel
theorem dX12_market_17 : decode cX12_market 17 = .ok (.aload_n 0, 1) := by decide +kernel
theorem dX12_market_18 : decode cX12_market 18 = .ok (.getfield 26, 3) := by decide +kernel
theorem dX12_market_21 : decode cX12_market 21 = .ok (.iconst 2, 1) := by decide +kernel
theorem dX12_market_22 : decode cX12_market 22 = .ok (.iaload, 1) := by decide +kernel
theorem dX12_market_23 : decode cX12_market 23 = .ok (.goto 9, 3) := by decide +kernel
theorem dX12_market_26 : decode cX12_market 26 = .ok (.aload_n 0, 1) := by decide +kernel
theorem dX12_market_27 : decode cX12_market 27 = .ok (.getfield 26, 3) := by decide +kernel
theorem dX12_market_30 : decode cX12_market 30 = .ok (.iconst 0, 1) := by decide +kernel
theorem dX12_market_31 : decode cX12_market 31 = .ok (.iaload, 1) := by decide +kernel
theorem dX12_market_32 : decode cX12_market 32 = .ok (.ireturn, 1) := by decide +kernel
theorem dX12_quay_0 : decode cX12_quay 0 = .ok (.aload_n 0, 1) := by decide +kernel
theorem dX12_quay_1 : decode cX12_quay 1 = .ok (.getfield 100, 3) := by decide +kernel
theorem dX12_quay_4 : decode cX12_quay 4 = .ok (.ifCond .eq 22, 3) := by decide +kernel
theorem dX12_quay_7 : decode cX12_quay 7 = .ok (.aload_n 0, 1) := by decide +kernel
theorem dX12_quay_8 : decode cX12_quay 8 = .ok (.getfield 213, 3) := by decide +kernel
theorem dX12_quay_11 : decode cX12_quay 11 = .ok (.iconst 2, 1) := by decide +kernel
theorem dX12_quay_12 : decode cX12_quay 12 = .ok (.irem, 1) := by decide +kernel
theorem dX12_quay_13 : decode cX12_quay 13 = .ok (.iconst 1, 1) := by decide +kernel
theorem dX12_quay_14 : decode cX12_quay 14 = .ok (.if_icmp .ne 12, 3) := by decide +kernel
theorem dX12_quay_17 : decode cX12_quay 17 = .ok (.aload_n 0, 1) := by decide +kernel
theorem dX12_quay_18 : decode cX12_quay 18 = .ok (.getfield 26, 3) := by decide +kernel
theorem dX12_quay_21 : decode cX12_quay 21 = .ok (.iconst 3, 1) := by decide +kernel
theorem dX12_quay_22 : decode cX12_quay 22 = .ok (.iaload, 1) := by decide +kernel
theorem dX12_quay_23 : decode cX12_quay 23 = .ok (.goto 9, 3) := by decide +kernel
theorem dX12_quay_26 : decode cX12_quay 26 = .ok (.aload_n 0, 1) := by decide +kernel
theorem dX12_quay_27 : decode cX12_quay 27 = .ok (.getfield 26, 3) := by decide +kernel
theorem dX12_quay_30 : decode cX12_quay 30 = .ok (.iconst 1, 1) := by decide +kernel
theorem dX12_quay_31 : decode cX12_quay 31 = .ok (.iaload, 1) := by decide +kernel
theorem dX12_quay_32 : decode cX12_quay 32 = .ok (.ireturn, 1) := by decide +kernel
theorem dX12_behind_0 : decode cX12_behind 0 = .ok (.aload_n 0, 1) := by decide +kernel
theorem dX12_behind_1 : decode cX12_behind 1 = .ok (.getfield 13, 3) := by decide +kernel
theorem dX12_behind_4 : decode cX12_behind 4 = .ok (.iload_n 1, 1) := by decide +kernel
theorem dX12_behind_5 : decode cX12_behind 5 = .ok (.iaload, 1) := by decide +kernel
theorem dX12_behind_6 : decode cX12_behind 6 = .ok (.iload_n 2, 1) := by decide +kernel
theorem dX12_behind_7 : decode cX12_behind 7 = .ok (.if_icmp .ne 12, 3) := by decide +kernel
theorem dX12_behind_10 : decode cX12_behind 10 = .ok (.aload_n 0, 1) := by decide +kernel
theorem dX12_behind_11 : decode cX12_behind 11 = .ok (.getfield 17, 3) := by decide +kernel
theorem dX12_behind_14 : decode cX12_behind 14 = .ok (.iload_n 1, 1) := by decide +kernel
theorem dX12_behind_15 : decode cX12_behind 15 = .ok (.iaload, 1) := by decide +kernel
theorem dX12_behind_16 : decode cX12_behind 16 = .ok (.goto 23, 3) := by decide +kernel
theorem dX12_behind_19 : decode cX12_behind 19 = .ok (.aload_n 0, 1) := by decide +kernel
theorem dX12_behind_20 : decode cX12_behind 20 = .ok (.getfield 17, 3) := by decide +kernel
theorem dX12_behind_23 : decode cX12_behind 23 = .ok (.iload_n 1, 1) := by decide +kernel
theorem dX12_behind_24 : decode cX12_behind 24 = .ok (.iaload, 1) := by decide +kernel
theorem dX12_behind_25 : decode cX12_behind 25 = .ok (.iload_n 2, 1) := by decide +kernel
theorem dX12_behind_26 : decode cX12_behind 26 = .ok (.if_icmp .ne 12, 3) := by decide +kernel
theorem dX12_behind_29 : decode cX12_behind 29 = .ok (.aload_n 0, 1) := by decide +kernel
theorem dX12_behind_30 : decode cX12_behind 30 = .ok (.getfield 13, 3) := by decide +kernel
theorem dX12_behind_33 : decode cX12_behind 33 = .ok (.iload_n 1, 1) := by decide +kernel
theorem dX12_behind_34 : decode cX12_behind 34 = .ok (.iaload, 1) := by decide +kernel
theorem dX12_behind_35 : decode cX12_behind 35 = .ok (.goto 4, 3) := by decide +kernel
theorem dX12_behind_38 : decode cX12_behind 38 = .ok (.iconst (-1), 1) := by decide +kernel
theorem dX12_behind_39 : decode cX12_behind 39 = .ok (.ireturn, 1) := by decide +kernel
set_option maxRecDepth 20000 in
theorem ggX12_layWay_X12_quay : GoodIn wsX12_layWay wsX12_quay := goodIn_r _ [16, 17, 18, 19, 31, 32, 33, 34, 35, 36, 37, 38, 39, 40, 41, 42, 43, 44, 45, 46, 47, 48, 49, 50, 51, 52, 53, 54, 55, 56, 57, 58, 59, 60, 61, 62, 63, 64, 65, 66, 67, 68, 69, 70, 71, 72, 73, 74] (by decide +kernel) (by decide +kernel)
set_option maxRecDepth 20000 in
theorem gX12_layWay_X12_quay : GoodIn wsX12_layWay (wsV RX12 225 RX12 yX12_quay wsX12_quay) := goodIn_app (goodIn_of _ (by decide +kernel)) ggX12_layWay_X12_quay
set_option maxRecDepth 20000 in
theorem ggX12_layWay_X12_has : GoodIn wsX12_layWay wsX12_has := goodIn_r _ [22] (by decide +kernel) (by decide +kernel)
set_option maxRecDepth 20000 in
theorem gX12_layWay_X12_has : GoodIn wsX12_layWay (va_wsS RX12 230 yX12_has wsX12_has) := goodIn_app (goodIn_of _ (by decide +kernel)) ggX12_layWay_X12_has
set_option maxRecDepth 20000 in
theorem ggX12_layWay_X12_market : GoodIn wsX12_layWay wsX12_market := goodIn_r _ [26, 17, 18, 19, 31, 32, 33, 34, 35, 36, 37, 38, 39, 40, 41, 42, 43, 44, 45, 46, 47, 48, 49, 50, 51, 52, 53, 54, 55, 56, 57, 58, 59, 60, 61, 62, 63, 64, 65, 66, 67, 68, 69, 70, 71, 72, 73, 74] (by decide +kernel) (by decide +kernel)
set_option maxRecDepth 20000 in
theorem gX12_layWay_X12_market : GoodIn wsX12_layWay (wsV RX12 237 RX12 yX12_market wsX12_market) := goodIn_app (goodIn_of _ (by decide +kernel)) ggX12_layWay_X12_market
set_option maxRecDepth 20000 in
theorem ggX12_layWay_X12_behind : GoodIn wsX12_layWay wsX12_behind := goodIn_r _ [30, 8, 9, 31, 32, 33, 34, 35, 36, 37, 38, 39, 40, 41, 42, 43, 44, 45, 46, 47, 48, 49, 50, 51, 52, 53, 54, 55, 56, 57, 58, 59, 60, 61, 62, 63, 64, 65, 66, 67, 68, 69, 70, 71, 72, 73, 74] (by decide +kernel) (by decide +kernel)
set_option maxRecDepth 20000 in
theorem gX12_layWay_X12_behind : GoodIn wsX12_layWay (wsV RX12 240 RX12 yX12_behind wsX12_behind) := goodIn_app (goodIn_of _ (by decide +kernel)) ggX12_layWay_X12_behind
theorem dX12_layWay_0 : decode cX12_layWay 0 = .ok (.iconst 0, 1) := by decide +kernel
theorem dX12_layWay_1 : decode cX12_layWay 1 = .ok (.istore_n 2, 1) := by decide +kernel
theorem dX12_layWay_2 : decode cX12_layWay 2 = .ok (.iload_n 2, 1) := by decide +kernel
theorem dX12_layWay_3 : decode cX12_layWay 3 = .ok (.aload_n 0, 1) := by decide +kernel
theorem dX12_layWay_4 : decode cX12_layWay 4 = .ok (.getfield 7, 3) := by decide +kernel
theorem dX12_layWay_7 : decode cX12_layWay 7 = .ok (.if_icmp .ge 29, 3) := by decide +kernel
theorem dX12_layWay_10 : decode cX12_layWay 10 = .ok (.aload_n 0, 1) := by decide +kernel
theorem dX12_layWay_11 : decode cX12_layWay 11 = .ok (.getfield 60, 3) := by decide +kernel
theorem dX12_layWay_14 : decode cX12_layWay 14 = .ok (.iload_n 2, 1) := by decide +kernel
theorem dX12_layWay_15 : decode cX12_layWay 15 = .ok (.iload_n 2, 1) := by decide +kernel
theorem dX12_layWay_16 : decode cX12_layWay 16 = .ok (.aload_n 0, 1) := by decide +kernel
theorem dX12_layWay_17 : decode cX12_layWay 17 = .ok (.invokevirtual 225, 3) := by decide +kernel
theorem dX12_layWay_20 : decode cX12_layWay 20 = .ok (.if_icmp .ne 7, 3) := by decide +kernel
theorem dX12_layWay_23 : decode cX12_layWay 23 = .ok (.iconst 0, 1) := by decide +kernel
theorem dX12_layWay_24 : decode cX12_layWay 24 = .ok (.goto 5, 3) := by decide +kernel
theorem dX12_layWay_27 : decode cX12_layWay 27 = .ok (.ldc 229, 2) := by decide +kernel
theorem dX12_layWay_29 : decode cX12_layWay 29 = .ok (.iastore, 1) := by decide +kernel
theorem dX12_layWay_30 : decode cX12_layWay 30 = .ok (.iinc 2 1, 3) := by decide +kernel
theorem dX12_layWay_33 : decode cX12_layWay 33 = .ok (.goto (-31), 3) := by decide +kernel
theorem dX12_layWay_36 : decode cX12_layWay 36 = .ok (.iconst 0, 1) := by decide +kernel
theorem dX12_layWay_37 : decode cX12_layWay 37 = .ok (.istore_n 2, 1) := by decide +kernel
theorem dX12_layWay_38 : decode cX12_layWay 38 = .ok (.iload_n 2, 1) := by decide +kernel
theorem dX12_layWay_39 : decode cX12_layWay 39 = .ok (.aload_n 0, 1) := by decide +kernel
theorem dX12_layWay_40 : decode cX12_layWay 40 = .ok (.getfield 7, 3) := by decide +kernel
theorem dX12_layWay_43 : decode cX12_layWay 43 = .ok (.if_icmp .ge 193, 3) := by decide +kernel
theorem dX12_layWay_46 : decode cX12_layWay 46 = .ok (.iconst 0, 1) := by decide +kernel
theorem dX12_layWay_47 : decode cX12_layWay 47 = .ok (.istore_n 3, 1) := by decide +kernel
theorem dX12_layWay_48 : decode cX12_layWay 48 = .ok (.iload_n 3, 1) := by decide +kernel
theorem dX12_layWay_49 : decode cX12_layWay 49 = .ok (.aload_n 0, 1) := by decide +kernel
theorem dX12_layWay_50 : decode cX12_layWay 50 = .ok (.getfield 97, 3) := by decide +kernel
theorem dX12_layWay_53 : decode cX12_layWay 53 = .ok (.if_icmp .ge 177, 3) := by decide +kernel
theorem dX12_layWay_56 : decode cX12_layWay 56 = .ok (.aload_n 0, 1) := by decide +kernel
theorem dX12_layWay_57 : decode cX12_layWay 57 = .ok (.getfield 44, 3) := by decide +kernel
theorem dX12_layWay_60 : decode cX12_layWay 60 = .ok (.iload_n 3, 1) := by decide +kernel
theorem dX12_layWay_61 : decode cX12_layWay 61 = .ok (.iaload, 1) := by decide +kernel
theorem dX12_layWay_62 : decode cX12_layWay 62 = .ok (.ifCond .ne 162, 3) := by decide +kernel
theorem dX12_layWay_65 : decode cX12_layWay 65 = .ok (.aload_n 0, 1) := by decide +kernel
theorem dX12_layWay_66 : decode cX12_layWay 66 = .ok (.getfield 20, 3) := by decide +kernel
theorem dX12_layWay_69 : decode cX12_layWay 69 = .ok (.iload_n 3, 1) := by decide +kernel
theorem dX12_layWay_70 : decode cX12_layWay 70 = .ok (.iaload, 1) := by decide +kernel
theorem dX12_layWay_71 : decode cX12_layWay 71 = .ok (.iload_n 1, 1) := by decide +kernel
theorem dX12_layWay_72 : decode cX12_layWay 72 = .ok (.iload_n 3, 1) := by decide +kernel
theorem dX12_layWay_73 : decode cX12_layWay 73 = .ok (.invokestatic 230, 3) := by decide +kernel
theorem dX12_layWay_76 : decode cX12_layWay 76 = .ok (.ifCond .eq 10, 3) := by decide +kernel
theorem dX12_layWay_79 : decode cX12_layWay 79 = .ok (.aload_n 0, 1) := by decide +kernel
theorem dX12_layWay_80 : decode cX12_layWay 80 = .ok (.getfield 35, 3) := by decide +kernel
theorem dX12_layWay_83 : decode cX12_layWay 83 = .ok (.goto 4, 3) := by decide +kernel
theorem dX12_layWay_86 : decode cX12_layWay 86 = .ok (.iconst 0, 1) := by decide +kernel
theorem dX12_layWay_87 : decode cX12_layWay 87 = .ok (.iadd, 1) := by decide +kernel
theorem dX12_layWay_88 : decode cX12_layWay 88 = .ok (.istore 4, 2) := by decide +kernel
theorem dX12_layWay_90 : decode cX12_layWay 90 = .ok (.aload_n 0, 1) := by decide +kernel
theorem dX12_layWay_91 : decode cX12_layWay 91 = .ok (.getfield 60, 3) := by decide +kernel
theorem dX12_layWay_94 : decode cX12_layWay 94 = .ok (.aload_n 0, 1) := by decide +kernel
theorem dX12_layWay_95 : decode cX12_layWay 95 = .ok (.getfield 13, 3) := by decide +kernel
theorem dX12_layWay_98 : decode cX12_layWay 98 = .ok (.iload_n 3, 1) := by decide +kernel
theorem dX12_layWay_99 : decode cX12_layWay 99 = .ok (.iaload, 1) := by decide +kernel
theorem dX12_layWay_100 : decode cX12_layWay 100 = .ok (.aload_n 0, 1) := by decide +kernel
theorem dX12_layWay_101 : decode cX12_layWay 101 = .ok (.getfield 60, 3) := by decide +kernel
theorem dX12_layWay_104 : decode cX12_layWay 104 = .ok (.aload_n 0, 1) := by decide +kernel
theorem dX12_layWay_105 : decode cX12_layWay 105 = .ok (.getfield 17, 3) := by decide +kernel
theorem dX12_layWay_108 : decode cX12_layWay 108 = .ok (.iload_n 3, 1) := by decide +kernel
theorem dX12_layWay_109 : decode cX12_layWay 109 = .ok (.iaload, 1) := by decide +kernel
theorem dX12_layWay_110 : decode cX12_layWay 110 = .ok (.iaload, 1) := by decide +kernel
theorem dX12_layWay_111 : decode cX12_layWay 111 = .ok (.iload 4, 2) := by decide +kernel
theorem dX12_layWay_113 : decode cX12_layWay 113 = .ok (.iadd, 1) := by decide +kernel
theorem dX12_layWay_114 : decode cX12_layWay 114 = .ok (.aload_n 0, 1) := by decide +kernel
theorem dX12_layWay_115 : decode cX12_layWay 115 = .ok (.getfield 60, 3) := by decide +kernel
theorem dX12_layWay_118 : decode cX12_layWay 118 = .ok (.aload_n 0, 1) := by decide +kernel
theorem dX12_layWay_119 : decode cX12_layWay 119 = .ok (.getfield 13, 3) := by decide +kernel
theorem dX12_layWay_122 : decode cX12_layWay 122 = .ok (.iload_n 3, 1) := by decide +kernel
theorem dX12_layWay_123 : decode cX12_layWay 123 = .ok (.iaload, 1) := by decide +kernel
theorem dX12_layWay_124 : decode cX12_layWay 124 = .ok (.iaload, 1) := by decide +kernel
theorem dX12_layWay_125 : decode cX12_layWay 125 = .ok (.if_icmp .ge 20, 3) := by decide +kernel
theorem dX12_layWay_128 : decode cX12_layWay 128 = .ok (.aload_n 0, 1) := by decide +kernel
theorem dX12_layWay_129 : decode cX12_layWay 129 = .ok (.getfield 60, 3) := by decide +kernel
theorem dX12_layWay_132 : decode cX12_layWay 132 = .ok (.aload_n 0, 1) := by decide +kernel
theorem dX12_layWay_133 : decode cX12_layWay 133 = .ok (.getfield 17, 3) := by decide +kernel
theorem dX12_layWay_136 : decode cX12_layWay 136 = .ok (.iload_n 3, 1) := by decide +kernel
theorem dX12_layWay_137 : decode cX12_layWay 137 = .ok (.iaload, 1) := by decide +kernel
theorem dX12_layWay_138 : decode cX12_layWay 138 = .ok (.iaload, 1) := by decide +kernel
theorem dX12_layWay_139 : decode cX12_layWay 139 = .ok (.iload 4, 2) := by decide +kernel
theorem dX12_layWay_141 : decode cX12_layWay 141 = .ok (.iadd, 1) := by decide +kernel
theorem dX12_layWay_142 : decode cX12_layWay 142 = .ok (.goto 14, 3) := by decide +kernel
theorem dX12_layWay_145 : decode cX12_layWay 145 = .ok (.aload_n 0, 1) := by decide +kernel
theorem dX12_layWay_146 : decode cX12_layWay 146 = .ok (.getfield 60, 3) := by decide +kernel
theorem dX12_layWay_149 : decode cX12_layWay 149 = .ok (.aload_n 0, 1) := by decide +kernel
theorem dX12_layWay_150 : decode cX12_layWay 150 = .ok (.getfield 13, 3) := by decide +kernel
theorem dX12_layWay_153 : decode cX12_layWay 153 = .ok (.iload_n 3, 1) := by decide +kernel
theorem dX12_layWay_154 : decode cX12_layWay 154 = .ok (.iaload, 1) := by decide +kernel
theorem dX12_layWay_155 : decode cX12_layWay 155 = .ok (.iaload, 1) := by decide +kernel
theorem dX12_layWay_156 : decode cX12_layWay 156 = .ok (.iastore, 1) := by decide +kernel
theorem dX12_layWay_157 : decode cX12_layWay 157 = .ok (.aload_n 0, 1) := by decide +kernel
theorem dX12_layWay_158 : decode cX12_layWay 158 = .ok (.getfield 60, 3) := by decide +kernel
theorem dX12_layWay_161 : decode cX12_layWay 161 = .ok (.aload_n 0, 1) := by decide +kernel
theorem dX12_layWay_162 : decode cX12_layWay 162 = .ok (.getfield 17, 3) := by decide +kernel
