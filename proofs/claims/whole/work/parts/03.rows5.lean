theorem dX12_layWay_165 : decode cX12_layWay 165 = .ok (.iload_n 3, 1) := by decide +kernel
theorem dX12_layWay_166 : decode cX12_layWay 166 = .ok (.iaload, 1) := by decide +kernel
theorem dX12_layWay_167 : decode cX12_layWay 167 = .ok (.aload_n 0, 1) := by decide +kernel
theorem dX12_layWay_168 : decode cX12_layWay 168 = .ok (.getfield 60, 3) := by decide +kernel
theorem dX12_layWay_171 : decode cX12_layWay 171 = .ok (.aload_n 0, 1) := by decide +kernel
theorem dX12_layWay_172 : decode cX12_layWay 172 = .ok (.getfield 13, 3) := by decide +kernel
theorem dX12_layWay_175 : decode cX12_layWay 175 = .ok (.iload_n 3, 1) := by decide +kernel
theorem dX12_layWay_176 : decode cX12_layWay 176 = .ok (.iaload, 1) := by decide +kernel
theorem dX12_layWay_177 : decode cX12_layWay 177 = .ok (.iaload, 1) := by decide +kernel
theorem dX12_layWay_178 : decode cX12_layWay 178 = .ok (.iload 4, 2) := by decide +kernel
theorem dX12_layWay_180 : decode cX12_layWay 180 = .ok (.iadd, 1) := by decide +kernel
theorem dX12_layWay_181 : decode cX12_layWay 181 = .ok (.aload_n 0, 1) := by decide +kernel
theorem dX12_layWay_182 : decode cX12_layWay 182 = .ok (.getfield 60, 3) := by decide +kernel
theorem dX12_layWay_185 : decode cX12_layWay 185 = .ok (.aload_n 0, 1) := by decide +kernel
theorem dX12_layWay_186 : decode cX12_layWay 186 = .ok (.getfield 17, 3) := by decide +kernel
theorem dX12_layWay_189 : decode cX12_layWay 189 = .ok (.iload_n 3, 1) := by decide +kernel
theorem dX12_layWay_190 : decode cX12_layWay 190 = .ok (.iaload, 1) := by decide +kernel
theorem dX12_layWay_191 : decode cX12_layWay 191 = .ok (.iaload, 1) := by decide +kernel
theorem dX12_layWay_192 : decode cX12_layWay 192 = .ok (.if_icmp .ge 20, 3) := by decide +kernel
theorem dX12_layWay_195 : decode cX12_layWay 195 = .ok (.aload_n 0, 1) := by decide +kernel
theorem dX12_layWay_196 : decode cX12_layWay 196 = .ok (.getfield 60, 3) := by decide +kernel
theorem dX12_layWay_199 : decode cX12_layWay 199 = .ok (.aload_n 0, 1) := by decide +kernel
theorem dX12_layWay_200 : decode cX12_layWay 200 = .ok (.getfield 13, 3) := by decide +kernel
theorem dX12_layWay_203 : decode cX12_layWay 203 = .ok (.iload_n 3, 1) := by decide +kernel
theorem dX12_layWay_204 : decode cX12_layWay 204 = .ok (.iaload, 1) := by decide +kernel
theorem dX12_layWay_205 : decode cX12_layWay 205 = .ok (.iaload, 1) := by decide +kernel
theorem dX12_layWay_206 : decode cX12_layWay 206 = .ok (.iload 4, 2) := by decide +kernel
theorem dX12_layWay_208 : decode cX12_layWay 208 = .ok (.iadd, 1) := by decide +kernel
theorem dX12_layWay_209 : decode cX12_layWay 209 = .ok (.goto 14, 3) := by decide +kernel
theorem dX12_layWay_212 : decode cX12_layWay 212 = .ok (.aload_n 0, 1) := by decide +kernel
theorem dX12_layWay_213 : decode cX12_layWay 213 = .ok (.getfield 60, 3) := by decide +kernel
theorem dX12_layWay_216 : decode cX12_layWay 216 = .ok (.aload_n 0, 1) := by decide +kernel
theorem dX12_layWay_217 : decode cX12_layWay 217 = .ok (.getfield 17, 3) := by decide +kernel
theorem dX12_layWay_220 : decode cX12_layWay 220 = .ok (.iload_n 3, 1) := by decide +kernel
theorem dX12_layWay_221 : decode cX12_layWay 221 = .ok (.iaload, 1) := by decide +kernel
theorem dX12_layWay_222 : decode cX12_layWay 222 = .ok (.iaload, 1) := by decide +kernel
theorem dX12_layWay_223 : decode cX12_layWay 223 = .ok (.iastore, 1) := by decide +kernel
theorem dX12_layWay_224 : decode cX12_layWay 224 = .ok (.iinc 3 1, 3) := by decide +kernel
theorem dX12_layWay_227 : decode cX12_layWay 227 = .ok (.goto (-179), 3) := by decide +kernel
theorem dX12_layWay_230 : decode cX12_layWay 230 = .ok (.iinc 2 1, 3) := by decide +kernel
theorem dX12_layWay_233 : decode cX12_layWay 233 = .ok (.goto (-195), 3) := by decide +kernel
theorem dX12_layWay_236 : decode cX12_layWay 236 = .ok (.aload_n 0, 1) := by decide +kernel
theorem dX12_layWay_237 : decode cX12_layWay 237 = .ok (.iconst 0, 1) := by decide +kernel
theorem dX12_layWay_238 : decode cX12_layWay 238 = .ok (.putfield 234, 3) := by decide +kernel
theorem dX12_layWay_241 : decode cX12_layWay 241 = .ok (.aload_n 0, 1) := by decide +kernel
theorem dX12_layWay_242 : decode cX12_layWay 242 = .ok (.invokevirtual 237, 3) := by decide +kernel
theorem dX12_layWay_245 : decode cX12_layWay 245 = .ok (.istore_n 2, 1) := by decide +kernel
theorem dX12_layWay_246 : decode cX12_layWay 246 = .ok (.aload_n 0, 1) := by decide +kernel
theorem dX12_layWay_247 : decode cX12_layWay 247 = .ok (.getfield 60, 3) := by decide +kernel
theorem dX12_layWay_250 : decode cX12_layWay 250 = .ok (.iload_n 2, 1) := by decide +kernel
theorem dX12_layWay_251 : decode cX12_layWay 251 = .ok (.iaload, 1) := by decide +kernel
theorem dX12_layWay_252 : decode cX12_layWay 252 = .ok (.ldc 229, 2) := by decide +kernel
theorem dX12_layWay_254 : decode cX12_layWay 254 = .ok (.if_icmp .lt 5, 3) := by decide +kernel
theorem dX12_layWay_257 : decode cX12_layWay 257 = .ok (.iconst (-1), 1) := by decide +kernel
theorem dX12_layWay_258 : decode cX12_layWay 258 = .ok (.ireturn, 1) := by decide +kernel
theorem dX12_layWay_259 : decode cX12_layWay 259 = .ok (.iload_n 2, 1) := by decide +kernel
theorem dX12_layWay_260 : decode cX12_layWay 260 = .ok (.aload_n 0, 1) := by decide +kernel
theorem dX12_layWay_261 : decode cX12_layWay 261 = .ok (.invokevirtual 225, 3) := by decide +kernel
theorem dX12_layWay_264 : decode cX12_layWay 264 = .ok (.if_icmp .eq 132, 3) := by decide +kernel
theorem dX12_layWay_267 : decode cX12_layWay 267 = .ok (.iconst (-1), 1) := by decide +kernel
theorem dX12_layWay_268 : decode cX12_layWay 268 = .ok (.istore_n 3, 1) := by decide +kernel
theorem dX12_layWay_269 : decode cX12_layWay 269 = .ok (.aload_n 0, 1) := by decide +kernel
theorem dX12_layWay_270 : decode cX12_layWay 270 = .ok (.getfield 97, 3) := by decide +kernel
theorem dX12_layWay_273 : decode cX12_layWay 273 = .ok (.iconst 1, 1) := by decide +kernel
theorem dX12_layWay_274 : decode cX12_layWay 274 = .ok (.isub, 1) := by decide +kernel
theorem dX12_layWay_275 : decode cX12_layWay 275 = .ok (.istore 4, 2) := by decide +kernel
theorem dX12_layWay_277 : decode cX12_layWay 277 = .ok (.iload 4, 2) := by decide +kernel
theorem dX12_layWay_279 : decode cX12_layWay 279 = .ok (.ifCond .lt 87, 3) := by decide +kernel
theorem dX12_layWay_282 : decode cX12_layWay 282 = .ok (.aload_n 0, 1) := by decide +kernel
theorem dX12_layWay_283 : decode cX12_layWay 283 = .ok (.getfield 20, 3) := by decide +kernel
theorem dX12_layWay_286 : decode cX12_layWay 286 = .ok (.iload 4, 2) := by decide +kernel
theorem dX12_layWay_288 : decode cX12_layWay 288 = .ok (.iaload, 1) := by decide +kernel
theorem dX12_layWay_289 : decode cX12_layWay 289 = .ok (.iload_n 1, 1) := by decide +kernel
theorem dX12_layWay_290 : decode cX12_layWay 290 = .ok (.iload 4, 2) := by decide +kernel
theorem dX12_layWay_292 : decode cX12_layWay 292 = .ok (.invokestatic 230, 3) := by decide +kernel
theorem dX12_layWay_295 : decode cX12_layWay 295 = .ok (.ifCond .eq 10, 3) := by decide +kernel
theorem dX12_layWay_298 : decode cX12_layWay 298 = .ok (.aload_n 0, 1) := by decide +kernel
theorem dX12_layWay_299 : decode cX12_layWay 299 = .ok (.getfield 35, 3) := by decide +kernel
theorem dX12_layWay_302 : decode cX12_layWay 302 = .ok (.goto 4, 3) := by decide +kernel
theorem dX12_layWay_305 : decode cX12_layWay 305 = .ok (.iconst 0, 1) := by decide +kernel
theorem dX12_layWay_306 : decode cX12_layWay 306 = .ok (.iadd, 1) := by decide +kernel
theorem dX12_layWay_307 : decode cX12_layWay 307 = .ok (.istore 5, 2) := by decide +kernel
theorem dX12_layWay_309 : decode cX12_layWay 309 = .ok (.aload_n 0, 1) := by decide +kernel
theorem dX12_layWay_310 : decode cX12_layWay 310 = .ok (.iload 4, 2) := by decide +kernel
theorem dX12_layWay_312 : decode cX12_layWay 312 = .ok (.iload_n 2, 1) := by decide +kernel
theorem dX12_layWay_313 : decode cX12_layWay 313 = .ok (.invokevirtual 240, 3) := by decide +kernel
theorem dX12_layWay_316 : decode cX12_layWay 316 = .ok (.istore 6, 2) := by decide +kernel
theorem dX12_layWay_318 : decode cX12_layWay 318 = .ok (.aload_n 0, 1) := by decide +kernel
theorem dX12_layWay_319 : decode cX12_layWay 319 = .ok (.getfield 44, 3) := by decide +kernel
theorem dX12_layWay_322 : decode cX12_layWay 322 = .ok (.iload 4, 2) := by decide +kernel
theorem dX12_layWay_324 : decode cX12_layWay 324 = .ok (.iaload, 1) := by decide +kernel
theorem dX12_layWay_325 : decode cX12_layWay 325 = .ok (.ifCond .ne 33, 3) := by decide +kernel
theorem dX12_layWay_328 : decode cX12_layWay 328 = .ok (.iload 6, 2) := by decide +kernel
theorem dX12_layWay_330 : decode cX12_layWay 330 = .ok (.iconst (-1), 1) := by decide +kernel
theorem dX12_layWay_331 : decode cX12_layWay 331 = .ok (.if_icmp .eq 27, 3) := by decide +kernel
theorem dX12_layWay_334 : decode cX12_layWay 334 = .ok (.aload_n 0, 1) := by decide +kernel
theorem dX12_layWay_335 : decode cX12_layWay 335 = .ok (.getfield 60, 3) := by decide +kernel
theorem dX12_layWay_338 : decode cX12_layWay 338 = .ok (.iload 6, 2) := by decide +kernel
theorem dX12_layWay_340 : decode cX12_layWay 340 = .ok (.iaload, 1) := by decide +kernel
theorem dX12_layWay_341 : decode cX12_layWay 341 = .ok (.iload 5, 2) := by decide +kernel
theorem dX12_layWay_343 : decode cX12_layWay 343 = .ok (.iadd, 1) := by decide +kernel
theorem dX12_layWay_344 : decode cX12_layWay 344 = .ok (.aload_n 0, 1) := by decide +kernel
theorem dX12_layWay_345 : decode cX12_layWay 345 = .ok (.getfield 60, 3) := by decide +kernel
theorem dX12_layWay_348 : decode cX12_layWay 348 = .ok (.iload_n 2, 1) := by decide +kernel
theorem dX12_layWay_349 : decode cX12_layWay 349 = .ok (.iaload, 1) := by decide +kernel
theorem dX12_layWay_350 : decode cX12_layWay 350 = .ok (.if_icmp .ne 8, 3) := by decide +kernel
theorem dX12_layWay_353 : decode cX12_layWay 353 = .ok (.iload 4, 2) := by decide +kernel
theorem dX12_layWay_355 : decode cX12_layWay 355 = .ok (.goto 4, 3) := by decide +kernel
theorem dX12_layWay_358 : decode cX12_layWay 358 = .ok (.iload_n 3, 1) := by decide +kernel
theorem dX12_layWay_359 : decode cX12_layWay 359 = .ok (.istore_n 3, 1) := by decide +kernel
theorem dX12_layWay_360 : decode cX12_layWay 360 = .ok (.iinc 4 (-1), 3) := by decide +kernel
theorem dX12_layWay_363 : decode cX12_layWay 363 = .ok (.goto (-86), 3) := by decide +kernel
theorem dX12_layWay_366 : decode cX12_layWay 366 = .ok (.aload_n 0, 1) := by decide +kernel
theorem dX12_layWay_367 : decode cX12_layWay 367 = .ok (.getfield 63, 3) := by decide +kernel
theorem dX12_layWay_370 : decode cX12_layWay 370 = .ok (.aload_n 0, 1) := by decide +kernel
theorem dX12_layWay_371 : decode cX12_layWay 371 = .ok (.getfield 234, 3) := by decide +kernel
theorem dX12_layWay_374 : decode cX12_layWay 374 = .ok (.iload_n 3, 1) := by decide +kernel
theorem dX12_layWay_375 : decode cX12_layWay 375 = .ok (.iastore, 1) := by decide +kernel
theorem dX12_layWay_376 : decode cX12_layWay 376 = .ok (.aload_n 0, 1) := by decide +kernel
theorem dX12_layWay_377 : decode cX12_layWay 377 = .ok (.dup, 1) := by decide +kernel
theorem dX12_layWay_378 : decode cX12_layWay 378 = .ok (.getfield 234, 3) := by decide +kernel
theorem dX12_layWay_381 : decode cX12_layWay 381 = .ok (.iconst 1, 1) := by decide +kernel
theorem dX12_layWay_382 : decode cX12_layWay 382 = .ok (.iadd, 1) := by decide +kernel
theorem dX12_layWay_383 : decode cX12_layWay 383 = .ok (.putfield 234, 3) := by decide +kernel
theorem dX12_layWay_386 : decode cX12_layWay 386 = .ok (.aload_n 0, 1) := by decide +kernel
theorem dX12_layWay_387 : decode cX12_layWay 387 = .ok (.iload_n 3, 1) := by decide +kernel
theorem dX12_layWay_388 : decode cX12_layWay 388 = .ok (.iload_n 2, 1) := by decide +kernel
theorem dX12_layWay_389 : decode cX12_layWay 389 = .ok (.invokevirtual 240, 3) := by decide +kernel
theorem dX12_layWay_392 : decode cX12_layWay 392 = .ok (.istore_n 2, 1) := by decide +kernel
theorem dX12_layWay_393 : decode cX12_layWay 393 = .ok (.goto (-134), 3) := by decide +kernel
theorem dX12_layWay_396 : decode cX12_layWay 396 = .ok (.aload_n 0, 1) := by decide +kernel
theorem dX12_layWay_397 : decode cX12_layWay 397 = .ok (.getfield 60, 3) := by decide +kernel
theorem dX12_layWay_400 : decode cX12_layWay 400 = .ok (.aload_n 0, 1) := by decide +kernel
theorem dX12_layWay_401 : decode cX12_layWay 401 = .ok (.invokevirtual 237, 3) := by decide +kernel
theorem dX12_layWay_404 : decode cX12_layWay 404 = .ok (.iaload, 1) := by decide +kernel
theorem dX12_layWay_405 : decode cX12_layWay 405 = .ok (.ireturn, 1) := by decide +kernel
theorem dX12_picked_0 : decode cX12_picked 0 = .ok (.aload_n 0, 1) := by decide +kernel
theorem dX12_picked_1 : decode cX12_picked 1 = .ok (.getfield 234, 3) := by decide +kernel
theorem dX12_picked_4 : decode cX12_picked 4 = .ok (.ifCond .ne 5, 3) := by decide +kernel
theorem dX12_picked_7 : decode cX12_picked 7 = .ok (.iconst (-1), 1) := by decide +kernel
theorem dX12_picked_8 : decode cX12_picked 8 = .ok (.ireturn, 1) := by decide +kernel
theorem dX12_picked_9 : decode cX12_picked 9 = .ok (.aload_n 0, 1) := by decide +kernel
theorem dX12_picked_10 : decode cX12_picked 10 = .ok (.getfield 63, 3) := by decide +kernel
theorem dX12_picked_13 : decode cX12_picked 13 = .ok (.iconst 0, 1) := by decide +kernel
theorem dX12_picked_14 : decode cX12_picked 14 = .ok (.iaload, 1) := by decide +kernel
theorem dX12_picked_15 : decode cX12_picked 15 = .ok (.istore_n 1, 1) := by decide +kernel
theorem dX12_picked_16 : decode cX12_picked 16 = .ok (.iconst 1, 1) := by decide +kernel
theorem dX12_picked_17 : decode cX12_picked 17 = .ok (.istore_n 2, 1) := by decide +kernel
theorem dX12_picked_18 : decode cX12_picked 18 = .ok (.iload_n 2, 1) := by decide +kernel
theorem dX12_picked_19 : decode cX12_picked 19 = .ok (.aload_n 0, 1) := by decide +kernel
theorem dX12_picked_20 : decode cX12_picked 20 = .ok (.getfield 234, 3) := by decide +kernel
theorem dX12_picked_23 : decode cX12_picked 23 = .ok (.if_icmp .ge 110, 3) := by decide +kernel
theorem dX12_picked_26 : decode cX12_picked 26 = .ok (.aload_n 0, 1) := by decide +kernel
theorem dX12_picked_27 : decode cX12_picked 27 = .ok (.getfield 63, 3) := by decide +kernel
theorem dX12_picked_30 : decode cX12_picked 30 = .ok (.iload_n 2, 1) := by decide +kernel
theorem dX12_picked_31 : decode cX12_picked 31 = .ok (.iaload, 1) := by decide +kernel
theorem dX12_picked_32 : decode cX12_picked 32 = .ok (.istore_n 3, 1) := by decide +kernel
theorem dX12_picked_33 : decode cX12_picked 33 = .ok (.aload_n 0, 1) := by decide +kernel
theorem dX12_picked_34 : decode cX12_picked 34 = .ok (.getfield 20, 3) := by decide +kernel
theorem dX12_picked_37 : decode cX12_picked 37 = .ok (.iload_n 3, 1) := by decide +kernel
theorem dX12_picked_38 : decode cX12_picked 38 = .ok (.iaload, 1) := by decide +kernel
theorem dX12_picked_39 : decode cX12_picked 39 = .ok (.aload_n 0, 1) := by decide +kernel
theorem dX12_picked_40 : decode cX12_picked 40 = .ok (.getfield 20, 3) := by decide +kernel
theorem dX12_picked_43 : decode cX12_picked 43 = .ok (.iload_n 1, 1) := by decide +kernel
theorem dX12_picked_44 : decode cX12_picked 44 = .ok (.iaload, 1) := by decide +kernel
theorem dX12_picked_45 : decode cX12_picked 45 = .ok (.if_icmp .gt 23, 3) := by decide +kernel
theorem dX12_picked_48 : decode cX12_picked 48 = .ok (.aload_n 0, 1) := by decide +kernel
theorem dX12_picked_49 : decode cX12_picked 49 = .ok (.getfield 20, 3) := by decide +kernel
theorem dX12_picked_52 : decode cX12_picked 52 = .ok (.iload_n 3, 1) := by decide +kernel
theorem dX12_picked_53 : decode cX12_picked 53 = .ok (.iaload, 1) := by decide +kernel
theorem dX12_picked_54 : decode cX12_picked 54 = .ok (.aload_n 0, 1) := by decide +kernel
theorem dX12_picked_55 : decode cX12_picked 55 = .ok (.getfield 20, 3) := by decide +kernel
theorem dX12_picked_58 : decode cX12_picked 58 = .ok (.iload_n 1, 1) := by decide +kernel
theorem dX12_picked_59 : decode cX12_picked 59 = .ok (.iaload, 1) := by decide +kernel
theorem dX12_picked_60 : decode cX12_picked 60 = .ok (.if_icmp .ne 12, 3) := by decide +kernel
theorem dX12_picked_63 : decode cX12_picked 63 = .ok (.iload_n 3, 1) := by decide +kernel
theorem dX12_picked_64 : decode cX12_picked 64 = .ok (.iload_n 1, 1) := by decide +kernel
theorem dX12_picked_65 : decode cX12_picked 65 = .ok (.if_icmp .ge 7, 3) := by decide +kernel
theorem dX12_picked_68 : decode cX12_picked 68 = .ok (.iconst 1, 1) := by decide +kernel
theorem dX12_picked_69 : decode cX12_picked 69 = .ok (.goto 4, 3) := by decide +kernel
theorem dX12_picked_72 : decode cX12_picked 72 = .ok (.iconst 0, 1) := by decide +kernel
theorem dX12_picked_73 : decode cX12_picked 73 = .ok (.istore 4, 2) := by decide +kernel
theorem dX12_picked_75 : decode cX12_picked 75 = .ok (.aload_n 0, 1) := by decide +kernel
theorem dX12_picked_76 : decode cX12_picked 76 = .ok (.getfield 104, 3) := by decide +kernel
theorem dX12_picked_79 : decode cX12_picked 79 = .ok (.iconst 1, 1) := by decide +kernel
theorem dX12_picked_80 : decode cX12_picked 80 = .ok (.if_icmp .eq 29, 3) := by decide +kernel
theorem dX12_picked_83 : decode cX12_picked 83 = .ok (.aload_n 0, 1) := by decide +kernel
theorem dX12_picked_84 : decode cX12_picked 84 = .ok (.getfield 104, 3) := by decide +kernel
theorem dX12_picked_87 : decode cX12_picked 87 = .ok (.iconst 2, 1) := by decide +kernel
theorem dX12_picked_88 : decode cX12_picked 88 = .ok (.if_icmp .ne 8, 3) := by decide +kernel
theorem dX12_picked_91 : decode cX12_picked 91 = .ok (.iload 4, 2) := by decide +kernel
theorem dX12_picked_93 : decode cX12_picked 93 = .ok (.ifCond .ne 16, 3) := by decide +kernel
theorem dX12_picked_96 : decode cX12_picked 96 = .ok (.aload_n 0, 1) := by decide +kernel
theorem dX12_picked_97 : decode cX12_picked 97 = .ok (.getfield 104, 3) := by decide +kernel
theorem dX12_picked_100 : decode cX12_picked 100 = .ok (.iconst 3, 1) := by decide +kernel
theorem dX12_picked_101 : decode cX12_picked 101 = .ok (.if_icmp .ne 12, 3) := by decide +kernel
theorem dX12_picked_104 : decode cX12_picked 104 = .ok (.iload_n 3, 1) := by decide +kernel
theorem dX12_picked_105 : decode cX12_picked 105 = .ok (.iload_n 1, 1) := by decide +kernel
theorem dX12_picked_106 : decode cX12_picked 106 = .ok (.if_icmp .ge 7, 3) := by decide +kernel
theorem dX12_picked_109 : decode cX12_picked 109 = .ok (.iconst 1, 1) := by decide +kernel
theorem dX12_picked_110 : decode cX12_picked 110 = .ok (.goto 4, 3) := by decide +kernel
theorem dX12_picked_113 : decode cX12_picked 113 = .ok (.iconst 0, 1) := by decide +kernel
theorem dX12_picked_114 : decode cX12_picked 114 = .ok (.istore 5, 2) := by decide +kernel
theorem dX12_picked_116 : decode cX12_picked 116 = .ok (.iload 5, 2) := by decide +kernel
theorem dX12_picked_118 : decode cX12_picked 118 = .ok (.ifCond .eq 7, 3) := by decide +kernel
theorem dX12_picked_121 : decode cX12_picked 121 = .ok (.iload_n 3, 1) := by decide +kernel
theorem dX12_picked_122 : decode cX12_picked 122 = .ok (.goto 4, 3) := by decide +kernel
theorem dX12_picked_125 : decode cX12_picked 125 = .ok (.iload_n 1, 1) := by decide +kernel
theorem dX12_picked_126 : decode cX12_picked 126 = .ok (.istore_n 1, 1) := by decide +kernel
theorem dX12_picked_127 : decode cX12_picked 127 = .ok (.iinc 2 1, 3) := by decide +kernel
theorem dX12_picked_130 : decode cX12_picked 130 = .ok (.goto (-112), 3) := by decide +kernel
theorem dX12_picked_133 : decode cX12_picked 133 = .ok (.iload_n 1, 1) := by decide +kernel
theorem dX12_picked_134 : decode cX12_picked 134 = .ok (.ireturn, 1) := by decide +kernel
theorem dX12_shutOne_0 : decode cX12_shutOne 0 = .ok (.iconst 0, 1) := by decide +kernel
theorem dX12_shutOne_1 : decode cX12_shutOne 1 = .ok (.istore_n 2, 1) := by decide +kernel
theorem dX12_shutOne_2 : decode cX12_shutOne 2 = .ok (.iload_n 2, 1) := by decide +kernel
theorem dX12_shutOne_3 : decode cX12_shutOne 3 = .ok (.aload_n 0, 1) := by decide +kernel
theorem dX12_shutOne_4 : decode cX12_shutOne 4 = .ok (.getfield 97, 3) := by decide +kernel
theorem dX12_shutOne_7 : decode cX12_shutOne 7 = .ok (.if_icmp .ge 48, 3) := by decide +kernel
theorem dX12_shutOne_10 : decode cX12_shutOne 10 = .ok (.aload_n 0, 1) := by decide +kernel
theorem dX12_shutOne_11 : decode cX12_shutOne 11 = .ok (.getfield 44, 3) := by decide +kernel
theorem dX12_shutOne_14 : decode cX12_shutOne 14 = .ok (.iload_n 2, 1) := by decide +kernel
theorem dX12_shutOne_15 : decode cX12_shutOne 15 = .ok (.iload_n 2, 1) := by decide +kernel
theorem dX12_shutOne_16 : decode cX12_shutOne 16 = .ok (.iload_n 1, 1) := by decide +kernel
theorem dX12_shutOne_17 : decode cX12_shutOne 17 = .ok (.if_icmp .ne 10, 3) := by decide +kernel
theorem dX12_shutOne_20 : decode cX12_shutOne 20 = .ok (.aload_n 0, 1) := by decide +kernel
theorem dX12_shutOne_21 : decode cX12_shutOne 21 = .ok (.getfield 29, 3) := by decide +kernel
theorem dX12_shutOne_24 : decode cX12_shutOne 24 = .ok (.goto 24, 3) := by decide +kernel
theorem dX12_shutOne_27 : decode cX12_shutOne 27 = .ok (.aload_n 0, 1) := by decide +kernel
theorem dX12_shutOne_28 : decode cX12_shutOne 28 = .ok (.getfield 44, 3) := by decide +kernel
theorem dX12_shutOne_31 : decode cX12_shutOne 31 = .ok (.iload_n 2, 1) := by decide +kernel
theorem dX12_shutOne_32 : decode cX12_shutOne 32 = .ok (.iaload, 1) := by decide +kernel
theorem dX12_shutOne_33 : decode cX12_shutOne 33 = .ok (.ifCond .le 14, 3) := by decide +kernel
theorem dX12_shutOne_36 : decode cX12_shutOne 36 = .ok (.aload_n 0, 1) := by decide +kernel
theorem dX12_shutOne_37 : decode cX12_shutOne 37 = .ok (.getfield 44, 3) := by decide +kernel
theorem dX12_shutOne_40 : decode cX12_shutOne 40 = .ok (.iload_n 2, 1) := by decide +kernel
theorem dX12_shutOne_41 : decode cX12_shutOne 41 = .ok (.iaload, 1) := by decide +kernel
theorem dX12_shutOne_42 : decode cX12_shutOne 42 = .ok (.iconst 1, 1) := by decide +kernel
theorem dX12_shutOne_43 : decode cX12_shutOne 43 = .ok (.isub, 1) := by decide +kernel
theorem dX12_shutOne_44 : decode cX12_shutOne 44 = .ok (.goto 4, 3) := by decide +kernel
theorem dX12_shutOne_47 : decode cX12_shutOne 47 = .ok (.iconst 0, 1) := by decide +kernel
theorem dX12_shutOne_48 : decode cX12_shutOne 48 = .ok (.iastore, 1) := by decide +kernel
theorem dX12_shutOne_49 : decode cX12_shutOne 49 = .ok (.iinc 2 1, 3) := by decide +kernel
theorem dX12_shutOne_52 : decode cX12_shutOne 52 = .ok (.goto (-50), 3) := by decide +kernel
theorem dX12_shutOne_55 : decode cX12_shutOne 55 = .ok (.aload_n 0, 1) := by decide +kernel
theorem dX12_shutOne_56 : decode cX12_shutOne 56 = .ok (.dup, 1) := by decide +kernel
theorem dX12_shutOne_57 : decode cX12_shutOne 57 = .ok (.getfield 213, 3) := by decide +kernel
theorem dX12_shutOne_60 : decode cX12_shutOne 60 = .ok (.iconst 1, 1) := by decide +kernel
theorem dX12_shutOne_61 : decode cX12_shutOne 61 = .ok (.iadd, 1) := by decide +kernel
theorem dX12_shutOne_62 : decode cX12_shutOne 62 = .ok (.putfield 213, 3) := by decide +kernel
theorem dX12_shutOne_65 : decode cX12_shutOne 65 = .ok (.return_, 1) := by decide +kernel
set_option maxRecDepth 20000 in
theorem ggX12_goNight_X12_layWay : GoodIn wsX12_goNight wsX12_layWay := goodIn_r _ [5, 6, 7, 8, 9, 10, 11, 12, 13, 14, 15, 16, 17, 18, 19, 4, 20, 21, 22, 23, 24, 25, 26, 27, 28, 29, 30, 31, 32, 33, 34, 45, 46, 47, 48, 49, 50, 51, 52, 53, 54, 55, 56, 57, 58, 59, 60, 61, 62, 63, 64, 65, 66, 67, 68, 69, 70, 71, 72, 73, 74, 75, 76, 77, 78, 79, 80, 81, 82, 83, 84, 85, 86, 87, 88] (by decide +kernel) (by decide +kernel)
set_option maxRecDepth 20000 in
theorem gX12_goNight_X12_layWay : GoodIn wsX12_goNight (wsV RX12 244 RX12 yX12_layWay wsX12_layWay) := goodIn_app (goodIn_of _ (by decide +kernel)) ggX12_goNight_X12_layWay
set_option maxRecDepth 20000 in
theorem ggX12_goNight_X12_picked : GoodIn wsX12_goNight wsX12_picked := goodIn_r _ [38, 15, 16, 11, 39, 45, 46, 47, 48, 49, 50, 51, 52, 53, 54, 55, 56, 57, 58, 59, 60, 61, 62, 63, 64, 65, 66, 67, 68, 69, 70, 71, 72, 73, 74, 75, 76, 77, 78, 79, 80, 81, 82, 83, 84, 85, 86, 87, 88] (by decide +kernel) (by decide +kernel)
set_option maxRecDepth 20000 in
theorem gX12_goNight_X12_picked : GoodIn wsX12_goNight (wsV RX12 248 RX12 yX12_picked wsX12_picked) := goodIn_app (goodIn_of _ (by decide +kernel)) ggX12_goNight_X12_picked
set_option maxRecDepth 20000 in
theorem ggX12_goNight_X12_shutOne : GoodIn wsX12_goNight wsX12_shutOne := goodIn_r _ [43, 9, 10, 44, 22, 45, 46, 47, 48, 49, 50, 51, 52, 53, 54, 55, 56, 57, 58, 59, 60, 61, 62, 63, 64, 65, 66, 67, 68, 69, 70, 71, 72, 73, 74, 75, 76, 77, 78, 79, 80, 81, 82, 83, 84, 85, 86, 87, 88] (by decide +kernel) (by decide +kernel)
set_option maxRecDepth 20000 in
theorem gX12_goNight_X12_shutOne : GoodIn wsX12_goNight (wsV RX12 251 RX12 yX12_shutOne wsX12_shutOne) := goodIn_app (goodIn_of _ (by decide +kernel)) ggX12_goNight_X12_shutOne
theorem dX12_goNight_0 : decode cX12_goNight 0 = .ok (.aload_n 0, 1) := by decide +kernel
theorem dX12_goNight_1 : decode cX12_goNight 1 = .ok (.iconst 0, 1) := by decide +kernel
theorem dX12_goNight_2 : decode cX12_goNight 2 = .ok (.invokevirtual 244, 3) := by decide +kernel
theorem dX12_goNight_5 : decode cX12_goNight 5 = .ok (.istore_n 1, 1) := by decide +kernel
theorem dX12_goNight_6 : decode cX12_goNight 6 = .ok (.aload_n 0, 1) := by decide +kernel
theorem dX12_goNight_7 : decode cX12_goNight 7 = .ok (.aload_n 0, 1) := by decide +kernel
theorem dX12_goNight_8 : decode cX12_goNight 8 = .ok (.invokevirtual 248, 3) := by decide +kernel
theorem dX12_goNight_11 : decode cX12_goNight 11 = .ok (.invokevirtual 251, 3) := by decide +kernel
theorem dX12_goNight_14 : decode cX12_goNight 14 = .ok (.iload_n 1, 1) := by decide +kernel
theorem dX12_goNight_15 : decode cX12_goNight 15 = .ok (.ireturn, 1) := by decide +kernel
theorem dX12_putAside_0 : decode cX12_putAside 0 = .ok (.aload_n 0, 1) := by decide +kernel
theorem dX12_putAside_1 : decode cX12_putAside 1 = .ok (.getfield 47, 3) := by decide +kernel
theorem dX12_putAside_4 : decode cX12_putAside 4 = .ok (.bipush 16, 2) := by decide +kernel
theorem dX12_putAside_6 : decode cX12_putAside 6 = .ok (.aload_n 0, 1) := by decide +kernel
theorem dX12_putAside_7 : decode cX12_putAside 7 = .ok (.getfield 213, 3) := by decide +kernel
theorem dX12_putAside_10 : decode cX12_putAside 10 = .ok (.iastore, 1) := by decide +kernel
theorem dX12_putAside_11 : decode cX12_putAside 11 = .ok (.iconst 0, 1) := by decide +kernel
theorem dX12_putAside_12 : decode cX12_putAside 12 = .ok (.istore_n 1, 1) := by decide +kernel
theorem dX12_putAside_13 : decode cX12_putAside 13 = .ok (.iload_n 1, 1) := by decide +kernel
theorem dX12_putAside_14 : decode cX12_putAside 14 = .ok (.bipush 16, 2) := by decide +kernel
theorem dX12_putAside_16 : decode cX12_putAside 16 = .ok (.if_icmp .ge 21, 3) := by decide +kernel
theorem dX12_putAside_19 : decode cX12_putAside 19 = .ok (.aload_n 0, 1) := by decide +kernel
theorem dX12_putAside_20 : decode cX12_putAside 20 = .ok (.getfield 47, 3) := by decide +kernel
theorem dX12_putAside_23 : decode cX12_putAside 23 = .ok (.iload_n 1, 1) := by decide +kernel
theorem dX12_putAside_24 : decode cX12_putAside 24 = .ok (.aload_n 0, 1) := by decide +kernel
theorem dX12_putAside_25 : decode cX12_putAside 25 = .ok (.getfield 44, 3) := by decide +kernel
theorem dX12_putAside_28 : decode cX12_putAside 28 = .ok (.iload_n 1, 1) := by decide +kernel
theorem dX12_putAside_29 : decode cX12_putAside 29 = .ok (.iaload, 1) := by decide +kernel
theorem dX12_putAside_30 : decode cX12_putAside 30 = .ok (.iastore, 1) := by decide +kernel
theorem dX12_putAside_31 : decode cX12_putAside 31 = .ok (.iinc 1 1, 3) := by decide +kernel
theorem dX12_putAside_34 : decode cX12_putAside 34 = .ok (.goto (-21), 3) := by decide +kernel
theorem dX12_putAside_37 : decode cX12_putAside 37 = .ok (.return_, 1) := by decide +kernel
theorem dX12_putBack_0 : decode cX12_putBack 0 = .ok (.aload_n 0, 1) := by decide +kernel
theorem dX12_putBack_1 : decode cX12_putBack 1 = .ok (.aload_n 0, 1) := by decide +kernel
theorem dX12_putBack_2 : decode cX12_putBack 2 = .ok (.getfield 47, 3) := by decide +kernel
theorem dX12_putBack_5 : decode cX12_putBack 5 = .ok (.bipush 16, 2) := by decide +kernel
theorem dX12_putBack_7 : decode cX12_putBack 7 = .ok (.iaload, 1) := by decide +kernel
theorem dX12_putBack_8 : decode cX12_putBack 8 = .ok (.putfield 213, 3) := by decide +kernel
theorem dX12_putBack_11 : decode cX12_putBack 11 = .ok (.aload_n 0, 1) := by decide +kernel
theorem dX12_putBack_12 : decode cX12_putBack 12 = .ok (.aload_n 0, 1) := by decide +kernel
theorem dX12_putBack_13 : decode cX12_putBack 13 = .ok (.getfield 90, 3) := by decide +kernel
theorem dX12_putBack_16 : decode cX12_putBack 16 = .ok (.putfield 97, 3) := by decide +kernel
theorem dX12_putBack_19 : decode cX12_putBack 19 = .ok (.iconst 0, 1) := by decide +kernel
theorem dX12_putBack_20 : decode cX12_putBack 20 = .ok (.istore_n 1, 1) := by decide +kernel
theorem dX12_putBack_21 : decode cX12_putBack 21 = .ok (.iload_n 1, 1) := by decide +kernel
theorem dX12_putBack_22 : decode cX12_putBack 22 = .ok (.bipush 16, 2) := by decide +kernel
theorem dX12_putBack_24 : decode cX12_putBack 24 = .ok (.if_icmp .ge 21, 3) := by decide +kernel
theorem dX12_putBack_27 : decode cX12_putBack 27 = .ok (.aload_n 0, 1) := by decide +kernel
theorem dX12_putBack_28 : decode cX12_putBack 28 = .ok (.getfield 44, 3) := by decide +kernel
theorem dX12_putBack_31 : decode cX12_putBack 31 = .ok (.iload_n 1, 1) := by decide +kernel
theorem dX12_putBack_32 : decode cX12_putBack 32 = .ok (.aload_n 0, 1) := by decide +kernel
theorem dX12_putBack_33 : decode cX12_putBack 33 = .ok (.getfield 47, 3) := by decide +kernel
theorem dX12_putBack_36 : decode cX12_putBack 36 = .ok (.iload_n 1, 1) := by decide +kernel
theorem dX12_putBack_37 : decode cX12_putBack 37 = .ok (.iaload, 1) := by decide +kernel
theorem dX12_putBack_38 : decode cX12_putBack 38 = .ok (.iastore, 1) := by decide +kernel
theorem dX12_putBack_39 : decode cX12_putBack 39 = .ok (.iinc 1 1, 3) := by decide +kernel
theorem dX12_putBack_42 : decode cX12_putBack 42 = .ok (.goto (-21), 3) := by decide +kernel
theorem dX12_putBack_45 : decode cX12_putBack 45 = .ok (.return_, 1) := by decide +kernel
set_option maxRecDepth 20000 in
theorem ggX12_as_X12_in : GoodIn wsX12_as wsX12_in := goodIn_r _ [5] (by decide +kernel) (by decide +kernel)
set_option maxRecDepth 20000 in
theorem gX12_as_X12_in : GoodIn wsX12_as (va_wsS RX12 93 yX12_in wsX12_in) := goodIn_app (goodIn_of _ (by decide +kernel)) ggX12_as_X12_in
set_option maxRecDepth 20000 in
theorem ggX12_as_X12_layWay : GoodIn wsX12_as wsX12_layWay := goodIn_r _ [9, 10, 11, 12, 13, 14, 15, 16, 17, 18, 19, 20, 21, 22, 23, 4, 24, 25, 26, 27, 28, 29, 30, 31, 32, 33, 34, 35, 36, 37, 38, 43, 44, 45, 46, 47, 48, 49, 50, 51, 52, 53, 54, 55, 56, 57, 58, 59, 60, 61, 62, 63, 64, 65, 66, 67, 68, 69, 70, 71, 72, 73, 74, 75, 76, 77, 78, 79, 80, 81, 82, 83, 84, 85, 86] (by decide +kernel) (by decide +kernel)
set_option maxRecDepth 20000 in
theorem gX12_as_X12_layWay : GoodIn wsX12_as (wsV RX12 244 RX12 yX12_layWay wsX12_layWay) := goodIn_app (goodIn_of _ (by decide +kernel)) ggX12_as_X12_layWay
set_option maxRecDepth 20000 in
theorem ggX12_as_X12_picked : GoodIn wsX12_as wsX12_picked := goodIn_r _ [42, 19, 20, 15, 1, 43, 44, 45, 46, 47, 48, 49, 50, 51, 52, 53, 54, 55, 56, 57, 58, 59, 60, 61, 62, 63, 64, 65, 66, 67, 68, 69, 70, 71, 72, 73, 74, 75, 76, 77, 78, 79, 80, 81, 82, 83, 84, 85, 86] (by decide +kernel) (by decide +kernel)
set_option maxRecDepth 20000 in
theorem gX12_as_X12_picked : GoodIn wsX12_as (wsV RX12 248 RX12 yX12_picked wsX12_picked) := goodIn_app (goodIn_of _ (by decide +kernel)) ggX12_as_X12_picked
theorem dX12_as_0 : decode cX12_as 0 = .ok (.iload_n 1, 1) := by decide +kernel
theorem dX12_as_1 : decode cX12_as 1 = .ok (.iconst 0, 1) := by decide +kernel
theorem dX12_as_2 : decode cX12_as 2 = .ok (.iconst 4, 1) := by decide +kernel
theorem dX12_as_3 : decode cX12_as 3 = .ok (.invokestatic 93, 3) := by decide +kernel
theorem dX12_as_6 : decode cX12_as 6 = .ok (.ifCond .ne 6, 3) := by decide +kernel
theorem dX12_as_9 : decode cX12_as 9 = .ok (.bipush (-3), 2) := by decide +kernel
theorem dX12_as_11 : decode cX12_as 11 = .ok (.ireturn, 1) := by decide +kernel
theorem dX12_as_12 : decode cX12_as 12 = .ok (.iload_n 1, 1) := by decide +kernel
theorem dX12_as_13 : decode cX12_as 13 = .ok (.ifCond .eq 59, 3) := by decide +kernel
theorem dX12_as_16 : decode cX12_as 16 = .ok (.iload_n 1, 1) := by decide +kernel
theorem dX12_as_17 : decode cX12_as 17 = .ok (.iconst 1, 1) := by decide +kernel
theorem dX12_as_18 : decode cX12_as 18 = .ok (.if_icmp .ne 14, 3) := by decide +kernel
theorem dX12_as_21 : decode cX12_as 21 = .ok (.aload_n 0, 1) := by decide +kernel
theorem dX12_as_22 : decode cX12_as 22 = .ok (.getfield 104, 3) := by decide +kernel
theorem dX12_as_25 : decode cX12_as 25 = .ok (.iconst 2, 1) := by decide +kernel
theorem dX12_as_26 : decode cX12_as 26 = .ok (.if_icmp .ge 50, 3) := by decide +kernel
theorem dX12_as_29 : decode cX12_as 29 = .ok (.goto 43, 3) := by decide +kernel
theorem dX12_as_32 : decode cX12_as 32 = .ok (.iload_n 1, 1) := by decide +kernel
theorem dX12_as_33 : decode cX12_as 33 = .ok (.iconst 2, 1) := by decide +kernel
theorem dX12_as_34 : decode cX12_as 34 = .ok (.if_icmp .ne 14, 3) := by decide +kernel
theorem dX12_as_37 : decode cX12_as 37 = .ok (.aload_n 0, 1) := by decide +kernel
theorem dX12_as_38 : decode cX12_as 38 = .ok (.getfield 104, 3) := by decide +kernel
theorem dX12_as_41 : decode cX12_as 41 = .ok (.iconst 1, 1) := by decide +kernel
theorem dX12_as_42 : decode cX12_as 42 = .ok (.if_icmp .ne 34, 3) := by decide +kernel
theorem dX12_as_45 : decode cX12_as 45 = .ok (.goto 27, 3) := by decide +kernel
theorem dX12_as_48 : decode cX12_as 48 = .ok (.iload_n 1, 1) := by decide +kernel
theorem dX12_as_49 : decode cX12_as 49 = .ok (.iconst 3, 1) := by decide +kernel
theorem dX12_as_50 : decode cX12_as 50 = .ok (.if_icmp .ne 14, 3) := by decide +kernel
theorem dX12_as_53 : decode cX12_as 53 = .ok (.aload_n 0, 1) := by decide +kernel
theorem dX12_as_54 : decode cX12_as 54 = .ok (.getfield 104, 3) := by decide +kernel
theorem dX12_as_57 : decode cX12_as 57 = .ok (.iconst 1, 1) := by decide +kernel
theorem dX12_as_58 : decode cX12_as 58 = .ok (.if_icmp .le 18, 3) := by decide +kernel
theorem dX12_as_61 : decode cX12_as 61 = .ok (.goto 11, 3) := by decide +kernel
theorem dX12_as_64 : decode cX12_as 64 = .ok (.aload_n 0, 1) := by decide +kernel
theorem dX12_as_65 : decode cX12_as 65 = .ok (.getfield 104, 3) := by decide +kernel
theorem dX12_as_68 : decode cX12_as 68 = .ok (.iconst 3, 1) := by decide +kernel
theorem dX12_as_69 : decode cX12_as 69 = .ok (.if_icmp .ne 7, 3) := by decide +kernel
theorem dX12_as_72 : decode cX12_as 72 = .ok (.iconst 1, 1) := by decide +kernel
theorem dX12_as_73 : decode cX12_as 73 = .ok (.goto 4, 3) := by decide +kernel
theorem dX12_as_76 : decode cX12_as 76 = .ok (.iconst 0, 1) := by decide +kernel
theorem dX12_as_77 : decode cX12_as 77 = .ok (.istore_n 2, 1) := by decide +kernel
theorem dX12_as_78 : decode cX12_as 78 = .ok (.aload_n 0, 1) := by decide +kernel
theorem dX12_as_79 : decode cX12_as 79 = .ok (.iconst 0, 1) := by decide +kernel
theorem dX12_as_80 : decode cX12_as 80 = .ok (.invokevirtual 244, 3) := by decide +kernel
theorem dX12_as_83 : decode cX12_as 83 = .ok (.istore_n 3, 1) := by decide +kernel
theorem dX12_as_84 : decode cX12_as 84 = .ok (.iload_n 2, 1) := by decide +kernel
theorem dX12_as_85 : decode cX12_as 85 = .ok (.ifCond .ne 8, 3) := by decide +kernel
theorem dX12_as_88 : decode cX12_as 88 = .ok (.bipush (-4), 2) := by decide +kernel
theorem dX12_as_90 : decode cX12_as 90 = .ok (.goto 16, 3) := by decide +kernel
theorem dX12_as_93 : decode cX12_as 93 = .ok (.iload_n 3, 1) := by decide +kernel
theorem dX12_as_94 : decode cX12_as 94 = .ok (.iconst (-1), 1) := by decide +kernel
theorem dX12_as_95 : decode cX12_as 95 = .ok (.if_icmp .ne 7, 3) := by decide +kernel
theorem dX12_as_98 : decode cX12_as 98 = .ok (.iconst (-1), 1) := by decide +kernel
theorem dX12_as_99 : decode cX12_as 99 = .ok (.goto 7, 3) := by decide +kernel
theorem dX12_as_102 : decode cX12_as 102 = .ok (.aload_n 0, 1) := by decide +kernel
theorem dX12_as_103 : decode cX12_as 103 = .ok (.invokevirtual 248, 3) := by decide +kernel
theorem dX12_as_106 : decode cX12_as 106 = .ok (.ireturn, 1) := by decide +kernel
set_option maxRecDepth 20000 in
theorem ggX12_way_X12_in : GoodIn wsX12_way wsX12_in := goodIn_r _ [6] (by decide +kernel) (by decide +kernel)
set_option maxRecDepth 20000 in
theorem gX12_way_X12_in : GoodIn wsX12_way (va_wsS RX12 93 yX12_in wsX12_in) := goodIn_app (goodIn_of _ (by decide +kernel)) ggX12_way_X12_in
set_option maxRecDepth 20000 in
theorem ggX12_way_X12_layWay : GoodIn wsX12_way wsX12_layWay := goodIn_r _ [10, 11, 12, 13, 14, 15, 16, 17, 18, 19, 1, 2, 20, 21, 22, 5, 23, 24, 25, 26, 27, 28, 29, 30, 31, 32, 33, 34, 35, 36, 37, 38, 39, 40, 41, 42, 43, 44, 45, 46, 47, 48, 49, 50, 51, 52, 53, 54, 55, 56, 57, 58, 59, 60, 61, 62, 63, 64, 65, 66, 67, 68, 69, 70, 71, 72, 73, 74, 75, 76, 77, 78, 79, 80, 81] (by decide +kernel) (by decide +kernel)
set_option maxRecDepth 20000 in
theorem gX12_way_X12_layWay : GoodIn wsX12_way (wsV RX12 244 RX12 yX12_layWay wsX12_layWay) := goodIn_app (goodIn_of _ (by decide +kernel)) ggX12_way_X12_layWay
theorem dX12_way_0 : decode cX12_way 0 = .ok (.iload_n 1, 1) := by decide +kernel
theorem dX12_way_1 : decode cX12_way 1 = .ok (.iconst 0, 1) := by decide +kernel
theorem dX12_way_2 : decode cX12_way 2 = .ok (.iconst 1, 1) := by decide +kernel
theorem dX12_way_3 : decode cX12_way 3 = .ok (.invokestatic 93, 3) := by decide +kernel
theorem dX12_way_6 : decode cX12_way 6 = .ok (.ifCond .ne 17, 3) := by decide +kernel
theorem dX12_way_9 : decode cX12_way 9 = .ok (.iload_n 1, 1) := by decide +kernel
theorem dX12_way_10 : decode cX12_way 10 = .ok (.bipush 10, 2) := by decide +kernel
theorem dX12_way_12 : decode cX12_way 12 = .ok (.bipush 21, 2) := by decide +kernel
theorem dX12_way_14 : decode cX12_way 14 = .ok (.invokestatic 93, 3) := by decide +kernel
theorem dX12_way_17 : decode cX12_way 17 = .ok (.ifCond .ne 6, 3) := by decide +kernel
theorem dX12_way_20 : decode cX12_way 20 = .ok (.bipush (-3), 2) := by decide +kernel
theorem dX12_way_22 : decode cX12_way 22 = .ok (.ireturn, 1) := by decide +kernel
theorem dX12_way_23 : decode cX12_way 23 = .ok (.aload_n 0, 1) := by decide +kernel
theorem dX12_way_24 : decode cX12_way 24 = .ok (.iconst 0, 1) := by decide +kernel
theorem dX12_way_25 : decode cX12_way 25 = .ok (.invokevirtual 244, 3) := by decide +kernel
theorem dX12_way_28 : decode cX12_way 28 = .ok (.istore_n 2, 1) := by decide +kernel
theorem dX12_way_29 : decode cX12_way 29 = .ok (.iload_n 2, 1) := by decide +kernel
theorem dX12_way_30 : decode cX12_way 30 = .ok (.iconst (-1), 1) := by decide +kernel
theorem dX12_way_31 : decode cX12_way 31 = .ok (.if_icmp .eq 7, 3) := by decide +kernel
theorem dX12_way_34 : decode cX12_way 34 = .ok (.iload_n 1, 1) := by decide +kernel
theorem dX12_way_35 : decode cX12_way 35 = .ok (.ifCond .ne 5, 3) := by decide +kernel
theorem dX12_way_38 : decode cX12_way 38 = .ok (.iload_n 2, 1) := by decide +kernel
theorem dX12_way_39 : decode cX12_way 39 = .ok (.ireturn, 1) := by decide +kernel
theorem dX12_way_40 : decode cX12_way 40 = .ok (.iload_n 1, 1) := by decide +kernel
theorem dX12_way_41 : decode cX12_way 41 = .ok (.iconst 1, 1) := by decide +kernel
theorem dX12_way_42 : decode cX12_way 42 = .ok (.if_icmp .ne 10, 3) := by decide +kernel
theorem dX12_way_45 : decode cX12_way 45 = .ok (.aload_n 0, 1) := by decide +kernel
theorem dX12_way_46 : decode cX12_way 46 = .ok (.getfield 234, 3) := by decide +kernel
theorem dX12_way_49 : decode cX12_way 49 = .ok (.goto 27, 3) := by decide +kernel
theorem dX12_way_52 : decode cX12_way 52 = .ok (.iload_n 1, 1) := by decide +kernel
theorem dX12_way_53 : decode cX12_way 53 = .ok (.bipush 10, 2) := by decide +kernel
theorem dX12_way_55 : decode cX12_way 55 = .ok (.isub, 1) := by decide +kernel
theorem dX12_way_56 : decode cX12_way 56 = .ok (.aload_n 0, 1) := by decide +kernel
theorem dX12_way_57 : decode cX12_way 57 = .ok (.getfield 234, 3) := by decide +kernel
theorem dX12_way_60 : decode cX12_way 60 = .ok (.if_icmp .ge 15, 3) := by decide +kernel
theorem dX12_way_63 : decode cX12_way 63 = .ok (.aload_n 0, 1) := by decide +kernel
theorem dX12_way_64 : decode cX12_way 64 = .ok (.getfield 63, 3) := by decide +kernel
theorem dX12_way_67 : decode cX12_way 67 = .ok (.iload_n 1, 1) := by decide +kernel
theorem dX12_way_68 : decode cX12_way 68 = .ok (.bipush 10, 2) := by decide +kernel
theorem dX12_way_70 : decode cX12_way 70 = .ok (.isub, 1) := by decide +kernel
theorem dX12_way_71 : decode cX12_way 71 = .ok (.iaload, 1) := by decide +kernel
theorem dX12_way_72 : decode cX12_way 72 = .ok (.goto 4, 3) := by decide +kernel
theorem dX12_way_75 : decode cX12_way 75 = .ok (.iconst (-1), 1) := by decide +kernel
theorem dX12_way_76 : decode cX12_way 76 = .ok (.ireturn, 1) := by decide +kernel
set_option maxRecDepth 20000 in
theorem ggX12_go_X12_in : GoodIn wsX12_go wsX12_in := goodIn_r _ [5] (by decide +kernel) (by decide +kernel)
set_option maxRecDepth 20000 in
theorem gX12_go_X12_in : GoodIn wsX12_go (va_wsS RX12 93 yX12_in wsX12_in) := goodIn_app (goodIn_of _ (by decide +kernel)) ggX12_go_X12_in
set_option maxRecDepth 20000 in
theorem ggX12_go_X12_goNight : GoodIn wsX12_go wsX12_goNight := goodIn_r _ [9, 10, 11, 12, 4, 13, 14, 15, 16, 17, 18, 19, 20, 21, 22, 23, 24, 25, 26, 27, 28, 29, 1, 30, 31, 32, 33, 34, 35, 36, 37, 38, 39, 40, 41, 42, 43, 44, 45, 46, 47, 48, 49, 50, 51, 52, 53, 54, 55, 56, 57, 58, 59, 60, 61, 62, 63, 64, 65, 66, 67, 68, 69, 70, 71, 72, 73, 74, 75, 76, 77, 78, 79, 80, 81, 82, 83, 84, 85, 86, 87, 88, 89, 90, 91, 92, 93, 94, 95] (by decide +kernel) (by decide +kernel)
set_option maxRecDepth 20000 in
theorem gX12_go_X12_goNight : GoodIn wsX12_go (wsV RX12 254 RX12 yX12_goNight wsX12_goNight) := goodIn_app (goodIn_of _ (by decide +kernel)) ggX12_go_X12_goNight
theorem dX12_go_0 : decode cX12_go 0 = .ok (.iload_n 1, 1) := by decide +kernel
theorem dX12_go_1 : decode cX12_go 1 = .ok (.iconst 1, 1) := by decide +kernel
theorem dX12_go_2 : decode cX12_go 2 = .ok (.sipush 999, 3) := by decide +kernel
theorem dX12_go_5 : decode cX12_go 5 = .ok (.invokestatic 93, 3) := by decide +kernel
theorem dX12_go_8 : decode cX12_go 8 = .ok (.ifCond .ne 6, 3) := by decide +kernel
theorem dX12_go_11 : decode cX12_go 11 = .ok (.bipush (-3), 2) := by decide +kernel
theorem dX12_go_13 : decode cX12_go 13 = .ok (.ireturn, 1) := by decide +kernel
theorem dX12_go_14 : decode cX12_go 14 = .ok (.aload_n 0, 1) := by decide +kernel
theorem dX12_go_15 : decode cX12_go 15 = .ok (.getfield 213, 3) := by decide +kernel
theorem dX12_go_18 : decode cX12_go 18 = .ok (.iload_n 1, 1) := by decide +kernel
theorem dX12_go_19 : decode cX12_go 19 = .ok (.iadd, 1) := by decide +kernel
theorem dX12_go_20 : decode cX12_go 20 = .ok (.sipush 9999, 3) := by decide +kernel
theorem dX12_go_23 : decode cX12_go 23 = .ok (.if_icmp .le 6, 3) := by decide +kernel
theorem dX12_go_26 : decode cX12_go 26 = .ok (.bipush (-5), 2) := by decide +kernel
theorem dX12_go_28 : decode cX12_go 28 = .ok (.ireturn, 1) := by decide +kernel
theorem dX12_go_29 : decode cX12_go 29 = .ok (.iconst 0, 1) := by decide +kernel
theorem dX12_go_30 : decode cX12_go 30 = .ok (.istore_n 2, 1) := by decide +kernel
theorem dX12_go_31 : decode cX12_go 31 = .ok (.iconst 0, 1) := by decide +kernel
theorem dX12_go_32 : decode cX12_go 32 = .ok (.istore_n 3, 1) := by decide +kernel
theorem dX12_go_33 : decode cX12_go 33 = .ok (.iload_n 3, 1) := by decide +kernel
theorem dX12_go_34 : decode cX12_go 34 = .ok (.iload_n 1, 1) := by decide +kernel
theorem dX12_go_35 : decode cX12_go 35 = .ok (.if_icmp .ge 14, 3) := by decide +kernel
theorem dX12_go_38 : decode cX12_go 38 = .ok (.aload_n 0, 1) := by decide +kernel
theorem dX12_go_39 : decode cX12_go 39 = .ok (.invokevirtual 254, 3) := by decide +kernel
theorem dX12_go_42 : decode cX12_go 42 = .ok (.istore_n 2, 1) := by decide +kernel
theorem dX12_go_43 : decode cX12_go 43 = .ok (.iinc 3 1, 3) := by decide +kernel
theorem dX12_go_46 : decode cX12_go 46 = .ok (.goto (-13), 3) := by decide +kernel
theorem dX12_go_49 : decode cX12_go 49 = .ok (.iload_n 2, 1) := by decide +kernel
theorem dX12_go_50 : decode cX12_go 50 = .ok (.iconst (-1), 1) := by decide +kernel
theorem dX12_go_51 : decode cX12_go 51 = .ok (.if_icmp .ge 7, 3) := by decide +kernel
theorem dX12_go_54 : decode cX12_go 54 = .ok (.iload_n 2, 1) := by decide +kernel
theorem dX12_go_55 : decode cX12_go 55 = .ok (.goto 7, 3) := by decide +kernel
theorem dX12_go_58 : decode cX12_go 58 = .ok (.aload_n 0, 1) := by decide +kernel
theorem dX12_go_59 : decode cX12_go 59 = .ok (.getfield 213, 3) := by decide +kernel
theorem dX12_go_62 : decode cX12_go 62 = .ok (.ireturn, 1) := by decide +kernel
set_option maxRecDepth 20000 in
theorem ggX12_flood_X12_isStreet : GoodIn wsX12_flood wsX12_isStreet := goodIn_r _ [6, 7, 8, 9, 5, 10, 11, 12, 13, 14, 15, 16, 17, 18, 19, 20, 21, 22, 23, 24, 25, 26, 27, 28, 29, 30, 31, 32, 33, 34, 35, 36, 37, 38, 39, 40, 41, 42, 43, 44, 45, 46, 47, 48, 49, 50, 51, 52, 53, 54] (by decide +kernel) (by decide +kernel)
set_option maxRecDepth 20000 in
theorem gX12_flood_X12_isStreet : GoodIn wsX12_flood (wsV RX12 222 RX12 yX12_isStreet wsX12_isStreet) := goodIn_app (goodIn_of _ (by decide +kernel)) ggX12_flood_X12_isStreet
set_option maxRecDepth 20000 in
theorem ggX12_flood_X12_in : GoodIn wsX12_flood wsX12_in := goodIn_r _ [10] (by decide +kernel) (by decide +kernel)
set_option maxRecDepth 20000 in
theorem gX12_flood_X12_in : GoodIn wsX12_flood (va_wsS RX12 93 yX12_in wsX12_in) := goodIn_app (goodIn_of _ (by decide +kernel)) ggX12_flood_X12_in
theorem dX12_flood_0 : decode cX12_flood 0 = .ok (.aload_n 0, 1) := by decide +kernel
theorem dX12_flood_1 : decode cX12_flood 1 = .ok (.iload_n 1, 1) := by decide +kernel
theorem dX12_flood_2 : decode cX12_flood 2 = .ok (.invokevirtual 222, 3) := by decide +kernel
theorem dX12_flood_5 : decode cX12_flood 5 = .ok (.ifCond .ne 6, 3) := by decide +kernel
theorem dX12_flood_8 : decode cX12_flood 8 = .ok (.bipush (-2), 2) := by decide +kernel
theorem dX12_flood_10 : decode cX12_flood 10 = .ok (.ireturn, 1) := by decide +kernel
theorem dX12_flood_11 : decode cX12_flood 11 = .ok (.iload_n 2, 1) := by decide +kernel
theorem dX12_flood_12 : decode cX12_flood 12 = .ok (.iconst 1, 1) := by decide +kernel
theorem dX12_flood_13 : decode cX12_flood 13 = .ok (.bipush 99, 2) := by decide +kernel
theorem dX12_flood_15 : decode cX12_flood 15 = .ok (.invokestatic 93, 3) := by decide +kernel
theorem dX12_flood_18 : decode cX12_flood 18 = .ok (.ifCond .ne 6, 3) := by decide +kernel
theorem dX12_flood_21 : decode cX12_flood 21 = .ok (.bipush (-3), 2) := by decide +kernel
theorem dX12_flood_23 : decode cX12_flood 23 = .ok (.ireturn, 1) := by decide +kernel
theorem dX12_flood_24 : decode cX12_flood 24 = .ok (.aload_n 0, 1) := by decide +kernel
theorem dX12_flood_25 : decode cX12_flood 25 = .ok (.getfield 44, 3) := by decide +kernel
theorem dX12_flood_28 : decode cX12_flood 28 = .ok (.iload_n 1, 1) := by decide +kernel
theorem dX12_flood_29 : decode cX12_flood 29 = .ok (.iload_n 2, 1) := by decide +kernel
theorem dX12_flood_30 : decode cX12_flood 30 = .ok (.aload_n 0, 1) := by decide +kernel
theorem dX12_flood_31 : decode cX12_flood 31 = .ok (.getfield 44, 3) := by decide +kernel
theorem dX12_flood_34 : decode cX12_flood 34 = .ok (.iload_n 1, 1) := by decide +kernel
theorem dX12_flood_35 : decode cX12_flood 35 = .ok (.iaload, 1) := by decide +kernel
theorem dX12_flood_36 : decode cX12_flood 36 = .ok (.if_icmp .le 7, 3) := by decide +kernel
theorem dX12_flood_39 : decode cX12_flood 39 = .ok (.iload_n 2, 1) := by decide +kernel
theorem dX12_flood_40 : decode cX12_flood 40 = .ok (.goto 9, 3) := by decide +kernel
theorem dX12_flood_43 : decode cX12_flood 43 = .ok (.aload_n 0, 1) := by decide +kernel
theorem dX12_flood_44 : decode cX12_flood 44 = .ok (.getfield 44, 3) := by decide +kernel
theorem dX12_flood_47 : decode cX12_flood 47 = .ok (.iload_n 1, 1) := by decide +kernel
theorem dX12_flood_48 : decode cX12_flood 48 = .ok (.iaload, 1) := by decide +kernel
theorem dX12_flood_49 : decode cX12_flood 49 = .ok (.iastore, 1) := by decide +kernel
theorem dX12_flood_50 : decode cX12_flood 50 = .ok (.aload_n 0, 1) := by decide +kernel
theorem dX12_flood_51 : decode cX12_flood 51 = .ok (.getfield 44, 3) := by decide +kernel
theorem dX12_flood_54 : decode cX12_flood 54 = .ok (.iload_n 1, 1) := by decide +kernel
theorem dX12_flood_55 : decode cX12_flood 55 = .ok (.iaload, 1) := by decide +kernel
theorem dX12_flood_56 : decode cX12_flood 56 = .ok (.ireturn, 1) := by decide +kernel
set_option maxRecDepth 20000 in
theorem ggX12_fair_X12_openAll : GoodIn wsX12_fair wsX12_openAll := goodIn_r _ [7, 2, 8, 9, 10, 11, 12, 13, 14, 15, 16, 17, 18, 19, 20, 21, 22, 23, 24, 25, 26, 27, 28, 29, 30, 31, 32, 33, 34, 35, 36, 37, 38, 39, 40, 41, 42, 43, 44, 45, 46, 47, 48, 49, 50, 51] (by decide +kernel) (by decide +kernel)
set_option maxRecDepth 20000 in
theorem gX12_fair_X12_openAll : GoodIn wsX12_fair (wsV RX12 216 RX12 yX12_openAll wsX12_openAll) := goodIn_app (goodIn_of _ (by decide +kernel)) ggX12_fair_X12_openAll
theorem dX12_fair_0 : decode cX12_fair 0 = .ok (.iconst 0, 1) := by decide +kernel
theorem dX12_fair_1 : decode cX12_fair 1 = .ok (.istore_n 1, 1) := by decide +kernel
theorem dX12_fair_2 : decode cX12_fair 2 = .ok (.iconst 0, 1) := by decide +kernel
theorem dX12_fair_3 : decode cX12_fair 3 = .ok (.istore_n 2, 1) := by decide +kernel
theorem dX12_fair_4 : decode cX12_fair 4 = .ok (.iload_n 2, 1) := by decide +kernel
theorem dX12_fair_5 : decode cX12_fair 5 = .ok (.aload_n 0, 1) := by decide +kernel
theorem dX12_fair_6 : decode cX12_fair 6 = .ok (.getfield 90, 3) := by decide +kernel
theorem dX12_fair_9 : decode cX12_fair 9 = .ok (.if_icmp .ge 26, 3) := by decide +kernel
theorem dX12_fair_12 : decode cX12_fair 12 = .ok (.iload_n 1, 1) := by decide +kernel
theorem dX12_fair_13 : decode cX12_fair 13 = .ok (.aload_n 0, 1) := by decide +kernel
theorem dX12_fair_14 : decode cX12_fair 14 = .ok (.getfield 44, 3) := by decide +kernel
theorem dX12_fair_17 : decode cX12_fair 17 = .ok (.iload_n 2, 1) := by decide +kernel
theorem dX12_fair_18 : decode cX12_fair 18 = .ok (.iaload, 1) := by decide +kernel
theorem dX12_fair_19 : decode cX12_fair 19 = .ok (.ifCond .le 7, 3) := by decide +kernel
theorem dX12_fair_22 : decode cX12_fair 22 = .ok (.iconst 1, 1) := by decide +kernel
theorem dX12_fair_23 : decode cX12_fair 23 = .ok (.goto 4, 3) := by decide +kernel
theorem dX12_fair_26 : decode cX12_fair 26 = .ok (.iconst 0, 1) := by decide +kernel
theorem dX12_fair_27 : decode cX12_fair 27 = .ok (.iadd, 1) := by decide +kernel
theorem dX12_fair_28 : decode cX12_fair 28 = .ok (.istore_n 1, 1) := by decide +kernel
theorem dX12_fair_29 : decode cX12_fair 29 = .ok (.iinc 2 1, 3) := by decide +kernel
theorem dX12_fair_32 : decode cX12_fair 32 = .ok (.goto (-28), 3) := by decide +kernel
theorem dX12_fair_35 : decode cX12_fair 35 = .ok (.aload_n 0, 1) := by decide +kernel
theorem dX12_fair_36 : decode cX12_fair 36 = .ok (.invokevirtual 216, 3) := by decide +kernel
theorem dX12_fair_39 : decode cX12_fair 39 = .ok (.iload_n 1, 1) := by decide +kernel
theorem dX12_fair_40 : decode cX12_fair 40 = .ok (.ireturn, 1) := by decide +kernel
set_option maxRecDepth 20000 in
theorem ggX12_keep_X12_in : GoodIn wsX12_keep wsX12_in := goodIn_r _ [8] (by decide +kernel) (by decide +kernel)
set_option maxRecDepth 20000 in
theorem gX12_keep_X12_in : GoodIn wsX12_keep (va_wsS RX12 93 yX12_in wsX12_in) := goodIn_app (goodIn_of _ (by decide +kernel)) ggX12_keep_X12_in
theorem dX12_keep_0 : decode cX12_keep 0 = .ok (.iload_n 1, 1) := by decide +kernel
theorem dX12_keep_1 : decode cX12_keep 1 = .ok (.iconst 0, 1) := by decide +kernel
theorem dX12_keep_2 : decode cX12_keep 2 = .ok (.iconst 1, 1) := by decide +kernel
theorem dX12_keep_3 : decode cX12_keep 3 = .ok (.invokestatic 93, 3) := by decide +kernel
theorem dX12_keep_6 : decode cX12_keep 6 = .ok (.ifCond .ne 6, 3) := by decide +kernel
theorem dX12_keep_9 : decode cX12_keep 9 = .ok (.bipush (-2), 2) := by decide +kernel
theorem dX12_keep_11 : decode cX12_keep 11 = .ok (.ireturn, 1) := by decide +kernel
theorem dX12_keep_12 : decode cX12_keep 12 = .ok (.aload_n 0, 1) := by decide +kernel
theorem dX12_keep_13 : decode cX12_keep 13 = .ok (.getfield 50, 3) := by decide +kernel
theorem dX12_keep_16 : decode cX12_keep 16 = .ok (.bipush 17, 2) := by decide +kernel
theorem dX12_keep_18 : decode cX12_keep 18 = .ok (.iload_n 1, 1) := by decide +kernel
theorem dX12_keep_19 : decode cX12_keep 19 = .ok (.imul, 1) := by decide +kernel
theorem dX12_keep_20 : decode cX12_keep 20 = .ok (.bipush 16, 2) := by decide +kernel
theorem dX12_keep_22 : decode cX12_keep 22 = .ok (.iadd, 1) := by decide +kernel
theorem dX12_keep_23 : decode cX12_keep 23 = .ok (.aload_n 0, 1) := by decide +kernel
theorem dX12_keep_24 : decode cX12_keep 24 = .ok (.getfield 213, 3) := by decide +kernel
theorem dX12_keep_27 : decode cX12_keep 27 = .ok (.iastore, 1) := by decide +kernel
theorem dX12_keep_28 : decode cX12_keep 28 = .ok (.iconst 0, 1) := by decide +kernel
theorem dX12_keep_29 : decode cX12_keep 29 = .ok (.istore_n 2, 1) := by decide +kernel
theorem dX12_keep_30 : decode cX12_keep 30 = .ok (.iload_n 2, 1) := by decide +kernel
theorem dX12_keep_31 : decode cX12_keep 31 = .ok (.bipush 16, 2) := by decide +kernel
theorem dX12_keep_33 : decode cX12_keep 33 = .ok (.if_icmp .ge 26, 3) := by decide +kernel
theorem dX12_keep_36 : decode cX12_keep 36 = .ok (.aload_n 0, 1) := by decide +kernel
theorem dX12_keep_37 : decode cX12_keep 37 = .ok (.getfield 50, 3) := by decide +kernel
theorem dX12_keep_40 : decode cX12_keep 40 = .ok (.bipush 17, 2) := by decide +kernel
theorem dX12_keep_42 : decode cX12_keep 42 = .ok (.iload_n 1, 1) := by decide +kernel
theorem dX12_keep_43 : decode cX12_keep 43 = .ok (.imul, 1) := by decide +kernel
theorem dX12_keep_44 : decode cX12_keep 44 = .ok (.iload_n 2, 1) := by decide +kernel
theorem dX12_keep_45 : decode cX12_keep 45 = .ok (.iadd, 1) := by decide +kernel
theorem dX12_keep_46 : decode cX12_keep 46 = .ok (.aload_n 0, 1) := by decide +kernel
theorem dX12_keep_47 : decode cX12_keep 47 = .ok (.getfield 44, 3) := by decide +kernel
theorem dX12_keep_50 : decode cX12_keep 50 = .ok (.iload_n 2, 1) := by decide +kernel
theorem dX12_keep_51 : decode cX12_keep 51 = .ok (.iaload, 1) := by decide +kernel
theorem dX12_keep_52 : decode cX12_keep 52 = .ok (.iastore, 1) := by decide +kernel
theorem dX12_keep_53 : decode cX12_keep 53 = .ok (.iinc 2 1, 3) := by decide +kernel
theorem dX12_keep_56 : decode cX12_keep 56 = .ok (.goto (-26), 3) := by decide +kernel
theorem dX12_keep_59 : decode cX12_keep 59 = .ok (.aload_n 0, 1) := by decide +kernel
theorem dX12_keep_60 : decode cX12_keep 60 = .ok (.getfield 53, 3) := by decide +kernel
theorem dX12_keep_63 : decode cX12_keep 63 = .ok (.iload_n 1, 1) := by decide +kernel
theorem dX12_keep_64 : decode cX12_keep 64 = .ok (.iconst 1, 1) := by decide +kernel
theorem dX12_keep_65 : decode cX12_keep 65 = .ok (.bastore, 1) := by decide +kernel
theorem dX12_keep_66 : decode cX12_keep 66 = .ok (.aload_n 0, 1) := by decide +kernel
theorem dX12_keep_67 : decode cX12_keep 67 = .ok (.getfield 213, 3) := by decide +kernel
theorem dX12_keep_70 : decode cX12_keep 70 = .ok (.ireturn, 1) := by decide +kernel
set_option maxRecDepth 20000 in
theorem ggX12_back_X12_in : GoodIn wsX12_back wsX12_in := goodIn_r _ [8] (by decide +kernel) (by decide +kernel)
set_option maxRecDepth 20000 in
theorem gX12_back_X12_in : GoodIn wsX12_back (va_wsS RX12 93 yX12_in wsX12_in) := goodIn_app (goodIn_of _ (by decide +kernel)) ggX12_back_X12_in
theorem dX12_back_0 : decode cX12_back 0 = .ok (.iload_n 1, 1) := by decide +kernel
theorem dX12_back_1 : decode cX12_back 1 = .ok (.iconst 0, 1) := by decide +kernel
theorem dX12_back_2 : decode cX12_back 2 = .ok (.iconst 1, 1) := by decide +kernel
theorem dX12_back_3 : decode cX12_back 3 = .ok (.invokestatic 93, 3) := by decide +kernel
theorem dX12_back_6 : decode cX12_back 6 = .ok (.ifCond .ne 6, 3) := by decide +kernel
theorem dX12_back_9 : decode cX12_back 9 = .ok (.bipush (-2), 2) := by decide +kernel
theorem dX12_back_11 : decode cX12_back 11 = .ok (.ireturn, 1) := by decide +kernel
theorem dX12_back_12 : decode cX12_back 12 = .ok (.aload_n 0, 1) := by decide +kernel
theorem dX12_back_13 : decode cX12_back 13 = .ok (.getfield 53, 3) := by decide +kernel
theorem dX12_back_16 : decode cX12_back 16 = .ok (.iload_n 1, 1) := by decide +kernel
theorem dX12_back_17 : decode cX12_back 17 = .ok (.baload, 1) := by decide +kernel
theorem dX12_back_18 : decode cX12_back 18 = .ok (.ifCond .ne 6, 3) := by decide +kernel
theorem dX12_back_21 : decode cX12_back 21 = .ok (.bipush (-4), 2) := by decide +kernel
theorem dX12_back_23 : decode cX12_back 23 = .ok (.ireturn, 1) := by decide +kernel
theorem dX12_back_24 : decode cX12_back 24 = .ok (.aload_n 0, 1) := by decide +kernel
theorem dX12_back_25 : decode cX12_back 25 = .ok (.aload_n 0, 1) := by decide +kernel
theorem dX12_back_26 : decode cX12_back 26 = .ok (.getfield 50, 3) := by decide +kernel
theorem dX12_back_29 : decode cX12_back 29 = .ok (.bipush 17, 2) := by decide +kernel
theorem dX12_back_31 : decode cX12_back 31 = .ok (.iload_n 1, 1) := by decide +kernel
theorem dX12_back_32 : decode cX12_back 32 = .ok (.imul, 1) := by decide +kernel
theorem dX12_back_33 : decode cX12_back 33 = .ok (.bipush 16, 2) := by decide +kernel
theorem dX12_back_35 : decode cX12_back 35 = .ok (.iadd, 1) := by decide +kernel
theorem dX12_back_36 : decode cX12_back 36 = .ok (.iaload, 1) := by decide +kernel
theorem dX12_back_37 : decode cX12_back 37 = .ok (.putfield 213, 3) := by decide +kernel
theorem dX12_back_40 : decode cX12_back 40 = .ok (.iconst 0, 1) := by decide +kernel
theorem dX12_back_41 : decode cX12_back 41 = .ok (.istore_n 2, 1) := by decide +kernel
theorem dX12_back_42 : decode cX12_back 42 = .ok (.iload_n 2, 1) := by decide +kernel
theorem dX12_back_43 : decode cX12_back 43 = .ok (.bipush 16, 2) := by decide +kernel
theorem dX12_back_45 : decode cX12_back 45 = .ok (.if_icmp .ge 26, 3) := by decide +kernel
theorem dX12_back_48 : decode cX12_back 48 = .ok (.aload_n 0, 1) := by decide +kernel
theorem dX12_back_49 : decode cX12_back 49 = .ok (.getfield 44, 3) := by decide +kernel
theorem dX12_back_52 : decode cX12_back 52 = .ok (.iload_n 2, 1) := by decide +kernel
theorem dX12_back_53 : decode cX12_back 53 = .ok (.aload_n 0, 1) := by decide +kernel
theorem dX12_back_54 : decode cX12_back 54 = .ok (.getfield 50, 3) := by decide +kernel
theorem dX12_back_57 : decode cX12_back 57 = .ok (.bipush 17, 2) := by decide +kernel
theorem dX12_back_59 : decode cX12_back 59 = .ok (.iload_n 1, 1) := by decide +kernel
theorem dX12_back_60 : decode cX12_back 60 = .ok (.imul, 1) := by decide +kernel
theorem dX12_back_61 : decode cX12_back 61 = .ok (.iload_n 2, 1) := by decide +kernel
theorem dX12_back_62 : decode cX12_back 62 = .ok (.iadd, 1) := by decide +kernel
theorem dX12_back_63 : decode cX12_back 63 = .ok (.iaload, 1) := by decide +kernel
theorem dX12_back_64 : decode cX12_back 64 = .ok (.iastore, 1) := by decide +kernel
theorem dX12_back_65 : decode cX12_back 65 = .ok (.iinc 2 1, 3) := by decide +kernel
theorem dX12_back_68 : decode cX12_back 68 = .ok (.goto (-26), 3) := by decide +kernel
theorem dX12_back_71 : decode cX12_back 71 = .ok (.aload_n 0, 1) := by decide +kernel
theorem dX12_back_72 : decode cX12_back 72 = .ok (.getfield 213, 3) := by decide +kernel
theorem dX12_back_75 : decode cX12_back 75 = .ok (.ireturn, 1) := by decide +kernel
set_option maxRecDepth 20000 in
theorem ggX12_later_X12_in : GoodIn wsX12_later wsX12_in := goodIn_r _ [4] (by decide +kernel) (by decide +kernel)
set_option maxRecDepth 20000 in
theorem gX12_later_X12_in : GoodIn wsX12_later (va_wsS RX12 93 yX12_in wsX12_in) := goodIn_app (goodIn_of _ (by decide +kernel)) ggX12_later_X12_in
set_option maxRecDepth 20000 in
theorem ggX12_later_X12_putAside : GoodIn wsX12_later wsX12_putAside := goodIn_r _ [8, 9, 10, 11, 62, 63, 64, 65, 66, 67, 68, 69, 70, 71, 72, 73, 74, 75, 76, 77, 78, 79, 80, 81, 82, 83, 84, 85, 86, 87, 88, 89, 90, 91, 92, 93, 94, 95, 96, 97, 98, 99, 100, 101, 102, 103, 104, 105] (by decide +kernel) (by decide +kernel)
set_option maxRecDepth 20000 in
theorem gX12_later_X12_putAside : GoodIn wsX12_later (wsV RX12 257 RX12 yX12_putAside wsX12_putAside) := goodIn_app (goodIn_of _ (by decide +kernel)) ggX12_later_X12_putAside
set_option maxRecDepth 20000 in
theorem ggX12_later_X12_goNight : GoodIn wsX12_later wsX12_goNight := goodIn_r _ [15, 16, 17, 18, 3, 19, 20, 21, 22, 23, 11, 24, 25, 26, 27, 28, 29, 30, 31, 32, 33, 34, 10, 35, 36, 37, 38, 39, 40, 41, 42, 43, 44, 45, 46, 47, 48, 49, 50, 51, 52, 53, 54, 55, 56, 62, 63, 64, 65, 66, 67, 68, 69, 70, 71, 72, 73, 74, 75, 76, 77, 78, 79, 80, 81, 82, 83, 84, 85, 86, 87, 88, 89, 90, 91, 92, 93, 94, 95, 96, 97, 98, 99, 100, 101, 102, 103, 104, 105] (by decide +kernel) (by decide +kernel)
set_option maxRecDepth 20000 in
theorem gX12_later_X12_goNight : GoodIn wsX12_later (wsV RX12 254 RX12 yX12_goNight wsX12_goNight) := goodIn_app (goodIn_of _ (by decide +kernel)) ggX12_later_X12_goNight
set_option maxRecDepth 20000 in
theorem ggX12_later_X12_putBack : GoodIn wsX12_later wsX12_putBack := goodIn_r _ [60, 9, 10, 61, 23, 11, 62, 63, 64, 65, 66, 67, 68, 69, 70, 71, 72, 73, 74, 75, 76, 77, 78, 79, 80, 81, 82, 83, 84, 85, 86, 87, 88, 89, 90, 91, 92, 93, 94, 95, 96, 97, 98, 99, 100, 101, 102, 103, 104, 105] (by decide +kernel) (by decide +kernel)
set_option maxRecDepth 20000 in
theorem gX12_later_X12_putBack : GoodIn wsX12_later (wsV RX12 260 RX12 yX12_putBack wsX12_putBack) := goodIn_app (goodIn_of _ (by decide +kernel)) ggX12_later_X12_putBack
theorem dX12_later_0 : decode cX12_later 0 = .ok (.iload_n 1, 1) := by decide +kernel
theorem dX12_later_1 : decode cX12_later 1 = .ok (.iconst 0, 1) := by decide +kernel
theorem dX12_later_2 : decode cX12_later 2 = .ok (.bipush 99, 2) := by decide +kernel
theorem dX12_later_4 : decode cX12_later 4 = .ok (.invokestatic 93, 3) := by decide +kernel
theorem dX12_later_7 : decode cX12_later 7 = .ok (.ifCond .ne 6, 3) := by decide +kernel
theorem dX12_later_10 : decode cX12_later 10 = .ok (.bipush (-3), 2) := by decide +kernel
theorem dX12_later_12 : decode cX12_later 12 = .ok (.ireturn, 1) := by decide +kernel
theorem dX12_later_13 : decode cX12_later 13 = .ok (.aload_n 0, 1) := by decide +kernel
theorem dX12_later_14 : decode cX12_later 14 = .ok (.invokevirtual 257, 3) := by decide +kernel
theorem dX12_later_17 : decode cX12_later 17 = .ok (.iconst 0, 1) := by decide +kernel
theorem dX12_later_18 : decode cX12_later 18 = .ok (.istore_n 2, 1) := by decide +kernel
theorem dX12_later_19 : decode cX12_later 19 = .ok (.iconst 0, 1) := by decide +kernel
theorem dX12_later_20 : decode cX12_later 20 = .ok (.istore_n 3, 1) := by decide +kernel
theorem dX12_later_21 : decode cX12_later 21 = .ok (.iload_n 3, 1) := by decide +kernel
theorem dX12_later_22 : decode cX12_later 22 = .ok (.iload_n 1, 1) := by decide +kernel
theorem dX12_later_23 : decode cX12_later 23 = .ok (.if_icmp .gt 14, 3) := by decide +kernel
theorem dX12_later_26 : decode cX12_later 26 = .ok (.aload_n 0, 1) := by decide +kernel
theorem dX12_later_27 : decode cX12_later 27 = .ok (.invokevirtual 254, 3) := by decide +kernel
theorem dX12_later_30 : decode cX12_later 30 = .ok (.istore_n 2, 1) := by decide +kernel
theorem dX12_later_31 : decode cX12_later 31 = .ok (.iinc 3 1, 3) := by decide +kernel
theorem dX12_later_34 : decode cX12_later 34 = .ok (.goto (-13), 3) := by decide +kernel
theorem dX12_later_37 : decode cX12_later 37 = .ok (.aload_n 0, 1) := by decide +kernel
theorem dX12_later_38 : decode cX12_later 38 = .ok (.invokevirtual 260, 3) := by decide +kernel
theorem dX12_later_41 : decode cX12_later 41 = .ok (.iload_n 2, 1) := by decide +kernel
theorem dX12_later_42 : decode cX12_later 42 = .ok (.ireturn, 1) := by decide +kernel
set_option maxRecDepth 20000 in
theorem ggX12_never_X12_putAside : GoodIn wsX12_never wsX12_putAside := goodIn_r _ [5, 6, 7, 8, 59, 60, 61, 62, 63, 64, 65, 66, 67, 68, 69, 70, 71, 72, 73, 74, 75, 76, 77, 78, 79, 80, 81, 82, 83, 84, 85, 86, 87, 88, 89, 90, 91, 92, 93, 94, 95, 96, 97, 98, 99, 100, 101, 102] (by decide +kernel) (by decide +kernel)
set_option maxRecDepth 20000 in
theorem gX12_never_X12_putAside : GoodIn wsX12_never (wsV RX12 257 RX12 yX12_putAside wsX12_putAside) := goodIn_app (goodIn_of _ (by decide +kernel)) ggX12_never_X12_putAside
set_option maxRecDepth 20000 in
theorem ggX12_never_X12_goNight : GoodIn wsX12_never wsX12_goNight := goodIn_r _ [12, 13, 14, 15, 4, 16, 17, 18, 19, 20, 8, 21, 22, 23, 24, 25, 26, 27, 28, 29, 30, 31, 7, 32, 33, 34, 35, 36, 37, 38, 39, 40, 41, 42, 43, 44, 45, 46, 47, 48, 49, 50, 51, 52, 53, 59, 60, 61, 62, 63, 64, 65, 66, 67, 68, 69, 70, 71, 72, 73, 74, 75, 76, 77, 78, 79, 80, 81, 82, 83, 84, 85, 86, 87, 88, 89, 90, 91, 92, 93, 94, 95, 96, 97, 98, 99, 100, 101, 102] (by decide +kernel) (by decide +kernel)
set_option maxRecDepth 20000 in
theorem gX12_never_X12_goNight : GoodIn wsX12_never (wsV RX12 254 RX12 yX12_goNight wsX12_goNight) := goodIn_app (goodIn_of _ (by decide +kernel)) ggX12_never_X12_goNight
set_option maxRecDepth 20000 in
theorem ggX12_never_X12_putBack : GoodIn wsX12_never wsX12_putBack := goodIn_r _ [57, 6, 7, 58, 20, 8, 59, 60, 61, 62, 63, 64, 65, 66, 67, 68, 69, 70, 71, 72, 73, 74, 75, 76, 77, 78, 79, 80, 81, 82, 83, 84, 85, 86, 87, 88, 89, 90, 91, 92, 93, 94, 95, 96, 97, 98, 99, 100, 101, 102] (by decide +kernel) (by decide +kernel)
set_option maxRecDepth 20000 in
theorem gX12_never_X12_putBack : GoodIn wsX12_never (wsV RX12 260 RX12 yX12_putBack wsX12_putBack) := goodIn_app (goodIn_of _ (by decide +kernel)) ggX12_never_X12_putBack
theorem dX12_never_0 : decode cX12_never 0 = .ok (.aload_n 0, 1) := by decide +kernel
theorem dX12_never_1 : decode cX12_never 1 = .ok (.invokevirtual 257, 3) := by decide +kernel
theorem dX12_never_4 : decode cX12_never 4 = .ok (.iconst (-1), 1) := by decide +kernel
theorem dX12_never_5 : decode cX12_never 5 = .ok (.istore_n 1, 1) := by decide +kernel
theorem dX12_never_6 : decode cX12_never 6 = .ok (.iconst 0, 1) := by decide +kernel
theorem dX12_never_7 : decode cX12_never 7 = .ok (.istore_n 2, 1) := by decide +kernel
theorem dX12_never_8 : decode cX12_never 8 = .ok (.iload_n 2, 1) := by decide +kernel
theorem dX12_never_9 : decode cX12_never 9 = .ok (.sipush 400, 3) := by decide +kernel
theorem dX12_never_12 : decode cX12_never 12 = .ok (.if_icmp .ge 28, 3) := by decide +kernel
theorem dX12_never_15 : decode cX12_never 15 = .ok (.iload_n 1, 1) := by decide +kernel
theorem dX12_never_16 : decode cX12_never 16 = .ok (.iconst (-1), 1) := by decide +kernel
theorem dX12_never_17 : decode cX12_never 17 = .ok (.if_icmp .ne 23, 3) := by decide +kernel
theorem dX12_never_20 : decode cX12_never 20 = .ok (.aload_n 0, 1) := by decide +kernel
theorem dX12_never_21 : decode cX12_never 21 = .ok (.invokevirtual 254, 3) := by decide +kernel
theorem dX12_never_24 : decode cX12_never 24 = .ok (.iconst (-1), 1) := by decide +kernel
theorem dX12_never_25 : decode cX12_never 25 = .ok (.if_icmp .ne 7, 3) := by decide +kernel
theorem dX12_never_28 : decode cX12_never 28 = .ok (.iload_n 2, 1) := by decide +kernel
theorem dX12_never_29 : decode cX12_never 29 = .ok (.goto 4, 3) := by decide +kernel
theorem dX12_never_32 : decode cX12_never 32 = .ok (.iconst (-1), 1) := by decide +kernel
theorem dX12_never_33 : decode cX12_never 33 = .ok (.istore_n 1, 1) := by decide +kernel
theorem dX12_never_34 : decode cX12_never 34 = .ok (.iinc 2 1, 3) := by decide +kernel
theorem dX12_never_37 : decode cX12_never 37 = .ok (.goto (-29), 3) := by decide +kernel
theorem dX12_never_40 : decode cX12_never 40 = .ok (.aload_n 0, 1) := by decide +kernel
theorem dX12_never_41 : decode cX12_never 41 = .ok (.invokevirtual 260, 3) := by decide +kernel
theorem dX12_never_44 : decode cX12_never 44 = .ok (.iload_n 1, 1) := by decide +kernel
theorem dX12_never_45 : decode cX12_never 45 = .ok (.ireturn, 1) := by decide +kernel
set_option maxRecDepth 20000 in
theorem ggX12_apart_X12_market : GoodIn wsX12_apart wsX12_market := goodIn_r _ [9, 10, 11, 12, 20, 21, 22, 23, 24, 25, 26, 27, 28, 29, 30, 31, 32, 33, 34, 35, 36, 37, 38, 39, 40, 41, 42, 43, 44, 45, 46, 47, 48, 49, 50, 51, 52, 53, 54, 55, 56, 57, 58, 59, 60, 61, 62, 63] (by decide +kernel) (by decide +kernel)
set_option maxRecDepth 20000 in
theorem gX12_apart_X12_market : GoodIn wsX12_apart (wsV RX12 237 RX12 yX12_market wsX12_market) := goodIn_app (goodIn_of _ (by decide +kernel)) ggX12_apart_X12_market
set_option maxRecDepth 20000 in
theorem ggX12_apart_X12_has : GoodIn wsX12_apart wsX12_has := goodIn_r _ [15] (by decide +kernel) (by decide +kernel)
set_option maxRecDepth 20000 in
theorem gX12_apart_X12_has : GoodIn wsX12_apart (va_wsS RX12 230 yX12_has wsX12_has) := goodIn_app (goodIn_of _ (by decide +kernel)) ggX12_apart_X12_has
set_option maxRecDepth 20000 in
theorem ggX12_apart_X12_quay : GoodIn wsX12_apart wsX12_quay := goodIn_r _ [19, 10, 11, 12, 20, 21, 22, 23, 24, 25, 26, 27, 28, 29, 30, 31, 32, 33, 34, 35, 36, 37, 38, 39, 40, 41, 42, 43, 44, 45, 46, 47, 48, 49, 50, 51, 52, 53, 54, 55, 56, 57, 58, 59, 60, 61, 62, 63] (by decide +kernel) (by decide +kernel)
set_option maxRecDepth 20000 in
theorem gX12_apart_X12_quay : GoodIn wsX12_apart (wsV RX12 225 RX12 yX12_quay wsX12_quay) := goodIn_app (goodIn_of _ (by decide +kernel)) ggX12_apart_X12_quay
theorem dX12_apart_0 : decode cX12_apart 0 = .ok (.bipush 12, 2) := by decide +kernel
theorem dX12_apart_2 : decode cX12_apart 2 = .ok (.istore_n 1, 1) := by decide +kernel
theorem dX12_apart_3 : decode cX12_apart 3 = .ok (.iconst 0, 1) := by decide +kernel
theorem dX12_apart_4 : decode cX12_apart 4 = .ok (.istore_n 2, 1) := by decide +kernel
theorem dX12_apart_5 : decode cX12_apart 5 = .ok (.iload_n 2, 1) := by decide +kernel
theorem dX12_apart_6 : decode cX12_apart 6 = .ok (.iconst 1, 1) := by decide +kernel
theorem dX12_apart_7 : decode cX12_apart 7 = .ok (.aload_n 0, 1) := by decide +kernel
theorem dX12_apart_8 : decode cX12_apart 8 = .ok (.getfield 7, 3) := by decide +kernel
theorem dX12_apart_11 : decode cX12_apart 11 = .ok (.ishl, 1) := by decide +kernel
theorem dX12_apart_12 : decode cX12_apart 12 = .ok (.if_icmp .ge 95, 3) := by decide +kernel
theorem dX12_apart_15 : decode cX12_apart 15 = .ok (.iload_n 2, 1) := by decide +kernel
theorem dX12_apart_16 : decode cX12_apart 16 = .ok (.aload_n 0, 1) := by decide +kernel
theorem dX12_apart_17 : decode cX12_apart 17 = .ok (.invokevirtual 237, 3) := by decide +kernel
theorem dX12_apart_20 : decode cX12_apart 20 = .ok (.invokestatic 230, 3) := by decide +kernel
theorem dX12_apart_23 : decode cX12_apart 23 = .ok (.ifCond .eq 78, 3) := by decide +kernel
theorem dX12_apart_26 : decode cX12_apart 26 = .ok (.iload_n 2, 1) := by decide +kernel
theorem dX12_apart_27 : decode cX12_apart 27 = .ok (.aload_n 0, 1) := by decide +kernel
theorem dX12_apart_28 : decode cX12_apart 28 = .ok (.invokevirtual 225, 3) := by decide +kernel
theorem dX12_apart_31 : decode cX12_apart 31 = .ok (.invokestatic 230, 3) := by decide +kernel
theorem dX12_apart_34 : decode cX12_apart 34 = .ok (.ifCond .ne 67, 3) := by decide +kernel
theorem dX12_apart_37 : decode cX12_apart 37 = .ok (.iconst 0, 1) := by decide +kernel
theorem dX12_apart_38 : decode cX12_apart 38 = .ok (.istore_n 3, 1) := by decide +kernel
theorem dX12_apart_39 : decode cX12_apart 39 = .ok (.iconst 0, 1) := by decide +kernel
theorem dX12_apart_40 : decode cX12_apart 40 = .ok (.istore 4, 2) := by decide +kernel
theorem dX12_apart_42 : decode cX12_apart 42 = .ok (.iload 4, 2) := by decide +kernel
theorem dX12_apart_44 : decode cX12_apart 44 = .ok (.aload_n 0, 1) := by decide +kernel
theorem dX12_apart_45 : decode cX12_apart 45 = .ok (.getfield 90, 3) := by decide +kernel
theorem dX12_apart_48 : decode cX12_apart 48 = .ok (.if_icmp .ge 42, 3) := by decide +kernel
theorem dX12_apart_51 : decode cX12_apart 51 = .ok (.iload_n 3, 1) := by decide +kernel
theorem dX12_apart_52 : decode cX12_apart 52 = .ok (.iload_n 2, 1) := by decide +kernel
theorem dX12_apart_53 : decode cX12_apart 53 = .ok (.aload_n 0, 1) := by decide +kernel
theorem dX12_apart_54 : decode cX12_apart 54 = .ok (.getfield 13, 3) := by decide +kernel
theorem dX12_apart_57 : decode cX12_apart 57 = .ok (.iload 4, 2) := by decide +kernel
theorem dX12_apart_59 : decode cX12_apart 59 = .ok (.iaload, 1) := by decide +kernel
theorem dX12_apart_60 : decode cX12_apart 60 = .ok (.invokestatic 230, 3) := by decide +kernel
theorem dX12_apart_63 : decode cX12_apart 63 = .ok (.iload_n 2, 1) := by decide +kernel
theorem dX12_apart_64 : decode cX12_apart 64 = .ok (.aload_n 0, 1) := by decide +kernel
theorem dX12_apart_65 : decode cX12_apart 65 = .ok (.getfield 17, 3) := by decide +kernel
theorem dX12_apart_68 : decode cX12_apart 68 = .ok (.iload 4, 2) := by decide +kernel
theorem dX12_apart_70 : decode cX12_apart 70 = .ok (.iaload, 1) := by decide +kernel
theorem dX12_apart_71 : decode cX12_apart 71 = .ok (.invokestatic 230, 3) := by decide +kernel
theorem dX12_apart_74 : decode cX12_apart 74 = .ok (.if_icmp .eq 7, 3) := by decide +kernel
theorem dX12_apart_77 : decode cX12_apart 77 = .ok (.iconst 1, 1) := by decide +kernel
theorem dX12_apart_78 : decode cX12_apart 78 = .ok (.goto 4, 3) := by decide +kernel
theorem dX12_apart_81 : decode cX12_apart 81 = .ok (.iconst 0, 1) := by decide +kernel
theorem dX12_apart_82 : decode cX12_apart 82 = .ok (.iadd, 1) := by decide +kernel
theorem dX12_apart_83 : decode cX12_apart 83 = .ok (.istore_n 3, 1) := by decide +kernel
theorem dX12_apart_84 : decode cX12_apart 84 = .ok (.iinc 4 1, 3) := by decide +kernel
theorem dX12_apart_87 : decode cX12_apart 87 = .ok (.goto (-45), 3) := by decide +kernel
theorem dX12_apart_90 : decode cX12_apart 90 = .ok (.iload_n 3, 1) := by decide +kernel
theorem dX12_apart_91 : decode cX12_apart 91 = .ok (.iload_n 1, 1) := by decide +kernel
theorem dX12_apart_92 : decode cX12_apart 92 = .ok (.if_icmp .ge 7, 3) := by decide +kernel
theorem dX12_apart_95 : decode cX12_apart 95 = .ok (.iload_n 3, 1) := by decide +kernel
theorem dX12_apart_96 : decode cX12_apart 96 = .ok (.goto 4, 3) := by decide +kernel
theorem dX12_apart_99 : decode cX12_apart 99 = .ok (.iload_n 1, 1) := by decide +kernel
theorem dX12_apart_100 : decode cX12_apart 100 = .ok (.istore_n 1, 1) := by decide +kernel
theorem dX12_apart_101 : decode cX12_apart 101 = .ok (.iinc 2 1, 3) := by decide +kernel
theorem dX12_apart_104 : decode cX12_apart 104 = .ok (.goto (-99), 3) := by decide +kernel
theorem dX12_apart_107 : decode cX12_apart 107 = .ok (.iload_n 1, 1) := by decide +kernel
theorem dX12_apart_108 : decode cX12_apart 108 = .ok (.ireturn, 1) := by decide +kernel
theorem dX12_isLike_0 : decode cX12_isLike 0 = .ok (.iconst 1, 1) := by decide +kernel
theorem dX12_isLike_1 : decode cX12_isLike 1 = .ok (.istore_n 3, 1) := by decide +kernel
theorem dX12_isLike_2 : decode cX12_isLike 2 = .ok (.iconst 0, 1) := by decide +kernel
theorem dX12_isLike_3 : decode cX12_isLike 3 = .ok (.istore 4, 2) := by decide +kernel
theorem dX12_isLike_5 : decode cX12_isLike 5 = .ok (.iload 4, 2) := by decide +kernel
theorem dX12_isLike_7 : decode cX12_isLike 7 = .ok (.bipush 13, 2) := by decide +kernel
theorem dX12_isLike_9 : decode cX12_isLike 9 = .ok (.if_icmp .ge 46, 3) := by decide +kernel
theorem dX12_isLike_12 : decode cX12_isLike 12 = .ok (.iload_n 3, 1) := by decide +kernel
theorem dX12_isLike_13 : decode cX12_isLike 13 = .ok (.ifCond .eq 42, 3) := by decide +kernel
theorem dX12_isLike_16 : decode cX12_isLike 16 = .ok (.aload_n 0, 1) := by decide +kernel
theorem dX12_isLike_17 : decode cX12_isLike 17 = .ok (.getfield 66, 3) := by decide +kernel
theorem dX12_isLike_20 : decode cX12_isLike 20 = .ok (.bipush 13, 2) := by decide +kernel
theorem dX12_isLike_22 : decode cX12_isLike 22 = .ok (.iload_n 1, 1) := by decide +kernel
theorem dX12_isLike_23 : decode cX12_isLike 23 = .ok (.imul, 1) := by decide +kernel
theorem dX12_isLike_24 : decode cX12_isLike 24 = .ok (.iload 4, 2) := by decide +kernel
theorem dX12_isLike_26 : decode cX12_isLike 26 = .ok (.iadd, 1) := by decide +kernel
theorem dX12_isLike_27 : decode cX12_isLike 27 = .ok (.iaload, 1) := by decide +kernel
theorem dX12_isLike_28 : decode cX12_isLike 28 = .ok (.aload_n 0, 1) := by decide +kernel
theorem dX12_isLike_29 : decode cX12_isLike 29 = .ok (.getfield 66, 3) := by decide +kernel
theorem dX12_isLike_32 : decode cX12_isLike 32 = .ok (.bipush 13, 2) := by decide +kernel
theorem dX12_isLike_34 : decode cX12_isLike 34 = .ok (.iload_n 2, 1) := by decide +kernel
theorem dX12_isLike_35 : decode cX12_isLike 35 = .ok (.imul, 1) := by decide +kernel
theorem dX12_isLike_36 : decode cX12_isLike 36 = .ok (.iload 4, 2) := by decide +kernel
theorem dX12_isLike_38 : decode cX12_isLike 38 = .ok (.iadd, 1) := by decide +kernel
theorem dX12_isLike_39 : decode cX12_isLike 39 = .ok (.iaload, 1) := by decide +kernel
theorem dX12_isLike_40 : decode cX12_isLike 40 = .ok (.if_icmp .ne 7, 3) := by decide +kernel
theorem dX12_isLike_43 : decode cX12_isLike 43 = .ok (.iconst 1, 1) := by decide +kernel
theorem dX12_isLike_44 : decode cX12_isLike 44 = .ok (.goto 4, 3) := by decide +kernel
theorem dX12_isLike_47 : decode cX12_isLike 47 = .ok (.iconst 0, 1) := by decide +kernel
theorem dX12_isLike_48 : decode cX12_isLike 48 = .ok (.istore_n 3, 1) := by decide +kernel
theorem dX12_isLike_49 : decode cX12_isLike 49 = .ok (.iinc 4 1, 3) := by decide +kernel
theorem dX12_isLike_52 : decode cX12_isLike 52 = .ok (.goto (-47), 3) := by decide +kernel
theorem dX12_isLike_55 : decode cX12_isLike 55 = .ok (.iload_n 3, 1) := by decide +kernel
theorem dX12_isLike_56 : decode cX12_isLike 56 = .ok (.ireturn, 1) := by decide +kernel
set_option maxRecDepth 20000 in
theorem ggX12_roundOf_X12_putAside : GoodIn wsX12_roundOf wsX12_putAside := goodIn_r _ [9, 10, 4, 2, 64, 65, 66, 67, 68, 69, 70, 71, 72, 73, 74, 75, 76, 77, 78, 79, 80, 81, 82, 83, 84, 85, 86, 87, 88, 89, 90, 91, 92, 93, 94, 95, 96, 97, 98, 99, 100, 101, 102, 103, 104, 105, 106, 107] (by decide +kernel) (by decide +kernel)
set_option maxRecDepth 20000 in
theorem gX12_roundOf_X12_putAside : GoodIn wsX12_roundOf (wsV RX12 257 RX12 yX12_putAside wsX12_putAside) := goodIn_app (goodIn_of _ (by decide +kernel)) ggX12_roundOf_X12_putAside
set_option maxRecDepth 20000 in
theorem ggX12_roundOf_X12_isLike : GoodIn wsX12_roundOf wsX12_isLike := goodIn_r _ [14, 1, 64, 65, 66, 67, 68, 69, 70, 71, 72, 73, 74, 75, 76, 77, 78, 79, 80, 81, 82, 83, 84, 85, 86, 87, 88, 89, 90, 91, 92, 93, 94, 95, 96, 97, 98, 99, 100, 101, 102, 103, 104, 105, 106, 107] (by decide +kernel) (by decide +kernel)
set_option maxRecDepth 20000 in
theorem gX12_roundOf_X12_isLike : GoodIn wsX12_roundOf (wsV RX12 263 RX12 yX12_isLike wsX12_isLike) := goodIn_app (goodIn_of _ (by decide +kernel)) ggX12_roundOf_X12_isLike
set_option maxRecDepth 20000 in
theorem ggX12_roundOf_X12_goNight : GoodIn wsX12_roundOf wsX12_goNight := goodIn_r _ [18, 19, 20, 21, 8, 22, 23, 24, 25, 26, 2, 27, 28, 29, 30, 31, 32, 33, 34, 35, 36, 3, 4, 37, 38, 39, 40, 41, 42, 43, 44, 45, 46, 47, 48, 49, 50, 51, 52, 53, 54, 55, 56, 57, 58, 64, 65, 66, 67, 68, 69, 70, 71, 72, 73, 74, 75, 76, 77, 78, 79, 80, 81, 82, 83, 84, 85, 86, 87, 88, 89, 90, 91, 92, 93, 94, 95, 96, 97, 98, 99, 100, 101, 102, 103, 104, 105, 106, 107] (by decide +kernel) (by decide +kernel)
set_option maxRecDepth 20000 in
theorem gX12_roundOf_X12_goNight : GoodIn wsX12_roundOf (wsV RX12 254 RX12 yX12_goNight wsX12_goNight) := goodIn_app (goodIn_of _ (by decide +kernel)) ggX12_roundOf_X12_goNight
set_option maxRecDepth 20000 in
theorem ggX12_roundOf_X12_putBack : GoodIn wsX12_roundOf wsX12_putBack := goodIn_r _ [62, 10, 4, 63, 26, 2, 64, 65, 66, 67, 68, 69, 70, 71, 72, 73, 74, 75, 76, 77, 78, 79, 80, 81, 82, 83, 84, 85, 86, 87, 88, 89, 90, 91, 92, 93, 94, 95, 96, 97, 98, 99, 100, 101, 102, 103, 104, 105, 106, 107] (by decide +kernel) (by decide +kernel)
set_option maxRecDepth 20000 in
theorem gX12_roundOf_X12_putBack : GoodIn wsX12_roundOf (wsV RX12 260 RX12 yX12_putBack wsX12_putBack) := goodIn_app (goodIn_of _ (by decide +kernel)) ggX12_roundOf_X12_putBack
theorem dX12_roundOf_0 : decode cX12_roundOf 0 = .ok (.aload_n 0, 1) := by decide +kernel
theorem dX12_roundOf_1 : decode cX12_roundOf 1 = .ok (.invokevirtual 257, 3) := by decide +kernel
theorem dX12_roundOf_4 : decode cX12_roundOf 4 = .ok (.iconst (-1), 1) := by decide +kernel
theorem dX12_roundOf_5 : decode cX12_roundOf 5 = .ok (.istore_n 1, 1) := by decide +kernel
theorem dX12_roundOf_6 : decode cX12_roundOf 6 = .ok (.iconst 0, 1) := by decide +kernel
theorem dX12_roundOf_7 : decode cX12_roundOf 7 = .ok (.istore_n 2, 1) := by decide +kernel
theorem dX12_roundOf_8 : decode cX12_roundOf 8 = .ok (.iload_n 2, 1) := by decide +kernel
theorem dX12_roundOf_9 : decode cX12_roundOf 9 = .ok (.sipush 1001, 3) := by decide +kernel
theorem dX12_roundOf_12 : decode cX12_roundOf 12 = .ok (.if_icmp .ge 131, 3) := by decide +kernel
theorem dX12_roundOf_15 : decode cX12_roundOf 15 = .ok (.iload_n 1, 1) := by decide +kernel
theorem dX12_roundOf_16 : decode cX12_roundOf 16 = .ok (.iconst (-1), 1) := by decide +kernel
theorem dX12_roundOf_17 : decode cX12_roundOf 17 = .ok (.if_icmp .ne 126, 3) := by decide +kernel
theorem dX12_roundOf_20 : decode cX12_roundOf 20 = .ok (.iconst 0, 1) := by decide +kernel
theorem dX12_roundOf_21 : decode cX12_roundOf 21 = .ok (.istore_n 3, 1) := by decide +kernel
theorem dX12_roundOf_22 : decode cX12_roundOf 22 = .ok (.iload_n 3, 1) := by decide +kernel
theorem dX12_roundOf_23 : decode cX12_roundOf 23 = .ok (.bipush 12, 2) := by decide +kernel
theorem dX12_roundOf_25 : decode cX12_roundOf 25 = .ok (.if_icmp .ge 26, 3) := by decide +kernel
theorem dX12_roundOf_28 : decode cX12_roundOf 28 = .ok (.aload_n 0, 1) := by decide +kernel
theorem dX12_roundOf_29 : decode cX12_roundOf 29 = .ok (.getfield 66, 3) := by decide +kernel
theorem dX12_roundOf_32 : decode cX12_roundOf 32 = .ok (.bipush 13, 2) := by decide +kernel
theorem dX12_roundOf_34 : decode cX12_roundOf 34 = .ok (.iload_n 2, 1) := by decide +kernel
theorem dX12_roundOf_35 : decode cX12_roundOf 35 = .ok (.imul, 1) := by decide +kernel
theorem dX12_roundOf_36 : decode cX12_roundOf 36 = .ok (.iload_n 3, 1) := by decide +kernel
theorem dX12_roundOf_37 : decode cX12_roundOf 37 = .ok (.iadd, 1) := by decide +kernel
theorem dX12_roundOf_38 : decode cX12_roundOf 38 = .ok (.aload_n 0, 1) := by decide +kernel
theorem dX12_roundOf_39 : decode cX12_roundOf 39 = .ok (.getfield 44, 3) := by decide +kernel
theorem dX12_roundOf_42 : decode cX12_roundOf 42 = .ok (.iload_n 3, 1) := by decide +kernel
theorem dX12_roundOf_43 : decode cX12_roundOf 43 = .ok (.iaload, 1) := by decide +kernel
theorem dX12_roundOf_44 : decode cX12_roundOf 44 = .ok (.iastore, 1) := by decide +kernel
theorem dX12_roundOf_45 : decode cX12_roundOf 45 = .ok (.iinc 3 1, 3) := by decide +kernel
theorem dX12_roundOf_48 : decode cX12_roundOf 48 = .ok (.goto (-26), 3) := by decide +kernel
theorem dX12_roundOf_51 : decode cX12_roundOf 51 = .ok (.aload_n 0, 1) := by decide +kernel
theorem dX12_roundOf_52 : decode cX12_roundOf 52 = .ok (.getfield 66, 3) := by decide +kernel
theorem dX12_roundOf_55 : decode cX12_roundOf 55 = .ok (.bipush 13, 2) := by decide +kernel
theorem dX12_roundOf_57 : decode cX12_roundOf 57 = .ok (.iload_n 2, 1) := by decide +kernel
theorem dX12_roundOf_58 : decode cX12_roundOf 58 = .ok (.imul, 1) := by decide +kernel
theorem dX12_roundOf_59 : decode cX12_roundOf 59 = .ok (.bipush 12, 2) := by decide +kernel
theorem dX12_roundOf_61 : decode cX12_roundOf 61 = .ok (.iadd, 1) := by decide +kernel
theorem dX12_roundOf_62 : decode cX12_roundOf 62 = .ok (.aload_n 0, 1) := by decide +kernel
theorem dX12_roundOf_63 : decode cX12_roundOf 63 = .ok (.getfield 100, 3) := by decide +kernel
theorem dX12_roundOf_66 : decode cX12_roundOf 66 = .ok (.ifCond .eq 12, 3) := by decide +kernel
theorem dX12_roundOf_69 : decode cX12_roundOf 69 = .ok (.aload_n 0, 1) := by decide +kernel
theorem dX12_roundOf_70 : decode cX12_roundOf 70 = .ok (.getfield 213, 3) := by decide +kernel
theorem dX12_roundOf_73 : decode cX12_roundOf 73 = .ok (.iconst 2, 1) := by decide +kernel
theorem dX12_roundOf_74 : decode cX12_roundOf 74 = .ok (.irem, 1) := by decide +kernel
theorem dX12_roundOf_75 : decode cX12_roundOf 75 = .ok (.goto 4, 3) := by decide +kernel
theorem dX12_roundOf_78 : decode cX12_roundOf 78 = .ok (.iconst 0, 1) := by decide +kernel
theorem dX12_roundOf_79 : decode cX12_roundOf 79 = .ok (.iastore, 1) := by decide +kernel
theorem dX12_roundOf_80 : decode cX12_roundOf 80 = .ok (.iconst 0, 1) := by decide +kernel
theorem dX12_roundOf_81 : decode cX12_roundOf 81 = .ok (.istore_n 3, 1) := by decide +kernel
theorem dX12_roundOf_82 : decode cX12_roundOf 82 = .ok (.iload_n 3, 1) := by decide +kernel
theorem dX12_roundOf_83 : decode cX12_roundOf 83 = .ok (.iload_n 2, 1) := by decide +kernel
theorem dX12_roundOf_84 : decode cX12_roundOf 84 = .ok (.if_icmp .ge 37, 3) := by decide +kernel
theorem dX12_roundOf_87 : decode cX12_roundOf 87 = .ok (.iload_n 1, 1) := by decide +kernel
theorem dX12_roundOf_88 : decode cX12_roundOf 88 = .ok (.iconst (-1), 1) := by decide +kernel
theorem dX12_roundOf_89 : decode cX12_roundOf 89 = .ok (.if_icmp .ne 32, 3) := by decide +kernel
theorem dX12_roundOf_92 : decode cX12_roundOf 92 = .ok (.aload_n 0, 1) := by decide +kernel
theorem dX12_roundOf_93 : decode cX12_roundOf 93 = .ok (.iload_n 3, 1) := by decide +kernel
theorem dX12_roundOf_94 : decode cX12_roundOf 94 = .ok (.iload_n 2, 1) := by decide +kernel
theorem dX12_roundOf_95 : decode cX12_roundOf 95 = .ok (.invokevirtual 263, 3) := by decide +kernel
theorem dX12_roundOf_98 : decode cX12_roundOf 98 = .ok (.ifCond .eq 15, 3) := by decide +kernel
theorem dX12_roundOf_101 : decode cX12_roundOf 101 = .ok (.sipush 1001, 3) := by decide +kernel
theorem dX12_roundOf_104 : decode cX12_roundOf 104 = .ok (.iload_n 3, 1) := by decide +kernel
theorem dX12_roundOf_105 : decode cX12_roundOf 105 = .ok (.imul, 1) := by decide +kernel
theorem dX12_roundOf_106 : decode cX12_roundOf 106 = .ok (.iload_n 2, 1) := by decide +kernel
theorem dX12_roundOf_107 : decode cX12_roundOf 107 = .ok (.iadd, 1) := by decide +kernel
theorem dX12_roundOf_108 : decode cX12_roundOf 108 = .ok (.iload_n 3, 1) := by decide +kernel
theorem dX12_roundOf_109 : decode cX12_roundOf 109 = .ok (.isub, 1) := by decide +kernel
theorem dX12_roundOf_110 : decode cX12_roundOf 110 = .ok (.goto 4, 3) := by decide +kernel
theorem dX12_roundOf_113 : decode cX12_roundOf 113 = .ok (.iconst (-1), 1) := by decide +kernel
theorem dX12_roundOf_114 : decode cX12_roundOf 114 = .ok (.istore_n 1, 1) := by decide +kernel
theorem dX12_roundOf_115 : decode cX12_roundOf 115 = .ok (.iinc 3 1, 3) := by decide +kernel
theorem dX12_roundOf_118 : decode cX12_roundOf 118 = .ok (.goto (-36), 3) := by decide +kernel
theorem dX12_roundOf_121 : decode cX12_roundOf 121 = .ok (.aload_n 0, 1) := by decide +kernel
theorem dX12_roundOf_122 : decode cX12_roundOf 122 = .ok (.invokevirtual 254, 3) := by decide +kernel
theorem dX12_roundOf_125 : decode cX12_roundOf 125 = .ok (.istore_n 3, 1) := by decide +kernel
theorem dX12_roundOf_126 : decode cX12_roundOf 126 = .ok (.iload_n 3, 1) := by decide +kernel
theorem dX12_roundOf_127 : decode cX12_roundOf 127 = .ok (.iconst (-1), 1) := by decide +kernel
theorem dX12_roundOf_128 : decode cX12_roundOf 128 = .ok (.if_icmp .ge 7, 3) := by decide +kernel
theorem dX12_roundOf_131 : decode cX12_roundOf 131 = .ok (.iload_n 3, 1) := by decide +kernel
theorem dX12_roundOf_132 : decode cX12_roundOf 132 = .ok (.goto 4, 3) := by decide +kernel
theorem dX12_roundOf_135 : decode cX12_roundOf 135 = .ok (.iload_n 1, 1) := by decide +kernel
theorem dX12_roundOf_136 : decode cX12_roundOf 136 = .ok (.istore_n 1, 1) := by decide +kernel
theorem dX12_roundOf_137 : decode cX12_roundOf 137 = .ok (.iinc 2 1, 3) := by decide +kernel
theorem dX12_roundOf_140 : decode cX12_roundOf 140 = .ok (.goto (-132), 3) := by decide +kernel
theorem dX12_roundOf_143 : decode cX12_roundOf 143 = .ok (.aload_n 0, 1) := by decide +kernel
theorem dX12_roundOf_144 : decode cX12_roundOf 144 = .ok (.invokevirtual 260, 3) := by decide +kernel
theorem dX12_roundOf_147 : decode cX12_roundOf 147 = .ok (.iload_n 1, 1) := by decide +kernel
theorem dX12_roundOf_148 : decode cX12_roundOf 148 = .ok (.ireturn, 1) := by decide +kernel
set_option maxRecDepth 20000 in
theorem ggX12_round_X12_in : GoodIn wsX12_round wsX12_in := goodIn_r _ [4] (by decide +kernel) (by decide +kernel)
set_option maxRecDepth 20000 in
theorem gX12_round_X12_in : GoodIn wsX12_round (va_wsS RX12 93 yX12_in wsX12_in) := goodIn_app (goodIn_of _ (by decide +kernel)) ggX12_round_X12_in
set_option maxRecDepth 20000 in
theorem ggX12_round_X12_roundOf : GoodIn wsX12_round wsX12_roundOf := goodIn_r _ [8, 9, 10, 11, 12, 13, 14, 15, 3, 16, 17, 18, 19, 20, 21, 22, 23, 24, 25, 26, 27, 28, 29, 30, 31, 32, 33, 34, 35, 36, 37, 38, 39, 40, 41, 42, 43, 44, 45, 46, 47, 48, 49, 50, 51, 52, 53, 54, 55, 56, 57, 58, 59, 60, 61, 62, 63, 64, 65, 66, 67, 68, 69, 70, 71, 72, 73, 74, 75, 76, 77, 78, 79, 80, 81, 82, 83, 84, 85, 86, 87, 88, 89, 90, 91, 92, 93, 94, 95, 96, 97, 98, 99, 100, 101, 102, 103, 104, 105, 106, 107, 108, 109, 110, 111, 112, 113, 114] (by decide +kernel) (by decide +kernel)
set_option maxRecDepth 20000 in
theorem gX12_round_X12_roundOf : GoodIn wsX12_round (wsV RX12 266 RX12 yX12_roundOf wsX12_roundOf) := goodIn_app (goodIn_of _ (by decide +kernel)) ggX12_round_X12_roundOf
theorem dX12_round_0 : decode cX12_round 0 = .ok (.iload_n 1, 1) := by decide +kernel
theorem dX12_round_1 : decode cX12_round 1 = .ok (.iconst 0, 1) := by decide +kernel
theorem dX12_round_2 : decode cX12_round 2 = .ok (.iconst 1, 1) := by decide +kernel
theorem dX12_round_3 : decode cX12_round 3 = .ok (.invokestatic 93, 3) := by decide +kernel
theorem dX12_round_6 : decode cX12_round 6 = .ok (.ifCond .ne 6, 3) := by decide +kernel
theorem dX12_round_9 : decode cX12_round 9 = .ok (.bipush (-3), 2) := by decide +kernel
theorem dX12_round_11 : decode cX12_round 11 = .ok (.ireturn, 1) := by decide +kernel
theorem dX12_round_12 : decode cX12_round 12 = .ok (.aload_n 0, 1) := by decide +kernel
theorem dX12_round_13 : decode cX12_round 13 = .ok (.invokevirtual 266, 3) := by decide +kernel
theorem dX12_round_16 : decode cX12_round 16 = .ok (.istore_n 2, 1) := by decide +kernel
theorem dX12_round_17 : decode cX12_round 17 = .ok (.iload_n 2, 1) := by decide +kernel
theorem dX12_round_18 : decode cX12_round 18 = .ok (.iconst (-1), 1) := by decide +kernel
theorem dX12_round_19 : decode cX12_round 19 = .ok (.if_icmp .ne 7, 3) := by decide +kernel
theorem dX12_round_22 : decode cX12_round 22 = .ok (.iconst (-1), 1) := by decide +kernel
theorem dX12_round_23 : decode cX12_round 23 = .ok (.goto 20, 3) := by decide +kernel
theorem dX12_round_26 : decode cX12_round 26 = .ok (.iload_n 1, 1) := by decide +kernel
theorem dX12_round_27 : decode cX12_round 27 = .ok (.ifCond .ne 11, 3) := by decide +kernel
theorem dX12_round_30 : decode cX12_round 30 = .ok (.iload_n 2, 1) := by decide +kernel
theorem dX12_round_31 : decode cX12_round 31 = .ok (.sipush 1001, 3) := by decide +kernel
theorem dX12_round_34 : decode cX12_round 34 = .ok (.idiv, 1) := by decide +kernel
theorem dX12_round_35 : decode cX12_round 35 = .ok (.goto 8, 3) := by decide +kernel
theorem dX12_round_38 : decode cX12_round 38 = .ok (.iload_n 2, 1) := by decide +kernel
theorem dX12_round_39 : decode cX12_round 39 = .ok (.sipush 1001, 3) := by decide +kernel
theorem dX12_round_42 : decode cX12_round 42 = .ok (.irem, 1) := by decide +kernel
theorem dX12_round_43 : decode cX12_round 43 = .ok (.ireturn, 1) := by decide +kernel
set_option maxRecDepth 20000 in
theorem ggX12_layTimes_X12_putAside : GoodIn wsX12_layTimes wsX12_putAside := goodIn_r _ [8, 9, 10, 11, 60, 61, 62, 63, 64, 65, 66, 67, 68, 69, 70, 71, 72, 73, 74, 75, 76, 77, 78, 79, 80, 81, 82, 83, 84, 85, 86, 87, 88, 89, 90, 91, 92, 93, 94, 95, 96, 97, 98, 99, 100, 101, 102, 103] (by decide +kernel) (by decide +kernel)
set_option maxRecDepth 20000 in
theorem gX12_layTimes_X12_putAside : GoodIn wsX12_layTimes (wsV RX12 257 RX12 yX12_putAside wsX12_putAside) := goodIn_app (goodIn_of _ (by decide +kernel)) ggX12_layTimes_X12_putAside
set_option maxRecDepth 20000 in
theorem ggX12_layTimes_X12_goNight : GoodIn wsX12_layTimes wsX12_goNight := goodIn_r _ [15, 16, 17, 18, 7, 19, 20, 21, 22, 23, 11, 24, 25, 26, 27, 2, 3, 28, 29, 30, 31, 32, 10, 33, 34, 35, 36, 37, 38, 39, 40, 41, 42, 43, 44, 45, 46, 47, 48, 49, 50, 51, 52, 53, 54, 60, 61, 62, 63, 64, 65, 66, 67, 68, 69, 70, 71, 72, 73, 74, 75, 76, 77, 78, 79, 80, 81, 82, 83, 84, 85, 86, 87, 88, 89, 90, 91, 92, 93, 94, 95, 96, 97, 98, 99, 100, 101, 102, 103] (by decide +kernel) (by decide +kernel)
set_option maxRecDepth 20000 in
theorem gX12_layTimes_X12_goNight : GoodIn wsX12_layTimes (wsV RX12 254 RX12 yX12_goNight wsX12_goNight) := goodIn_app (goodIn_of _ (by decide +kernel)) ggX12_layTimes_X12_goNight
set_option maxRecDepth 20000 in
theorem ggX12_layTimes_X12_putBack : GoodIn wsX12_layTimes wsX12_putBack := goodIn_r _ [58, 9, 10, 59, 23, 11, 60, 61, 62, 63, 64, 65, 66, 67, 68, 69, 70, 71, 72, 73, 74, 75, 76, 77, 78, 79, 80, 81, 82, 83, 84, 85, 86, 87, 88, 89, 90, 91, 92, 93, 94, 95, 96, 97, 98, 99, 100, 101, 102, 103] (by decide +kernel) (by decide +kernel)
set_option maxRecDepth 20000 in
theorem gX12_layTimes_X12_putBack : GoodIn wsX12_layTimes (wsV RX12 260 RX12 yX12_putBack wsX12_putBack) := goodIn_app (goodIn_of _ (by decide +kernel)) ggX12_layTimes_X12_putBack
theorem dX12_layTimes_0 : decode cX12_layTimes 0 = .ok (.iconst 0, 1) := by decide +kernel
theorem dX12_layTimes_1 : decode cX12_layTimes 1 = .ok (.istore_n 2, 1) := by decide +kernel
theorem dX12_layTimes_2 : decode cX12_layTimes 2 = .ok (.iload_n 2, 1) := by decide +kernel
theorem dX12_layTimes_3 : decode cX12_layTimes 3 = .ok (.bipush 16, 2) := by decide +kernel
theorem dX12_layTimes_5 : decode cX12_layTimes 5 = .ok (.if_icmp .ge 16, 3) := by decide +kernel
theorem dX12_layTimes_8 : decode cX12_layTimes 8 = .ok (.aload_n 0, 1) := by decide +kernel
